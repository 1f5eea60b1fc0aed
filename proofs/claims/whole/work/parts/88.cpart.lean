-- the class's PART
theorem c_placeOf {E : EN} (hE : Ep E) {k : Nat} {mem : Mm} {Q : Int → Mm → Prop} {T : Rw} {n q w : Int} (h : cTk mem T n q) (hw : 4 ≤ w ∧ w ≤ 6) (hQ1 : tS T n q = 2 ∧ tN T n q < (if w = 4 then 10 else 32) → Q (wBase w + tN T n q) mem) (hQ0 : ¬ (tS T n q = 2 ∧ tN T n q < (if w = 4 then 10 else 32)) → Q (-1) mem) : CI E mX7_placeOf k mem [aR 591, aI w] Q := by
  refine eX7_placeOf ⟨by omega, by omega⟩ (rX7_placeOf_0 hE ?_)
  rw [h.2.2.2.1]
  refine ⟨fun z => hQ0 fun y => z y.1, fun z => ?_⟩
  rw [h.2.2.2.2 z]
  have hn := (tN_b (T := T) (n := n) (p := q)).1 z
  have hr : ∀ b, b = wBase w → tN T n q < (if w = 4 then 10 else 32) → R32 (b + tN T n q) ∧ Q (b + tN T n q) mem := by
    intro b hb hl
    subst hb
    refine ⟨?_, hQ1 ⟨z, hl⟩⟩
    unfold wBase
    constructor <;> (repeat' split) <;> omega
  refine ⟨fun w4 => ⟨fun c => ?_, fun c => hQ0 fun y => ?_⟩, fun w4 => ⟨fun c => ?_, fun c => hQ0 fun y => ?_⟩⟩
  · refine ⟨fun e => absurd e w4, fun e => hr 14 (by unfold wBase; rw [if_neg w4, if_pos e]) (by rw [if_neg w4]; exact c), fun e => hr 46 (by unfold wBase; rw [if_neg w4, if_neg e.2]) (by rw [if_neg w4]; exact c)⟩
  · have := y.2
    rw [if_neg w4] at this
    omega
  · refine ⟨fun e => hr 4 (by unfold wBase; rw [if_pos e]) (by rw [if_pos w4]; exact c), fun e => absurd w4 (by omega), fun e => absurd w4 e.1⟩
  · have := y.2
    rw [if_pos w4] at this
    omega
theorem c_leafEnd {E : EN} (hE : Ep E) {k : Nat} {mem : Mm} {Q : Int → Mm → Prop} {t : Int} {T : Rw} {n : Int} {od : Bool} {p c s v u : Int} (ht : isTx t) (hT : tOk T n) (h : cSt mem t T n od p c s) (hp : 0 ≤ p) (hpn : p ≤ n) (hc : 0 ≤ c) (hc2 : c ≤ 50) (s0 : 0 ≤ s) (s1 : s < 400) (rv : R32 v) (ru : R32 u) (hQ : ∀ m9, cFr t s mem m9 → cSt m9 t T n od (tT T n p) (c + 1) (s + 1) → m9 (t + 6) s = v → m9 (t + 7) s = u → Q 1 m9) :
    CI E mX9_emit (k + 1) mem [aR t, aI v, aI u] (fun _ m6 => (R32 ((m6 591 6) + 1)) ∧ (CV E mX7_advance (k + 1) (aUp m6 591 6 ((m6 591 6) + 1)) [aR 591] (fun m9 => Q 1 m9))) := by
  refine c_emit hE ht h s0 s1 rv ru fun m2 a1 a2 a3 a4 _ => ?_
  rw [a2.2.2.2.1]
  refine ⟨⟨by omega, by omega⟩, ?_⟩
  have ht2 := ht
  unfold isTx at ht2
  have b2 : cSt (aUp m2 591 6 (c + 1)) t T n od p (c + 1) (s + 1) := by
    obtain ⟨⟨⟨x1, x2⟩, x3, x4, x5, x6⟩, x7, x8, x9, x10⟩ := a2
    have g : ∀ o i, ¬ (o = 591 ∧ i = 6) → (aUp m2 591 6 (c + 1)) o i = m2 o i := fun o i q => aUp_nn q
    exact ⟨⟨⟨(g _ _ (by omega)).trans x1, fun i y z => (g _ _ (by omega)).trans (x2 i y z)⟩, (g _ _ (by omega)).trans x3, (g _ _ (by omega)).trans x4, (g _ _ (by omega)).trans x5, fun y => (g _ _ (by omega)).trans (x6 y)⟩, (g _ _ (by omega)).trans x7, (g _ _ (by omega)).trans x8, aUp_re, (g _ _ (by omega)).trans x10⟩
  refine c_advS hE ht hT b2 hp hpn fun m9 d1 d2 => hQ m9 (fun o i x y z => ?_) d2 ?_ ?_
  · rw [d1 o i (by omega), aUp_nn (by omega)]
    exact a1 o i x y z
  · rw [d1 _ _ (by omega), aUp_nn (by omega)]
    exact a3
  · rw [d1 _ _ (by omega), aUp_nn (by omega)]
    exact a4
theorem c_leaf {E : EN} (hE : Ep E) (hSt : aStr E) {j : Nat} {mem : Mm} {Q : Int → Mm → Prop} {t : Int} {T : Rw} {n : Int} {od : Bool} {N p c s : Int} {L : Nat} (ht : isTx t) (hT : tOk T n) (hN : N = if od = true then 78 else 10) (hL : L < 40) (hst : cSt mem t T n od p c s) (hp : 0 ≤ p) (hpn : p ≤ n) (hc : 0 ≤ c) (hc2 : c ≤ 50) (hs0 : 0 ≤ s) (hsp : s ≤ tF T n p)
    (hF : ∀ x, pLeaf od T n p c = .inr x → ∀ m2, cFr t s mem m2 → m2 591 7 = x → Q 0 m2)
    (hO : ∀ q d f, pLeaf od T n p c = .inl (q, d, f) → ∀ m2 s2, cFr t s mem m2 → cSt m2 t T n od q d s2 → s2 - s ≤ tF T n q - tF T n p → cSg N m2 t L s s2 f → Q 1 m2) :
    (((mem 591 6) < 50 → ((¬ (mem 591 9) = 2 → (((mem 591 5) = 0 → (CI E mX7_wordIn (j + 5) mem [aR 591, aF (strA E 12)] (fun r4 m3 => (((m3 591 5) = 0 → ((¬ r4 = (-1) → (isTx (m3 591 4)) ∧ (R32 r4 → CI E mX9_emit (j + 5) m3 [aR (m3 591 4), aI 1, aI r4] (fun r7 m6 => (R32 ((m6 591 6) + 1)) ∧ (CV E mX7_advance (j + 5) (aUp m6 591 6 ((m6 591 6) + 1)) [aR 591] (fun m9 => Q 1 m9))))) ∧ (r4 = (-1) → Q 0 m3))) ∧ (¬ (m3 591 5) = 0 → ((r4 < 4 → ((¬ r4 = (-1) → (isTx (m3 591 4)) ∧ (R32 r4 → CI E mX9_emit (j + 5) m3 [aR (m3 591 4), aI 1, aI r4] (fun r12 m11 => (R32 ((m11 591 6) + 1)) ∧ (CV E mX7_advance (j + 5) (aUp m11 591 6 ((m11 591 6) + 1)) [aR 591] (fun m14 => Q 1 m14))))) ∧ (r4 = (-1) → Q 0 m3))) ∧ (4 ≤ r4 → (CV E mX7_advance (j + 5) m3 [aR 591] (fun m15 => (R32 r4 → CI E mX7_placeOf (j + 5) m15 [aR 591, aI r4] (fun r17 m16 => ((¬ r17 = (-1) → (isTx (m16 591 4)) ∧ (R32 r17 → CI E mX9_emit (j + 5) m16 [aR (m16 591 4), aI 1, aI r17] (fun r20 m19 => (R32 ((m19 591 6) + 1)) ∧ (CV E mX7_advance (j + 5) (aUp m19 591 6 ((m19 591 6) + 1)) [aR 591] (fun m22 => Q 1 m22))))) ∧ (r17 = (-1) → Q 0 m16))))))))))))) ∧ (¬ (mem 591 5) = 0 → (CI E mX7_wordIn (j + 5) mem [aR 591, aF (strA E 11)] (fun r24 m23 => (((m23 591 5) = 0 → ((¬ r24 = (-1) → (isTx (m23 591 4)) ∧ (R32 r24 → CI E mX9_emit (j + 5) m23 [aR (m23 591 4), aI 1, aI r24] (fun r27 m26 => (R32 ((m26 591 6) + 1)) ∧ (CV E mX7_advance (j + 5) (aUp m26 591 6 ((m26 591 6) + 1)) [aR 591] (fun m29 => Q 1 m29))))) ∧ (r24 = (-1) → Q 0 m23))) ∧ (¬ (m23 591 5) = 0 → ((r24 < 4 → ((¬ r24 = (-1) → (isTx (m23 591 4)) ∧ (R32 r24 → CI E mX9_emit (j + 5) m23 [aR (m23 591 4), aI 1, aI r24] (fun r32 m31 => (R32 ((m31 591 6) + 1)) ∧ (CV E mX7_advance (j + 5) (aUp m31 591 6 ((m31 591 6) + 1)) [aR 591] (fun m34 => Q 1 m34))))) ∧ (r24 = (-1) → Q 0 m23))) ∧ (4 ≤ r24 → (CV E mX7_advance (j + 5) m23 [aR 591] (fun m35 => (R32 r24 → CI E mX7_placeOf (j + 5) m35 [aR 591, aI r24] (fun r37 m36 => ((¬ r37 = (-1) → (isTx (m36 591 4)) ∧ (R32 r37 → CI E mX9_emit (j + 5) m36 [aR (m36 591 4), aI 1, aI r37] (fun r40 m39 => (R32 ((m39 591 6) + 1)) ∧ (CV E mX7_advance (j + 5) (aUp m39 591 6 ((m39 591 6) + 1)) [aR 591] (fun m42 => Q 1 m42))))) ∧ (r37 = (-1) → Q 0 m36))))))))))))))) ∧ ((mem 591 9) = 2 → (((mem 591 10) ≤ 1000 → (isTx (mem 591 4)) ∧ (R32 (mem 591 10) → CI E mX9_emit (j + 5) mem [aR (mem 591 4), aI 0, aI (mem 591 10)] (fun r45 m44 => (R32 ((m44 591 6) + 1)) ∧ (CV E mX7_advance (j + 5) (aUp m44 591 6 ((m44 591 6) + 1)) [aR 591] (fun m47 => Q 1 m47))))) ∧ (1000 < (mem 591 10) → Q 0 mem))))) ∧ (50 ≤ (mem 591 6) → Q 0 mem)) := by
  have hT1 := hT.2.1
  have hbF := tF_b (T := T) hpn
  have hbT := tT_b (T := T) hpn
  have stay : ∀ x, pLeaf od T n p c = .inr x → tF T n p = x → Q 0 mem := fun x e1 e2 => hF x e1 mem cFr_rf (hst.1.2.1.trans e2)
  rw [hst.2.2.2.1]
  refine ⟨fun c50 => ⟨fun s2 => ?_, fun s2 => ⟨fun n1 => ⟨by rw [hst.2.1]; exact ht, fun rn => ?_⟩, fun n1 => ?_⟩⟩, fun c50 => stay _ (by unfold pLeaf; rw [if_pos c50]) rfl⟩
  · rw [hst.1.2.2.2.1] at s2
    -- words
    have wd : ∀ r4, r4 = wIx od (tW T n p) → ((od = false ∨ r4 < 4) → ((¬ r4 = (-1) → (isTx (mem 591 4)) ∧ (R32 r4 → CI E mX9_emit (j + 5) mem [aR (mem 591 4), aI 1, aI r4] (fun r7 m6 => (R32 ((m6 591 6) + 1)) ∧ (CV E mX7_advance (j + 5) (aUp m6 591 6 ((m6 591 6) + 1)) [aR 591] (fun m9 => Q 1 m9))))) ∧ (r4 = (-1) → Q 0 mem))) := by
      intro r4 hr hod
      have hb := ixW_b od (tW T n p)
      rw [← hr] at hb
      refine ⟨fun z => ⟨by rw [hst.2.1]; exact ht, fun rr => ?_⟩, fun z => ?_⟩
      · have s1 := ixW_s (T := T) (n := n) (p := p) (od := od) (by rw [← hr]; exact z)
        have nx := nx_b (T := T) hpn (by rw [s1]; decide)
        have hbx := tF_b (T := T) nx.2.1
        have e : pLeaf od T n p c = .inl (tT T n p, c + 1, fun w => w r4) := by
          unfold pLeaf
          rw [if_neg (by omega), if_neg (by omega), ← hr, if_neg z, if_neg]
          rintro ⟨u, v⟩
          rcases hod with w | w
          · rw [u] at w; cases w
          · omega
        rw [hst.2.1]
        refine c_leafEnd (k := j + 4) hE ht hT hst hp hpn hc hc2 hs0 (by omega) (by decide) rr fun m9 a1 a2 a3 a4 => hO _ _ _ e m9 (s + 1) a1 a2 (by omega) (sg_wordC hL hs0 a3 a4 ⟨by omega, ?_⟩)
        rw [hN]
        cases od
        · simp only [Bool.false_eq_true, if_false] at hb ⊢
          omega
        · simp only [if_true] at hb ⊢
          omega
      · refine stay _ ?_ rfl
        unfold pLeaf
        rw [if_neg (by omega), if_neg (by omega), ← hr, if_pos z]
    cases od with
    | false =>
      have e5 : mem 591 5 = 0 := hst.2.2.1
      refine ⟨fun _ => c_wordIn hE hSt hT hst.1 hp hpn (Or.inr (Or.inr rfl)) ⟨fun _ => wd _ rfl (Or.inl rfl), fun z => absurd e5 z⟩, fun z => absurd e5 z⟩
    | true =>
      have e5 : mem 591 5 = 1 := hst.2.2.1
      refine ⟨fun z => absurd z (by omega), fun _ => c_wordIn hE hSt hT hst.1 hp hpn (Or.inr (Or.inl rfl)) ⟨fun z => absurd z (by omega), fun _ => ⟨fun z => wd _ rfl (Or.inr z), fun z => ?_⟩⟩⟩
      have ew : ixL (whL 11) (tW T n p) 0 = wIx true (tW T n p) := rfl
      rw [ew] at z ⊢
      have hb := ixW_b true (tW T n p)
      have hi : ¬ wIx true (tW T n p) = -1 := by omega
      have hb : 0 ≤ wIx true (tW T n p) ∧ wIx true (tW T n p) < 7 := hb.resolve_left hi
      have s1 := ixW_s (T := T) (n := n) (p := p) (od := true) hi
      have nx := nx_b (T := T) hpn (by rw [s1]; decide)
      have hbx := tF_b (T := T) nx.2.1
      have ep : pLeaf true T n p c = (if tS T n (tT T n p) = 2 ∧ tN T n (tT T n p) < (if wIx true (tW T n p) = 4 then 10 else 32) then
          .inl (tT T n (tT T n p), c + 1, fun w => w (wBase (wIx true (tW T n p)) + tN T n (tT T n p)))
        else .inr (tF T n (tT T n p))) := by
        unfold pLeaf
        rw [if_neg (by omega), if_neg (by omega), if_neg hi, if_pos ⟨rfl, z⟩]
      generalize wIx true (tW T n p) = r4 at *
      refine c_advS hE ht hT hst hp hpn fun m3 a1 a2 _ => c_placeOf hE a2.1 (by omega) (fun y => ?_) (fun y => ?_)
      · rw [if_pos y] at ep
        have hn := (tN_b (T := T) (n := n) (p := tT T n p)).1 y.1
        have nx2 := nx_b (T := T) nx.2.1 (by rw [y.1]; decide)
        have hbx2 := tF_b (T := T) nx2.2.1
        have hpl : 0 ≤ wBase r4 + tN T n (tT T n p) ∧ wBase r4 + tN T n (tT T n p) < 78 := by
          have y2 := y.2
          unfold wBase
          split at y2
          · rename_i w4; rw [if_pos w4]; omega
          · rename_i w4; rw [if_neg w4]; split <;> omega
        refine ⟨fun _ => ⟨by rw [a2.2.1]; exact ht, fun rr => ?_⟩, fun z => absurd z (by omega)⟩
        rw [a2.2.1]
        refine c_leafEnd (k := j + 4) hE ht hT a2 (by omega) nx.2.1 hc hc2 hs0 (by omega) (by decide) rr fun m9 b1 b2 b3 b4 => hO _ _ _ ep m9 (s + 1) (cFr_tr (cFr_4 a1) b1 (Int.le_refl _)) b2 (by omega) (sg_wordC hL hs0 b3 b4 ⟨hpl.1, ?_⟩)
        rw [hN]
        exact hpl.2
      · rw [if_neg y] at ep
        exact ⟨fun z => absurd rfl z, fun _ => hF _ ep m3 (cFr_4 a1) a2.1.2.1⟩
  · rw [hst.1.2.2.2.1] at s2
    have e10 := hst.1.2.2.2.2 s2
    have nx := nx_b (T := T) hpn (by rw [s2]; decide)
    have hbx := tF_b (T := T) nx.2.1
    have hn := (tN_b (T := T) (n := n) (p := p)).1 s2
    rw [e10] at n1 rn ⊢
    have e : pLeaf od T n p c = .inl (tT T n p, c + 1, fun _ => tN T n p) := by
      unfold pLeaf
      rw [if_neg (by omega), if_pos s2, if_pos n1]
    rw [hst.2.1]
    exact c_leafEnd (k := j + 4) hE ht hT hst hp hpn hc hc2 hs0 (by omega) (by decide) rn fun m9 a1 a2 a3 a4 => hO _ _ _ e m9 (s + 1) a1 a2 (by omega) (sg_numC hL hs0 a3 a4 (by have := bRK_v; omega))
  · rw [hst.1.2.2.2.1] at s2
    rw [hst.1.2.2.2.2 s2] at n1
    refine stay _ ?_ rfl
    unfold pLeaf
    rw [if_neg (by omega), if_pos s2, if_neg (by omega)]
theorem c_part {E : EN} (hE : Ep E) (hSt : aStr E) {t : Int} {T : Rw} {n : Int} {od : Bool} {N : Int} (ht : isTx t) (hT : tOk T n) (hN : N = if od = true then 78 else 10) : ∀ (b k L : Nat) (dp : Int), 2 * b + 6 ≤ k → L + 2 * b + 3 < 40 → dp = 8 - (b : Int) → b ≤ 8 → cEl E mX7_readPart k dp t T n od N L (pPart od T n b) := by
  have hT1 := hT.2.1
  intro b
  induction b with
  | zero =>
    intro k L dp hk hL hdp hb8
    obtain ⟨j, rfl⟩ : ∃ j, k = j + 5 + 1 := ⟨k - 6, by omega⟩
    intro mem Q p c s hst hp hpn hc hc2 hs0 hsp hF hO
    refine eX7_readPart ⟨by omega, by omega⟩ (rX7_readPart_0 (k := j + 5) hE hSt ?_)
    refine c_isSign hE hT hst.1 hp hpn (by decide) (by decide) (fun g => ?_) (fun g => ?_)
    · have e : pPart od T n 0 p c = .inr (tF T n p) := if_pos g
      exact ⟨fun z => absurd z (by decide), fun _ => ⟨fun z => absurd z (by omega), fun _ => hF _ e mem cFr_rf hst.1.2.1⟩⟩
    · have e : pPart od T n 0 p c = pLeaf od T n p c := if_neg g
      rw [e] at hF hO
      exact ⟨fun _ => c_leaf hE hSt ht hT hN (by omega) hst hp hpn hc hc2 hs0 hsp hF hO, fun z => absurd rfl z⟩
  | succ b ih =>
    intro k L dp hk hL hdp hb8
    obtain ⟨j, rfl⟩ : ∃ j, k = j + 5 + 1 := ⟨k - 6, by omega⟩
    intro mem Q p c s hst hp hpn hc hc2 hs0 hsp hF hO
    have hbF := tF_b (T := T) hpn
    have hsum : cEl E mX7_readSum (j + 4 + 1) (dp + 1) t T n od N L (lpS T n (pPart od T n b)) := c_readSum hE hSt ht hT ⟨by omega, by omega⟩ (by omega) (ih (j + 4) (L + 2) (dp + 1) (by omega) (by omega) (by omega) (by omega)) (pPart_ok hT1 b)
    refine eX7_readPart ⟨by omega, by omega⟩ (rX7_readPart_0 (k := j + 5) hE hSt ?_)
    refine c_isSign hE hT hst.1 hp hpn (by decide) (by decide) (fun g => ?_) (fun g => ?_)
    · have e : pPart od T n (b + 1) p c = pClo T n 93 false (lpS T n (pPart od T n b) (tT T n p) c) := if_pos g
      rw [e] at hF hO
      have nx := nx_b (T := T) hpn (by rw [tG_s (T := T) (n := n) (p := p) (by omega)]; decide)
      have hbx := tF_b (T := T) nx.2.1
      refine ⟨fun z => absurd z (by decide), fun _ => ⟨fun _ => c_advS hE ht hT hst hp hpn fun m1 a1 a2 => ⟨⟨by omega, by omega⟩, fun _ => ?_⟩, fun z => absurd z (by omega)⟩⟩
      refine hsum m1 _ (tT T n p) c s a2 (by omega) nx.2.1 hc hc2 hs0 (by omega) (fun x hx m2 b1 b2 => ⟨fun _ => hF x (by rw [hx]; rfl) m2 (cFr_tr (cFr_4 a1) b1 (Int.le_refl _)) b2, fun z => absurd rfl z⟩) (fun q d f hq m2 s2 b1 b2 b3 b4 => ⟨fun z => absurd z (by decide), fun _ => ?_⟩)
      obtain ⟨k1, k2, k3, k4, k5⟩ := lpS_ok hT1 (pPart_ok hT1 b) _ _ _ _ _ (by omega) nx.2.1 hc hc2 hq
      have hbq := tF_b (T := T) k2
      refine c_isSign hE hT b2.1 (by omega) k2 (by decide) (by decide) (fun g2 => ⟨fun _ => ?_, fun z => absurd z (by decide)⟩) (fun g2 => ⟨fun z => absurd rfl z, fun _ => ?_⟩)
      · have nx2 := nx_b (T := T) k2 (by rw [tG_s (T := T) (n := n) (p := q) (by omega)]; decide)
        have hbx2 := tF_b (T := T) nx2.2.1
        refine c_advS hE ht hT b2 (by omega) k2 fun m3 d1 d2 => hO _ _ _ (by rw [hq]; exact if_pos g2) m3 s2 (cFr_tr (cFr_tr (cFr_4 a1) b1 (Int.le_refl _)) (cFr_4 d1) (Int.le_refl _)) d2 (by omega) (cFr_sg ht (cFr_4 d1) (Int.le_refl s2) b4)
      · exact hF _ (by rw [hq]; exact if_neg g2) m2 (cFr_tr (cFr_4 a1) b1 (Int.le_refl _)) b2.1.2.1
    · have e : pPart od T n (b + 1) p c = pLeaf od T n p c := if_neg g
      rw [e] at hF hO
      exact ⟨fun _ => c_leaf hE hSt ht hT hN (by omega) hst hp hpn hc hc2 hs0 hsp hF hO, fun z => absurd rfl z⟩
theorem c_sum {E : EN} (hE : Ep E) (hSt : aStr E) {t : Int} {T : Rw} {n : Int} {od : Bool} {N : Int} (ht : isTx t) (hT : tOk T n) (hN : N = if od = true then 78 else 10) (b k L : Nat) (dp : Int) (hk : 2 * b + 7 ≤ k) (hL : L + 2 * b + 5 < 40) (hdp : dp = 8 - (b : Int)) (hb : b ≤ 8) : cEl E mX7_readSum k dp t T n od N L (pSum od T n b) := by
  obtain ⟨j, rfl⟩ : ∃ j, k = j + 4 + 1 := ⟨k - 5, by omega⟩
  exact c_readSum hE hSt ht hT ⟨by omega, by omega⟩ (by omega) (c_part hE hSt ht hT hN b (j + 4) (L + 2) dp (by omega) (by omega) hdp hb) (pPart_ok hT.2.1 b)
