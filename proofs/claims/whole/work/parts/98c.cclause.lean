-- the class reads a CLAUSE
theorem pIf_ok {od : Bool} {T : Rw} {n q d q2 d2 : Int} {f : Rw → Int} (hT : n ≤ 400) (q0 : 0 ≤ q) (qn : q ≤ n) (d0 : 0 ≤ d) (d1 : d ≤ 50) (h : pIf od T n q d = .inl (q2, d2, f)) : tF T n q ≤ tF T n q2 ∧ q ≤ q2 ∧ q2 ≤ n ∧ 0 ≤ d2 ∧ d2 ≤ 50 ∧ tB f := by
  unfold pIf at h
  by_cases c : tW T n q = 294
  · rw [if_pos c] at h
    have nx := nx_b (T := T) qn (by rw [tW_s (T := T) (n := n) (p := q) (by omega)]; decide)
    have hb := tF_b (T := T) nx.2.1
    have hb0 := tF_b (T := T) qn
    obtain ⟨k1, k2, k3, k4, k5⟩ := pTest_ok hT 8 _ _ _ _ _ (by omega) nx.2.1 d0 d1 h
    have hb2 := tF_b (T := T) k2
    exact ⟨by omega, by omega, k2, k3, k4, k5⟩
  · rw [if_neg c] at h
    obtain ⟨rfl, rfl, rfl⟩ := inl_3 h
    exact ⟨Int.le_refl _, Int.le_refl _, qn, d0, d1, f1_t⟩
theorem pTm_ok {T : Rw} {n q q2 t : Int} (q0 : 0 ≤ q) (qn : q ≤ n) (h : pTm T n q = .inl (q2, t)) : tF T n q ≤ tF T n q2 ∧ q ≤ q2 ∧ q2 ≤ n ∧ 1 ≤ t ∧ t ≤ 20 := by
  unfold pTm at h
  by_cases c : tW T n q = 21279923
  · rw [if_pos c] at h
    have nx := nx_b (T := T) qn (by rw [tW_s (T := T) (n := n) (p := q) (by omega)]; decide)
    have hb := tF_b (T := T) nx.2.1
    have hb0 := tF_b (T := T) qn
    by_cases d : tS T n (tT T n q) = 2 ∧ 1 ≤ tN T n (tT T n q) ∧ tN T n (tT T n q) ≤ 20
    · rw [if_pos d] at h
      have nx2 := nx_b (T := T) nx.2.1 (by rw [d.1]; decide)
      have hb2 := tF_b (T := T) nx2.2.1
      have e := Sum.inl.inj h
      obtain rfl : tT T n (tT T n q) = q2 := congrArg (fun v => v.1) e
      obtain rfl : tN T n (tT T n q) = t := congrArg (fun v => v.2) e
      exact ⟨by omega, by omega, nx2.2.1, d.2⟩
    · rw [if_neg d] at h; cases h
  · rw [if_neg c] at h
    have e := Sum.inl.inj h
    obtain rfl : q = q2 := congrArg (fun v => v.1) e
    obtain rfl : 1 = t := congrArg (fun v => v.2) e
    exact ⟨Int.le_refl _, Int.le_refl _, qn, by decide, by decide⟩
def cFc (t s i : Int) (m m2 : Mm) : Prop := ∀ o j, ¬ (o = 591 ∧ 6 ≤ j ∧ j ≤ 10) → ¬ (o = t ∧ j = 8) → ¬ ((o = t + 6 ∨ o = t + 7) ∧ s ≤ j) → ¬ (t + 1 ≤ o ∧ o ≤ t + 5 ∧ j = i) → m2 o j = m o j
theorem cFc_r {t s i : Int} {m m2 : Mm} (h : cFr t s m m2) : cFc t s i m m2 := fun o j a b c _ => h o j a b c
theorem cFc_rf {t s i : Int} {m : Mm} : cFc t s i m m := fun _ _ _ _ _ _ => rfl
theorem cFc_tr {t s s2 i : Int} {m m2 m3 : Mm} (h : cFc t s i m m2) (h2 : cFc t s2 i m2 m3) (hs : s ≤ s2) : cFc t s i m m3 := fun o j a b c d => (h2 o j a b (fun q => c ⟨q.1, by omega⟩) d).trans (h o j a b c d)
/-- code that stands whole from fr on, with its end -/
def cVl (N : Int) (m : Mm) (t s fr : Int) (F : Rw → Int) : Prop := (fr = -1 ∧ ∀ w, F w = 1) ∨ (0 ≤ fr ∧ ∃ b, cSg N m t 0 fr b F ∧ m (t + 6) b = 5 ∧ b < s ∧ vB F)
theorem cV_fr {N : Int} {m m2 : Mm} {t s s2 i fr : Int} {F : Rw → Int} (ht : isTx t) (hf : cFc t s i m m2) (hs : s ≤ s2) (h : cVl N m t s fr F) : cVl N m2 t s2 fr F := by
  rcases h with q | ⟨a, b, c, d, e, f⟩
  · exact Or.inl q
  · exact Or.inr ⟨a, b, sg_fr (fun j u v => ⟨hf _ _ (by unfold isTx at ht; omega) (by omega) (by omega) (by omega), hf _ _ (by unfold isTx at ht; omega) (by omega) (by omega) (by omega)⟩) c, (hf _ _ (by unfold isTx at ht; omega) (by omega) (by omega) (by omega)).trans d, by omega, f⟩
theorem cV_vS {N : Int} {m : Mm} {t s fr : Int} {F : Rw → Int} (h : cVl N m t s fr F) (h8 : m t 8 = s) (hs : s ≤ 400) : vS m t N fr F := by
  rcases h with ⟨a, b⟩ | ⟨a, b, c, d, e, f⟩
  · exact Or.inl ⟨a, b⟩
  · exact Or.inr ⟨by omega, fun w hw => by rw [h8]; exact sg_doneC c d e hs f w hw⟩
theorem cSt_row {m : Mm} {t : Int} {T : Rw} {n : Int} {od : Bool} {p c s x i v : Int} (ht : isTx t) (hx : 1 ≤ x ∧ x ≤ 5) (h : cSt m t T n od p c s) : cSt (aUp m (t + x) i v) t T n od p c s := by
  unfold isTx at ht
  have g : ∀ o j, ¬ (o = t + x) → (aUp m (t + x) i v) o j = m o j := fun o j z => aUp_nn (by omega)
  obtain ⟨⟨⟨x1, x2⟩, x3, x4, x5, x6⟩, x7, x8, x9, x10⟩ := h
  exact ⟨⟨⟨(g _ _ (by omega)).trans x1, fun j y z => (g _ _ (by omega)).trans (x2 j y z)⟩, (g _ _ (by omega)).trans x3, (g _ _ (by omega)).trans x4, (g _ _ (by omega)).trans x5, fun y => (g _ _ (by omega)).trans (x6 y)⟩, (g _ _ (by omega)).trans x7, (g _ _ (by omega)).trans x8, (g _ _ (by omega)).trans x9, (g _ _ (by omega)).trans x10⟩
theorem c_whole {E : EN} (hE : Ep E) (hSt : aStr E) {k : Nat} {t : Int} {T : Rw} {n : Int} {od : Bool} {N : Int} {mem : Mm} {Q : Int → Mm → Prop} {p c s x i : Int} (hk : 23 ≤ k) (ht : isTx t) (hT : tOk T n) (hN : N = if od = true then 78 else 10) (hx : x = 3 ∨ x = 4) (hi : 0 ≤ i ∧ i < 12) (hst : cSt mem t T n od p c s) (hp : 0 ≤ p) (hpn : p ≤ n) (hc : 0 ≤ c) (hc2 : c ≤ 50) (hs0 : 0 ≤ s) (hsp : s + 1 ≤ tF T n p)
    (hF : ∀ y, pSum od T n 8 p c = .inr y → ∀ m2, cFc t s i mem m2 → m2 591 7 = y → Q 0 m2)
    (hO : ∀ q d f, pSum od T n 8 p c = .inl (q, d, f) → ∀ m2 s2, (∀ o j, ¬ (o = 591 ∧ 6 ≤ j ∧ j ≤ 10) → ¬ (o = t ∧ j = 8) → ¬ ((o = t + 6 ∨ o = t + 7) ∧ s ≤ j) → ¬ (o = t + x ∧ j = i) → m2 o j = mem o j) → cSt m2 t T n od q d s2 → s ≤ s2 → s2 ≤ tF T n q → m2 (t + x) i = s → cVl N m2 t s2 s f → Q 1 m2) : CI E mX7_readWholeSum (k + 1) mem [aR 591, aR (t + x), aI i] Q := by
  have hT1 := hT.2.1
  have hsh : aSh SH (t + x) 13 12 := by rcases hx with rfl | rfl; exact tx3 ht; exact tx4 ht
  refine eX7_readWholeSum ⟨by omega, by omega⟩ (rX7_readWholeSum_0 hE hsh ?_)
  rw [hst.2.1]
  refine ⟨ht, hi, ?_⟩
  rw [hst.2.2.2.2]
  have st1 := cSt_row (i := i) (v := s) ht (by omega : 1 ≤ x ∧ x ≤ 5) hst
  have g1 : ∀ o j, ¬ (o = t + x ∧ j = i) → (aUp mem (t + x) i s) o j = mem o j := fun o j z => aUp_nn z
  refine c_sum hE hSt ht hT hN 8 k 0 0 (by omega) (by decide) (by decide) (by decide) _ _ p c s st1 hp hpn hc hc2 hs0 (by omega) (fun y hy m2 b1 b2 => ⟨fun z => absurd rfl z, fun _ => hF y hy m2 (fun o j z1 z2 z3 z4 => (b1 o j z1 z2 z3).trans (g1 o j (by omega))) b2⟩) (fun q d f hq m2 s2 b1 b2 b3 b4 => ⟨fun _ => ⟨by rw [b2.2.1]; exact ht, ?_⟩, fun z => absurd z (by decide)⟩)
  obtain ⟨k1, k2, k3, k4, k5⟩ := pSum_ok hT1 8 _ _ _ _ _ hp hpn hc hc2 hq
  have hbq := tF_b (T := T) k2
  have hs2 := b4.2.1
  rw [b2.2.1]
  refine c_emit hE ht b2 (by omega) (by omega) (by decide) (by decide) fun m3 a1 a2 a3 a4 _ => hO q d f hq m3 (s2 + 1) (fun o j z1 z2 z3 z4 => (a1 o j z1 z2 (by omega)).trans ((b1 o j z1 z2 z3).trans (g1 o j z4))) a2 (by omega) (by omega) ?_ (Or.inr ⟨hs0, s2, cFr_sg ht a1 (Int.le_refl s2) b4, a3, by omega, k5⟩)
  have ht2 := ht
  unfold isTx at ht2
  rw [a1 _ _ (by omega) (by omega) (by omega), b1 _ _ (by omega) (by omega) (by omega)]
  exact aUp_re
theorem c_times {E : EN} (hE : Ep E) (hSt : aStr E) {k : Nat} {t : Int} {T : Rw} {n : Int} {od : Bool} {mem : Mm} {Q : Int → Mm → Prop} {q d s i : Int} (ht : isTx t) (hT : tOk T n) (hi : 0 ≤ i ∧ i < 12) (hst : cSt mem t T n od q d s) (hq : 0 ≤ q) (hqn : q ≤ n) (h2 : mem (t + 2) i = 1)
    (hF : ∀ y, pTm T n q = .inr y → ∀ m2, cFr t s mem m2 → m2 591 7 = y → Q 0 m2)
    (hO : ∀ q3 t3, pTm T n q = .inl (q3, t3) → ∀ m2, (∀ o j, ¬ (o = 591 ∧ 6 ≤ j ∧ j ≤ 10) → ¬ (o = t + 2 ∧ j = i) → m2 o j = mem o j) → cSt m2 t T n od q3 d s → m2 (t + 2) i = t3 → Q 1 m2) :
    (CI E mX7_isWord (k + 6) mem [aR 591, aF (strA E 4)] (fun r2 m1 => ((r2 = 0 → Q 1 m1) ∧ (¬ r2 = 0 → (CV E mX7_advance (k + 6) m1 [aR 591] (fun m3 => ((¬ (m3 591 9) = 2 → Q 0 m3) ∧ ((m3 591 9) = 2 → (((m3 591 10) < 1 → Q 0 m3) ∧ (1 ≤ (m3 591 10) → (((m3 591 10) ≤ 20 → (isTx (m3 591 4)) ∧ (0 ≤ i ∧ i < 12) ∧ (CV E mX7_advance (k + 6) (aUp m3 ((m3 591 4) + 2) i (m3 591 10)) [aR 591] (fun m6 => Q 1 m6))) ∧ (20 < (m3 591 10) → Q 0 m3)))))))))))) := by
  refine c_isWord hE hSt hT hst.1 hq hqn (Or.inl (by decide)) rfl (fun w => ⟨fun z => absurd z (by decide), fun _ => ?_⟩) (fun w => ⟨fun _ => ?_, fun z => absurd rfl z⟩)
  · have nx := nx_b (T := T) hqn (by rw [tW_s (T := T) (n := n) (p := q) (by omega)]; decide)
    have ep : pTm T n q = (if tS T n (tT T n q) = 2 ∧ 1 ≤ tN T n (tT T n q) ∧ tN T n (tT T n q) ≤ 20 then .inl (tT T n (tT T n q), tN T n (tT T n q)) else .inr (tF T n (tT T n q))) := if_pos w
    refine c_advS hE ht hT hst hq hqn fun m1 a1 a2 => ?_
    have bad : ¬ (tS T n (tT T n q) = 2 ∧ 1 ≤ tN T n (tT T n q) ∧ tN T n (tT T n q) ≤ 20) → Q 0 m1 := fun z => hF _ (by rw [ep, if_neg z]) m1 (cFr_4 a1) a2.1.2.1
    rw [a2.1.2.2.2.1]
    refine ⟨fun z => bad fun y => z y.1, fun z => ?_⟩
    rw [a2.1.2.2.2.2 z]
    refine ⟨fun z2 => bad fun y => by omega, fun z2 => ⟨fun z3 => ⟨by rw [a2.2.1]; exact ht, hi, ?_⟩, fun z3 => bad fun y => by omega⟩⟩
    rw [a2.2.1]
    rw [if_pos ⟨z, z2, z3⟩] at ep
    have st2 := cSt_row (i := i) (v := tN T n (tT T n q)) (x := 2) ht (by decide) a2
    refine c_advS hE ht hT st2 (by omega) nx.2.1 fun m3 b1 b2 => hO _ _ ep m3 (fun o j z1 z2 => ?_) b2 ?_
    · rw [b1 o j (by omega), aUp_nn z2]
      exact a1 o j (by omega)
    · rw [b1 _ _ (by unfold isTx at ht; omega)]
      exact aUp_re
  · exact hO q 1 (if_neg w) mem (fun _ _ _ _ => rfl) hst h2
