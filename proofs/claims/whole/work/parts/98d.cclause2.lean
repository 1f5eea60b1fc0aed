-- the class's CLAUSE, all of it
def rowB (N : Int) (m : Mm) (t s i v t3 : Int) (g1 g2 : Rw → Int) : Prop := m (t + 1) i = v ∧ m (t + 2) i = t3 ∧ cVl N m t s (m (t + 3) i) g1 ∧ cVl N m t s (m (t + 4) i) g2 ∧ m (t + 5) i = -1
def cCl (N : Int) (m : Mm) (t s i : Int) (cl : CLd) : Prop := m (t + 1) i = cl.1 ∧ m (t + 2) i = cl.2.1 ∧ cVl N m t s (m (t + 3) i) cl.2.2.1 ∧ cVl N m t s (m (t + 4) i) cl.2.2.2.1 ∧ cVl N m t s (m (t + 5) i) cl.2.2.2.2
theorem cVl_1 {N : Int} {m : Mm} {t s : Int} : cVl N m t s (-1) f1 := Or.inl ⟨rfl, fun _ => rfl⟩
theorem c_acts {E : EN} (hE : Ep E) (hSt : aStr E) {k : Nat} {t : Int} {T : Rw} {n : Int} {N : Int} {mem : Mm} {Q : Int → Mm → Prop} {q c s v i : Int} (hk : 18 ≤ k) (ht : isTx t) (hT : tOk T n) (hN : N = 78) (hi : 0 ≤ i ∧ i < 12) (hv : 0 ≤ v ∧ v ≤ 3) (hst : cSt mem t T n true q c s) (hq : 0 ≤ q) (hqn : q ≤ n) (hc : 0 ≤ c) (hc2 : c ≤ 50) (hs0 : 0 ≤ s) (hsp : s + 1 ≤ tF T n q) (hrow : rowB N mem t s i v 1 f1 f1 ∧ mem (t + 3) i = -1 ∧ mem (t + 4) i = -1)
    (hF : ∀ y, pAc T n v q c = .inr y → ∀ m2, cFc t s i mem m2 → m2 591 7 = y → Q 0 m2)
    (hO : ∀ q3 d3 t3 g1 g2, pAc T n v q c = .inl (q3, d3, t3, g1, g2) → ∀ m2 s2, cFc t s i mem m2 → cSt m2 t T n true q3 d3 s2 → q3 ≤ n → 0 ≤ q3 → 0 ≤ d3 → d3 ≤ 50 → s ≤ s2 → s2 ≤ tF T n q3 → tF T n q ≤ tF T n q3 → rowB N m2 t s2 i v t3 g1 g2 → Q 1 m2) : CI E mX7_readActs (k + 6 + 1) mem [aR 591, aI v, aI i] Q := by
  have hT1 := hT.2.1
  have ht2 := ht
  unfold isTx at ht2
  have hbF := tF_b (T := T) hqn
  -- behind the SUMs
  have fin : ∀ (m : Mm) (q1 d1 s1 : Int) (g1 g2 : Rw → Int), cFc t s i mem m → q1 ≤ n → 0 ≤ q1 → 0 ≤ d1 → d1 ≤ 50 → s ≤ s1 → s1 ≤ tF T n q1 → tF T n q ≤ tF T n q1 → rowB N m t s1 i v 1 g1 g2 → pAc T n v q c = pT2 T n g1 g2 q1 d1 → (∀ y, pTm T n q1 = .inr y → ∀ m2, cFr t s1 m m2 → m2 591 7 = y → Q 0 m2) ∧ (∀ q3 t3, pTm T n q1 = .inl (q3, t3) → ∀ m2, (∀ o j, ¬ (o = 591 ∧ 6 ≤ j ∧ j ≤ 10) → ¬ (o = t + 2 ∧ j = i) → m2 o j = m o j) → cSt m2 t T n true q3 d1 s1 → m2 (t + 2) i = t3 → Q 1 m2) := by
    intro m q1 d1 s1 g1 g2 a1 a2 a3 a4 a5 a6 a7 a8 a9 e
    refine ⟨fun y hy m2 b1 b2 => hF y (by rw [e]; unfold pT2; rw [hy]) m2 (cFc_tr a1 (cFc_r b1) a6) b2, fun q3 t3 h3 m2 b1 b2 b3 => ?_⟩
    have kk := pTm_ok a3 a2 h3
    have fc : cFc t s1 i m m2 := fun o j z1 z2 z3 z4 => b1 o j z1 (by omega)
    obtain ⟨r1, r2, r3, r4, r5⟩ := a9
    refine hO q3 d1 t3 g1 g2 (by rw [e]; unfold pT2; rw [h3]) m2 s1 (cFc_tr a1 fc a6) b2 kk.2.2.1 (by omega) a4 a5 a6 (by omega) (by omega) ⟨?_, b3, ?_, ?_, ?_⟩
    · rw [b1 _ _ (by omega) (by omega)]; exact r1
    · rw [b1 (t + 3) _ (by omega) (by omega)]; exact cV_fr ht fc (Int.le_refl _) r3
    · rw [b1 (t + 4) _ (by omega) (by omega)]; exact cV_fr ht fc (Int.le_refl _) r4
    · rw [b1 (t + 5) _ (by omega) (by omega)]; exact r5
  refine eX7_readActs (k := k + 6) ⟨by omega, by omega⟩ ⟨by omega, by omega⟩ (rX7_readActs_0 (k := k + 6) hE hSt ⟨fun v3 => ⟨fun _ => ?_, fun z => absurd z (by omega)⟩, fun v3 => ⟨by rw [hst.2.1]; exact ht, fun _ => ?_⟩⟩)
  · have e : pAc T n v q c = pT2 T n f1 f1 q c := if_pos v3
    obtain ⟨u1, u2⟩ := fin mem q c s f1 f1 cFc_rf hqn hq hc hc2 (Int.le_refl _) (by omega) (Int.le_refl _) hrow.1 e
    exact c_times hE hSt ht hT hi hst hq hqn hrow.1.2.1 u1 u2
  · have e : pAc T n v q c = pA2 T n v (pSum true T n 8 q c) := if_neg v3
    rw [hst.2.1]
    refine c_whole (k := k + 5) (N := N) hE hSt (by omega) ht hT (by rw [hN]; rfl) (Or.inl rfl) hi hst hq hqn hc hc2 hs0 hsp (fun y hy m2 b1 b2 => ⟨fun z => absurd rfl z, fun _ => hF y (by rw [e, hy]; rfl) m2 b1 b2⟩) (fun q1 d1 g1 h1 m1 s1 b1 b2 b3 b4 b5 b6 => ⟨fun _ => ?_, fun z => absurd z (by decide)⟩)
    obtain ⟨k1, k2, k3, k4, k5⟩ := pSum_ok hT1 8 _ _ _ _ _ hq hqn hc hc2 h1
    have hb1 := tF_b (T := T) k2
    have fc1 : cFc t s i mem m1 := fun o j z1 z2 z3 z4 => b1 o j z1 z2 z3 (by omega)
    have row1 : rowB N m1 t s1 i v 1 g1 f1 := by
      obtain ⟨⟨r1, r2, -, -, r5⟩, r3, r4⟩ := hrow
      refine ⟨?_, ?_, by rw [b5]; exact b6, ?_, ?_⟩
      · rw [b1 _ _ (by omega) (by omega) (by omega) (by omega)]; exact r1
      · rw [b1 _ _ (by omega) (by omega) (by omega) (by omega)]; exact r2
      · rw [b1 _ _ (by omega) (by omega) (by omega) (by omega), r4]; exact cVl_1
      · rw [b1 _ _ (by omega) (by omega) (by omega) (by omega)]; exact r5
    refine ⟨fun v0 => ?_, fun v0 => ?_⟩
    · have e2 : pAc T n v q c = pT2 T n g1 f1 q1 d1 := by rw [e, h1]; exact if_neg v0
      obtain ⟨u1, u2⟩ := fin m1 q1 d1 s1 g1 f1 fc1 k2 (by omega) k3 k4 b3 b4 (by omega) row1 e2
      exact c_times hE hSt ht hT hi b2 (by omega) k2 row1.2.1 u1 u2
    · have e2 : pAc T n v q c = (if tW T n q1 = 52 then (match pSum true T n 8 (tT T n q1) d1 with
        | .inr x => .inr x
        | .inl (q2, d2, g2) => pT2 T n g1 g2 q2 d2) else .inr (tF T n q1)) := by rw [e, h1]; exact if_pos v0
      refine c_isWord hE hSt hT b2.1 (by omega) k2 (Or.inl (by decide)) rfl (fun w => ⟨fun _ => ?_, fun z => absurd z (by decide)⟩) (fun w => ⟨fun z => absurd rfl z, fun _ => hF _ (by rw [e2, if_neg w]) m1 fc1 b2.1.2.1⟩)
      rw [if_pos w] at e2
      have nx := nx_b (T := T) k2 (by rw [tW_s (T := T) (n := n) (p := q1) (by omega)]; decide)
      have hbx := tF_b (T := T) nx.2.1
      refine c_advS hE ht hT b2 (by omega) k2 fun m3 c1 c2 => ⟨by rw [c2.2.1]; exact ht, fun _ => ?_⟩
      rw [c2.2.1]
      have fc3 : cFc t s i mem m3 := cFc_tr fc1 (cFc_r (cFr_4 (s := s1) c1)) b3
      refine c_whole (k := k + 5) (N := N) hE hSt (by omega) ht hT (by rw [hN]; rfl) (Or.inr rfl) hi c2 (by omega) nx.2.1 k3 k4 (by omega) (by omega) (fun y hy m4 d1' d2' => ⟨fun z => absurd rfl z, fun _ => hF y (by rw [e2, hy]) m4 (cFc_tr fc3 d1' b3) d2'⟩) (fun q2 d2 g2 h2 m4 s4 d1' d2' d3' d4' d5' d6' => ⟨fun _ => ?_, fun z => absurd z (by decide)⟩)
      obtain ⟨l1, l2, l3, l4, l5⟩ := pSum_ok hT1 8 _ _ _ _ _ (by omega) nx.2.1 k3 k4 h2
      have hb4 := tF_b (T := T) l2
      have fc34 : cFc t s1 i m3 m4 := fun o j z1 z2 z3 z4 => d1' o j z1 z2 z3 (by omega)
      have e3 : pAc T n v q c = pT2 T n g1 g2 q2 d2 := by rw [e2, h2]
      have row4 : rowB N m4 t s4 i v 1 g1 g2 := by
        obtain ⟨r1, r2, r3, -, r5⟩ := row1
        have c1' : ∀ x, 1 ≤ x → x ≤ 5 → m3 (t + x) i = m1 (t + x) i := fun x _ _ => c1 _ _ (by omega)
        refine ⟨?_, ?_, ?_, by rw [d5']; exact d6', ?_⟩
        · rw [d1' _ _ (by omega) (by omega) (by omega) (by omega), c1' 1 (by omega) (by omega)]; exact r1
        · rw [d1' _ _ (by omega) (by omega) (by omega) (by omega), c1' 2 (by omega) (by omega)]; exact r2
        · rw [d1' _ _ (by omega) (by omega) (by omega) (by omega), c1' 3 (by omega) (by omega)]
          exact cV_fr ht (cFc_tr (cFc_r (cFr_4 (s := s1) c1)) fc34 (Int.le_refl _)) d3' r3
        · rw [d1' _ _ (by omega) (by omega) (by omega) (by omega), c1' 5 (by omega) (by omega)]; exact r5
      obtain ⟨u1, u2⟩ := fin m4 q2 d2 s4 g1 g2 (cFc_tr fc3 fc34 b3) l2 (by omega) l3 l4 (by omega) d4' (by omega) row4 e3
      exact c_times hE hSt ht hT hi d2' (by omega) l2 row4.2.1 u1 u2
-- "if", and the end of the CLAUSE
theorem c_if {E : EN} (hE : Ep E) (hSt : aStr E) {k : Nat} {t : Int} {T : Rw} {n : Int} {od : Bool} {N : Int} {mem : Mm} {Q : Int → Mm → Prop} {q d s v i t3 : Int} {g1 g2 : Rw → Int} (hk : 22 ≤ k) (ht : isTx t) (hT : tOk T n) (hN : N = if od = true then 78 else 10) (hi : 0 ≤ i ∧ i < 12) (hst : cSt mem t T n od q d s) (hq : 0 ≤ q) (hqn : q ≤ n) (hd : 0 ≤ d) (hd2 : d ≤ 50) (hs0 : 0 ≤ s) (hsp : s ≤ tF T n q) (hrow : rowB N mem t s i v t3 g1 g2)
    (hF : ∀ y, pIf od T n q d = .inr y → ∀ m2, cFc t s i mem m2 → m2 591 7 = y → Q 0 m2)
    (hO : ∀ q4 d4 g4, pIf od T n q d = .inl (q4, d4, g4) → ∀ m2 s2, cFc t s i mem m2 → cSt m2 t T n od q4 d4 s2 → s ≤ s2 → s2 ≤ tF T n q4 → cCl N m2 t s2 i (v, t3, g1, g2, g4) → Q 1 m2) : VM E mX7_readClause (k + 6 + 1) mem 97 [(0, aR 591), (1, aI i)] [] (retI Q) := by
  have hT1 := hT.2.1
  have ht2 := ht
  unfold isTx at ht2
  have hbF := tF_b (T := T) hqn
  obtain ⟨r1, r2, r3, r4, r5⟩ := hrow
  refine rX7_readClause_97 (k := k + 6) hE hSt ?_
  refine c_isWord hE hSt hT hst.1 hq hqn (Or.inl (by decide)) rfl (fun w => ⟨fun _ => ?_, fun z => absurd z (by decide)⟩) (fun w => ⟨fun z => absurd rfl z, fun _ => ?_⟩)
  · have ep : pIf od T n q d = pTest od T n 8 (tT T n q) d := if_pos w
    have nx := nx_b (T := T) hqn (by rw [tW_s (T := T) (n := n) (p := q) (by omega)]; decide)
    have hbx := tF_b (T := T) nx.2.1
    refine c_advS hE ht hT hst hq hqn fun m1 a1 a2 => ⟨by rw [a2.2.1]; exact ht, hi, ?_⟩
    rw [a2.2.1, a2.2.2.2.2]
    have st2 := cSt_row (i := i) (v := s) (x := 5) ht (by decide) a2
    have f2 : ∀ o j, ¬ (o = 591 ∧ 7 ≤ j ∧ j ≤ 10) → ¬ (o = t + 5 ∧ j = i) → (aUp m1 (t + 5) i s) o j = mem o j := fun o j z1 z2 => (aUp_nn z2).trans (a1 o j z1)
    refine c_test hE hSt ht hT hN (k + 6) (by omega) _ _ (tT T n q) d s st2 (by omega) nx.2.1 hd hd2 hs0 (by omega) (fun y hy m2 b1 b2 => ⟨fun z => absurd rfl z, fun _ => hF y (by rw [ep]; exact hy) m2 (fun o j z1 z2 z3 z4 => (b1 o j z1 z2 z3).trans (f2 o j (by omega) (by omega))) b2⟩) (fun q4 d4 g4 h4 m2 s2 b1 b2 b3 b4 => ⟨fun _ => ⟨by rw [b2.2.1]; exact ht, ?_⟩, fun z => absurd z (by decide)⟩)
    obtain ⟨k1, k2, k3, k4, k5⟩ := pTest_ok hT1 8 _ _ _ _ _ (by omega) nx.2.1 hd hd2 h4
    have hb4 := tF_b (T := T) k2
    have hs2 := b4.2.1
    rw [b2.2.1]
    refine c_emit hE ht b2 (by omega) (by omega) (by decide) (by decide) fun m3 c1 c2 c3 c4 _ => ?_
    have f3 : ∀ o j, ¬ (o = 591 ∧ 6 ≤ j ∧ j ≤ 10) → ¬ (o = t ∧ j = 8) → ¬ ((o = t + 6 ∨ o = t + 7) ∧ s ≤ j) → ¬ (o = t + 5 ∧ j = i) → m3 o j = mem o j := fun o j z1 z2 z3 z4 => (c1 o j z1 z2 (by omega)).trans ((b1 o j z1 z2 z3).trans (f2 o j (by omega) z4))
    have fc : cFc t s i mem m3 := fun o j z1 z2 z3 z4 => f3 o j z1 z2 z3 (by omega)
    refine hO q4 d4 g4 (by rw [ep]; exact h4) m3 (s2 + 1) fc c2 (by omega) (by omega) ⟨?_, ?_, ?_, ?_, ?_⟩
    · rw [f3 _ _ (by omega) (by omega) (by omega) (by omega)]; exact r1
    · rw [f3 _ _ (by omega) (by omega) (by omega) (by omega)]; exact r2
    · rw [f3 _ _ (by omega) (by omega) (by omega) (by omega)]; exact cV_fr ht fc (by omega) r3
    · rw [f3 _ _ (by omega) (by omega) (by omega) (by omega)]; exact cV_fr ht fc (by omega) r4
    · have e5 : m3 (t + 5) i = s := by
        rw [c1 _ _ (by omega) (by omega) (by omega), b1 _ _ (by omega) (by omega) (by omega)]
        exact aUp_re
      rw [e5]
      exact Or.inr ⟨hs0, s2, cFr_sg ht c1 (Int.le_refl s2) b4, c3, by omega, tB_v k5⟩
  · refine hO q d f1 (if_neg w) mem s cFc_rf hst (Int.le_refl _) hsp ⟨r1, r2, r3, r4, by rw [r5]; exact cVl_1⟩
theorem c_open {E : EN} (hE : Ep E) {k : Nat} {mem : Mm} {Q : Mm → Prop} {t : Int} {T : Rw} {n : Int} {od : Bool} {p c s i v N : Int} (ht : isTx t) (h : cSt mem t T n od p c s) (h0 : mem t 0 = i) (hi : 0 ≤ i ∧ i < 12) (rv : R32 v) (hQ : ∀ m2, cFc t s i mem m2 → cSt m2 t T n od p c s → rowB N m2 t s i v 1 f1 f1 → m2 (t + 3) i = -1 → m2 (t + 4) i = -1 → Q m2) : CV E mX9_open k mem [aR t, aI v] Q := by
  refine eX9_open rv (rX9_open_0 hE ht ?_)
  rw [h0]
  refine ⟨fun z => absurd z (by omega), fun _ => ⟨hi, ?_⟩⟩
  have s5 := cSt_row (i := i) (v := -1) (x := 5) ht (by decide) (cSt_row (i := i) (v := -1) (x := 4) ht (by decide) (cSt_row (i := i) (v := -1) (x := 3) ht (by decide) (cSt_row (i := i) (v := 1) (x := 2) ht (by decide) (cSt_row (i := i) (v := v) (x := 1) ht (by decide) h))))
  have e1 : (aUp (aUp (aUp (aUp (aUp mem (t + 1) i v) (t + 2) i 1) (t + 3) i (-1)) (t + 4) i (-1)) (t + 5) i (-1)) (t + 1) i = v := by rw [aUp_nn (by omega), aUp_nn (by omega), aUp_nn (by omega), aUp_nn (by omega), aUp_re]
  have e2 : (aUp (aUp (aUp (aUp (aUp mem (t + 1) i v) (t + 2) i 1) (t + 3) i (-1)) (t + 4) i (-1)) (t + 5) i (-1)) (t + 2) i = 1 := by rw [aUp_nn (by omega), aUp_nn (by omega), aUp_nn (by omega), aUp_re]
  have e3 : (aUp (aUp (aUp (aUp (aUp mem (t + 1) i v) (t + 2) i 1) (t + 3) i (-1)) (t + 4) i (-1)) (t + 5) i (-1)) (t + 3) i = -1 := by rw [aUp_nn (by omega), aUp_nn (by omega), aUp_re]
  have e4 : (aUp (aUp (aUp (aUp (aUp mem (t + 1) i v) (t + 2) i 1) (t + 3) i (-1)) (t + 4) i (-1)) (t + 5) i (-1)) (t + 4) i = -1 := by rw [aUp_nn (by omega), aUp_re]
  refine hQ _ (fun o j z1 z2 z3 z4 => by rw [aUp_nn (by omega), aUp_nn (by omega), aUp_nn (by omega), aUp_nn (by omega), aUp_nn (by omega)]) s5 ⟨e1, e2, by rw [e3]; exact cVl_1, by rw [e4]; exact cVl_1, aUp_re⟩ e3 e4
theorem inl_5 {a b c : Int} {f g : Rw → Int} {a2 b2 c2 : Int} {f2 g2 : Rw → Int} (h : (Sum.inl (a, b, c, f, g) : ACR) = .inl (a2, b2, c2, f2, g2)) : a = a2 ∧ b = b2 ∧ c = c2 ∧ f = f2 ∧ g = g2 := by
  have e := Sum.inl.inj h
  exact ⟨congrArg (fun v => v.1) e, congrArg (fun v => v.2.1) e, congrArg (fun v => v.2.2.1) e, congrArg (fun v => v.2.2.2.1) e, congrArg (fun v => v.2.2.2.2) e⟩
theorem pT2_ok {T : Rw} {n q d q3 d3 t3 : Int} {g1 g2 h1 h2 : Rw → Int} (q0 : 0 ≤ q) (qn : q ≤ n) (h : pT2 T n g1 g2 q d = .inl (q3, d3, t3, h1, h2)) : tF T n q ≤ tF T n q3 ∧ q ≤ q3 ∧ q3 ≤ n ∧ d = d3 ∧ 1 ≤ t3 ∧ t3 ≤ 20 ∧ g1 = h1 ∧ g2 = h2 := by
  unfold pT2 at h
  cases e : pTm T n q with
  | inr x => rw [e] at h; cases h
  | inl v =>
    obtain ⟨q4, t4⟩ := v
    rw [e] at h
    obtain ⟨rfl, rfl, rfl, rfl, rfl⟩ := inl_5 h
    obtain ⟨k1, k2, k3, k4, k5⟩ := pTm_ok q0 qn e
    exact ⟨k1, k2, k3, rfl, k4, k5, rfl, rfl⟩
theorem pBd_ok {od : Bool} {T : Rw} {n v q c q3 d3 t3 : Int} {g1 g2 : Rw → Int} (hT : n ≤ 400) (q0 : 0 ≤ q) (qn : q ≤ n) (c0 : 0 ≤ c) (c1 : c ≤ 50) (h : pBd od T n v q c = .inl (q3, d3, t3, g1, g2)) : tF T n q ≤ tF T n q3 ∧ 0 ≤ q3 ∧ q3 ≤ n ∧ 0 ≤ d3 ∧ d3 ≤ 50 ∧ 1 ≤ t3 ∧ t3 ≤ 20 ∧ vB g1 ∧ vB g2 := by
  have hb := tF_b (T := T) qn
  unfold pBd at h
  cases od with
  | true =>
    rw [if_pos rfl] at h
    unfold pAc at h
    by_cases v3 : v = 3
    · rw [if_pos v3] at h
      obtain ⟨k1, k2, k3, rfl, k5, k6, rfl, rfl⟩ := pT2_ok q0 qn h
      exact ⟨k1, by omega, k3, c0, c1, k5, k6, f1_v, f1_v⟩
    · rw [if_neg v3] at h
      cases e : pSum true T n 8 q c with
      | inr x => rw [e] at h; cases h
      | inl w =>
        obtain ⟨q1, d1, h1⟩ := w
        rw [e] at h
        obtain ⟨l1, l2, l3, l4, l5⟩ := pSum_ok hT 8 _ _ _ _ _ q0 qn c0 c1 e
        have hb1 := tF_b (T := T) l2
        unfold pA2 at h
        dsimp only at h
        by_cases v0 : v = 0
        · rw [if_pos v0] at h
          by_cases ha : tW T n q1 = 52
          · rw [if_pos ha] at h
            have nx := nx_b (T := T) l2 (by rw [tW_s (T := T) (n := n) (p := q1) (by omega)]; decide)
            have hbx := tF_b (T := T) nx.2.1
            cases e2 : pSum true T n 8 (tT T n q1) d1 with
            | inr x => rw [e2] at h; cases h
            | inl w =>
              obtain ⟨q2, d2, h2⟩ := w
              rw [e2] at h
              obtain ⟨m1, m2, m3, m4, m5⟩ := pSum_ok hT 8 _ _ _ _ _ (by omega) nx.2.1 l3 l4 e2
              have hb2 := tF_b (T := T) m2
              obtain ⟨k1, k2, k3, rfl, k5, k6, rfl, rfl⟩ := pT2_ok (by omega) m2 h
              exact ⟨by omega, by omega, k3, m3, m4, k5, k6, l5, m5⟩
          · rw [if_neg ha] at h; cases h
        · rw [if_neg v0] at h
          obtain ⟨k1, k2, k3, rfl, k5, k6, rfl, rfl⟩ := pT2_ok (by omega) l2 h
          exact ⟨by omega, by omega, k3, l3, l4, k5, k6, l5, f1_v⟩
  | false =>
    rw [if_neg (by decide)] at h
    unfold pLs at h
    by_cases v2 : v < 2
    · rw [if_pos v2] at h
      cases e : pSum false T n 8 q c with
      | inr x => rw [e] at h; cases h
      | inl w =>
        obtain ⟨q1, d1, h1⟩ := w
        rw [e] at h
        obtain ⟨l1, l2, l3, l4, l5⟩ := pSum_ok hT 8 _ _ _ _ _ q0 qn c0 c1 e
        have hb1 := tF_b (T := T) l2
        obtain ⟨rfl, rfl, rfl, rfl, rfl⟩ := inl_5 h
        exact ⟨by omega, by omega, l2, l3, l4, by decide, by decide, l5, f1_v⟩
    · rw [if_neg v2] at h
      obtain ⟨rfl, rfl, rfl, rfl, rfl⟩ := inl_5 h
      exact ⟨Int.le_refl _, q0, qn, c0, c1, by decide, by decide, f1_v, f1_v⟩
theorem c_clause {E : EN} (hE : Ep E) (hSt : aStr E) {k : Nat} {t : Int} {T : Rw} {n : Int} {od : Bool} {N : Int} {mem : Mm} {Q : Int → Mm → Prop} {p c s i : Int} (hk : 22 ≤ k) (ht : isTx t) (hT : tOk T n) (hN : N = if od = true then 78 else 10) (hi : 0 ≤ i ∧ i < 12) (h0 : mem t 0 = i) (hst : cSt mem t T n od p c s) (hp : 0 ≤ p) (hpn : p ≤ n) (hc : 0 ≤ c) (hc2 : c ≤ 50) (hs0 : 0 ≤ s) (hsp : s ≤ tF T n p)
    (hF : ∀ y, pCl od T n p c = .inr y → ∀ m2, cFc t s i mem m2 → m2 591 7 = y → Q 0 m2)
    (hO : ∀ q d cl, pCl od T n p c = .inl (q, d, cl) → ∀ m2 s2, cFc t s i mem m2 → cSt m2 t T n od q d s2 → q ≤ n → 0 ≤ q → 0 ≤ d → d ≤ 50 → tF T n p + 1 ≤ tF T n q → s ≤ s2 → s2 ≤ tF T n q → cCl N m2 t s2 i cl → clOk cl → Q 1 m2) : CI E mX7_readClause (k + 6 + 1) mem [aR 591] Q := by
  have hT1 := hT.2.1
  have ht2 := ht
  unfold isTx at ht2
  have hbF := tF_b (T := T) hpn
  have hvb := vIx_b od (tW T n p)
  have ec : ¬ vIx od (tW T n p) = -1 → pCl od T n p c = pC2 od T n (vIx od (tW T n p)) (pBd od T n (vIx od (tW T n p)) (tT T n p) c) := fun z => if_neg z
  have stop : vIx od (tW T n p) = -1 → Q 0 mem := fun z => hF _ (if_pos z) mem cFc_rf hst.1.2.1
  generalize hv : vIx od (tW T n p) = v at *
  have nob : ∀ m2, Q 0 m2 → VM E mX7_readClause (k + 6 + 1) m2 95 [] [] (retI Q) := fun m2 h => rX7_readClause_95 hE h
  -- from the "if" on
  have fin : ¬ v = -1 → ∀ (m : Mm) (q3 d3 t3 s3 : Int) (g1 g2 : Rw → Int), cFc t s i mem m → cSt m t T n od q3 d3 s3 → s ≤ s3 → s3 ≤ tF T n q3 → rowB N m t s3 i v t3 g1 g2 → pBd od T n v (tT T n p) c = .inl (q3, d3, t3, g1, g2) → VM E mX7_readClause (k + 6 + 1) m 97 [(0, aR 591), (1, aI i)] [] (retI Q) := by
    intro hv1 m q3 d3 t3 s3 g1 g2 a1 a2 a3 a4 a5 e
    have h1024 : 1024 ≤ tW T n p := by omega
    have big := tW_big (T := T) hpn h1024
    have nx := nx_b (T := T) hpn (by omega : ¬ tS T n p = 0)
    have hbx := tF_b (T := T) nx.2.1
    obtain ⟨k1, k2, k3, k4, k5, k6, k7, k8, k9⟩ := pBd_ok hT1 (by omega) nx.2.1 hc hc2 e
    have ec := ec hv1
    rw [e] at ec
    refine c_if hE hSt hk ht hT hN hi a2 k2 k3 k4 k5 (by omega) a4 a5 (fun y hy m2 b1 b2 => hF y ?_ m2 (cFc_tr a1 b1 a3) b2) (fun q4 d4 g4 h4 m2 s4 b1 b2 b3 b4 b5 => ?_)
    · rw [ec]
      show sB (pIf od T n q3 d3) _ = _
      rw [hy]
      rfl
    · obtain ⟨l1, l2, l3, l4, l5, l6⟩ := pIf_ok hT1 k2 k3 k4 k5 h4
      refine hO q4 d4 (v, t3, g1, g2, g4) ?_ m2 s4 (cFc_tr a1 b1 a3) b2 l3 (by omega) l4 l5 (by omega) (by omega) b4 b5 ⟨by show 0 ≤ v; omega, by show v ≤ 3; omega, k6, k7, k8, k9, l6⟩
      rw [ec]
      show sB (pIf od T n q3 d3) _ = _
      rw [h4]
      rfl
  have TL : ¬ v = -1 → (isTx (mem 591 4)) ∧ (R32 v → CV E mX9_open (k + 6) mem [aR (mem 591 4), aI v] (fun m5 => (CV E mX7_advance (k + 6) m5 [aR 591] (fun m6 => (((m6 591 5) = 0 → ((1 < v → VM E mX7_readClause (k + 6 + 1) m6 97 [(0, aR 591), (1, aI i)] [] (retI Q)) ∧ (v ≤ 1 → (isTx (m6 591 4)) ∧ (R32 i → CI E mX7_readWholeSum (k + 6) m6 [aR 591, aR ((m6 591 4) + 3), aI i] (fun r9 m8 => ((¬ r9 = 0 → VM E mX7_readClause (k + 6 + 1) m8 97 [(0, aR 591), (1, aI i)] [] (retI Q)) ∧ (r9 = 0 → VM E mX7_readClause (k + 6 + 1) m8 95 [] [] (retI Q)))))))) ∧ (¬ (m6 591 5) = 0 → (R32 v → R32 i → CI E mX7_readActs (k + 6) m6 [aR 591, aI v, aI i] (fun r11 m10 => ((¬ r11 = 0 → VM E mX7_readClause (k + 6 + 1) m10 97 [(0, aR 591), (1, aI i)] [] (retI Q)) ∧ (r11 = 0 → VM E mX7_readClause (k + 6 + 1) m10 95 [] [] (retI Q))))))))))) := by
    intro hv1
    have h1024 : 1024 ≤ tW T n p := by omega
    have big := tW_big (T := T) hpn h1024
    have nx := nx_b (T := T) hpn (by omega : ¬ tS T n p = 0)
    have hbx := tF_b (T := T) nx.2.1
    rw [hst.2.1]
    refine ⟨ht, fun rv => c_open (N := N) hE ht hst h0 hi rv fun m1 a1 a2 a3 a4 a5 => c_advS (k := k + 5) hE ht hT a2 hp hpn fun m2 b1 b2 => ?_⟩
    have fc2 : cFc t s i mem m2 := cFc_tr a1 (cFc_r (cFr_4 (s := s) b1)) (Int.le_refl _)
    have b1' : ∀ x, 1 ≤ x → x ≤ 5 → m2 (t + x) i = m1 (t + x) i := fun x _ _ => b1 _ _ (by omega)
    have row2 : rowB N m2 t s i v 1 f1 f1 := by
      obtain ⟨r1, r2, r3, r4, r5⟩ := a3
      refine ⟨by rw [b1' 1 (by omega) (by omega)]; exact r1, by rw [b1' 2 (by omega) (by omega)]; exact r2, ?_, ?_, by rw [b1' 5 (by omega) (by omega)]; exact r5⟩
      · rw [b1' 3 (by omega) (by omega), a4]; exact cVl_1
      · rw [b1' 4 (by omega) (by omega), a5]; exact cVl_1
    cases od with
    | false =>
      have e5 : m2 591 5 = 0 := b2.2.2.1
      have epb : pBd false T n v (tT T n p) c = pLs T n v (tT T n p) c := rfl
      refine ⟨fun _ => ⟨fun z => fin hv1 m2 _ c 1 s f1 f1 fc2 b2 (Int.le_refl _) (by omega) row2 (by rw [epb]; exact if_neg (by omega)), fun z => ⟨by rw [b2.2.1]; exact ht, fun _ => ?_⟩⟩, fun z => absurd e5 z⟩
      have epl : pLs T n v (tT T n p) c = pL2 (pSum false T n 8 (tT T n p) c) := if_pos (by omega)
      rw [b2.2.1]
      refine c_whole (k := k + 5) hE hSt (by omega) ht hT hN (Or.inl rfl) hi b2 (by omega) nx.2.1 hc hc2 hs0 (by omega) (fun y hy m3 c1 c2 => ⟨fun z => absurd rfl z, fun _ => nob m3 (hF y ?_ m3 (cFc_tr fc2 c1 (Int.le_refl _)) c2)⟩) (fun q d f hq m3 s3 c1 c2 c3 c4 c5 c6 => ⟨fun _ => ?_, fun z => absurd z (by decide)⟩)
      · rw [ec hv1, epb, epl, hy]; rfl
      · have fc3 : cFc t s i m2 m3 := fun o j z1 z2 z3 z4 => c1 o j z1 z2 z3 (by omega)
        obtain ⟨r1, r2, r3, r4, r5⟩ := row2
        refine fin hv1 m3 q d 1 s3 f f1 (cFc_tr fc2 fc3 (Int.le_refl _)) c2 c3 c4 ⟨?_, ?_, by rw [c5]; exact c6, ?_, ?_⟩ (by rw [epb, epl, hq]; rfl)
        · rw [c1 _ _ (by omega) (by omega) (by omega) (by omega)]; exact r1
        · rw [c1 _ _ (by omega) (by omega) (by omega) (by omega)]; exact r2
        · rw [c1 _ _ (by omega) (by omega) (by omega) (by omega), b1' 4 (by omega) (by omega), a5]; exact cVl_1
        · rw [c1 _ _ (by omega) (by omega) (by omega) (by omega)]; exact r5
    | true =>
      have e5 : m2 591 5 = 1 := b2.2.2.1
      have epb : pBd true T n v (tT T n p) c = pAc T n v (tT T n p) c := rfl
      obtain ⟨k', rfl⟩ : ∃ k', k = k' + 1 := ⟨k - 1, by omega⟩
      refine ⟨fun z => absurd (e5.symm.trans z) (by decide), fun _ _ _ => c_acts (k := k') hE hSt (by omega) ht hT hN hi (by omega) b2 (by omega) nx.2.1 hc hc2 hs0 (by omega) ⟨row2, by rw [b1' 3 (by omega) (by omega)]; exact a4, by rw [b1' 4 (by omega) (by omega)]; exact a5⟩ (fun y hy m3 c1 c2 => ⟨fun z => absurd rfl z, fun _ => nob m3 (hF y ?_ m3 (cFc_tr fc2 c1 (Int.le_refl _)) c2)⟩) (fun q3 d3 t3 g1 g2 h3 m3 s3 c1 c2 c3 c4 c5 c6 c7 c8 c9 c10 => ⟨fun _ => fin hv1 m3 q3 d3 t3 s3 g1 g2 (cFc_tr fc2 c1 (Int.le_refl _)) c2 c7 c8 c10 (by rw [epb]; exact h3), fun z => absurd z (by decide)⟩)⟩
      rw [ec hv1, epb, hy]; rfl
  refine eX7_readClause (k := k + 6) (rX7_readClause_0 (k := k + 6) hE hSt ?_)
  have e4 := hst.2.1
  have st42 : v = -1 → VM E mX7_readClause (k + 6 + 1) mem 42 [] [] (retI Q) := fun z => rX7_readClause_42 hE (stop z)
  refine ⟨by rw [e4]; exact ht, ?_⟩
  rw [show mem (mem 591 4) 0 = i by rw [e4]; exact h0]
  obtain ⟨k', rfl⟩ : ∃ k', k = k' + 1 := ⟨k - 1, by omega⟩
  cases od with
  | false =>
    have e5 : mem 591 5 = 0 := hst.2.2.1
    refine ⟨fun _ => c_wordIn (k := k' + 2) hE hSt hT hst.1 hp hpn (Or.inl (by decide)) ?_, fun z => absurd e5 z⟩
    rw [show ixL (whL 1) (tW T n p) 0 = v from hv]
    exact ⟨st42, fun z => ⟨fun y => absurd y (by omega), fun _ => ⟨fun _ => TL z, fun y => absurd y (by omega)⟩⟩⟩
  | true =>
    have e5 : mem 591 5 = 1 := hst.2.2.1
    refine ⟨fun z => absurd (e5.symm.trans z) (by decide), fun _ => c_wordIn (k := k' + 2) hE hSt hT hst.1 hp hpn (Or.inl (by decide)) ?_⟩
    rw [show ixL (whL 0) (tW T n p) 0 = v from hv]
    exact ⟨st42, fun z => ⟨fun y => absurd y (by omega), fun _ => ⟨fun _ => TL z, fun y => absurd y (by omega)⟩⟩⟩
