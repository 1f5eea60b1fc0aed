-- what can be undone: how many, the rows ahead, the sorts; kept on both sides
abbrev PS : Type := Int × (Int → Rw) × (Int → Int)
def psh (P : PS) (r : Rw) (a : Int) : PS := if P.1 < 16 then (P.1 + 1, (fun k => if k = P.1 then r else P.2.1 k), fun k => if k = P.1 then a else P.2.2 k) else (16, (fun k => if k = 15 then r else P.2.1 (k + 1)), fun k => if k = 15 then a else P.2.2 (k + 1))
def pC (m : Mm) (P : PS) : Prop := m 12 2 = P.1 ∧ (∀ k, 0 ≤ k → k < 16 → isPy (m 13 k)) ∧ (∀ j k, 0 ≤ j → j < 16 → 0 ≤ k → k < 16 → m 13 j = m 13 k → j = k) ∧ ∀ k, 0 ≤ k → k < P.1 → yR m (m 13 k) (P.2.1 k) ∧ m 14 k = P.2.2 k
def pM (m : Mm) (P : PS) : Prop := m 603 8 = P.1 ∧ ∀ k, 0 ≤ k → k < P.1 → snR m k = P.2.1 k ∧ m 609 k = P.2.2 k
def pOk (P : PS) : Prop := 0 ≤ P.1 ∧ P.1 ≤ 16 ∧ ∀ k, 0 ≤ k → k < P.1 → rOk 999 (P.2.1 k) ∧ 0 ≤ P.2.2 k ∧ P.2.2 k ≤ 3
theorem iPast_get {m : Mm} (h : iPast m) : ∃ P, pC m P ∧ pM m P ∧ pOk P := by
  obtain ⟨h1, h2, h3, h4, h5, h6⟩ := h
  exact ⟨(m 603 8, snR m, m 609), ⟨h1, fun k a b => (h4 k a b).1, h5, fun k a b => ⟨(h6 k a b).1, (h6 k a b).2.2.1⟩⟩, ⟨rfl, fun k _ _ => ⟨rfl, rfl⟩⟩, h2, h3, fun k a b => ⟨(h6 k a b).2.1, (h6 k a b).2.2.2⟩⟩
theorem iPast_of {m : Mm} {P : PS} (h1 : pC m P) (h2 : pM m P) (h3 : pOk P) (h4 : ∀ k, 0 ≤ k → k < 16 → m 186 k = 188 + 10 * k) : iPast m := by
  obtain ⟨a1, a2, a3, a4⟩ := h1
  obtain ⟨b1, b2⟩ := h2
  obtain ⟨c1, c2, c3⟩ := h3
  refine ⟨a1.trans b1.symm, by rw [b1]; exact c1, by rw [b1]; exact c2, fun k u v => ⟨a2 k u v, h4 k u v⟩, a3, fun k u v => ?_⟩
  rw [b1] at v
  obtain ⟨d1, d2⟩ := a4 k u v
  obtain ⟨e1, e2⟩ := b2 k u v
  obtain ⟨f1, f2, f3⟩ := c3 k u v
  rw [e1, e2]
  exact ⟨d1, f1, d2, f2, f3⟩
theorem psh_ok {P : PS} {r : Rw} {a : Int} (h : pOk P) (hr : rOk 999 r) (h0 : 0 ≤ a) (h3 : a ≤ 3) : pOk (psh P r a) := by
  obtain ⟨c1, c2, c3⟩ := h
  unfold psh
  by_cases q : P.1 < 16
  · rw [if_pos q]
    refine ⟨by dsimp only; omega, by dsimp only; omega, fun k u v => ?_⟩
    dsimp only at v ⊢
    by_cases z : k = P.1
    · rw [if_pos z, if_pos z]; exact ⟨hr, h0, h3⟩
    · rw [if_neg z, if_neg z]; exact c3 k u (by omega)
  · rw [if_neg q]
    refine ⟨by dsimp only; omega, by dsimp only; omega, fun k u v => ?_⟩
    dsimp only at v ⊢
    by_cases z : k = 15
    · rw [if_pos z, if_pos z]; exact ⟨hr, h0, h3⟩
    · rw [if_neg z, if_neg z]; exact c3 (k + 1) (by omega) (by omega)
theorem py_yd {y : Int} (h : isPy y) : isYd y := Or.inr (Or.inl h)
theorem py_py {y z : Int} (hy : isPy y) (hz : isPy z) (h : y ≠ z) : y + 9 < z ∨ z + 9 < y := by unfold isPy at hy hz; omega
theorem s_drop {E : EN} (hE : Ep E) {k : Nat} {mem : Mm} {Q : Mm → Prop} (hpy : ∀ k, 0 ≤ k → k < 16 → isPy (mem 13 k)) (hQ : ∀ m2 : Mm, (∀ o i, o ≠ 13 → o ≠ 14 → ¬ (o = 12 ∧ i = 2) → m2 o i = mem o i) → (∀ k, 0 ≤ k → k < 15 → m2 13 k = mem 13 (k + 1) ∧ m2 14 k = mem 14 (k + 1)) → m2 13 15 = mem 13 0 → m2 12 2 = 15 → Q m2) : CV E mX6_dropOldest k mem [aR 12] Q := by
  have hpt : isPt 12 := Or.inl rfl
  have lp : ∀ (n : Nat) (m2 : Mm) (x : Int), 1 ≤ x → x + n = 16 → (∀ o i, o ≠ 13 → o ≠ 14 → m2 o i = mem o i) → (∀ j, 0 ≤ j → j < 16 → m2 13 j = if j < x - 1 then mem 13 (j + 1) else mem 13 j) → (∀ j, 0 ≤ j → j < 16 → m2 14 j = if j < x - 1 then mem 14 (j + 1) else mem 14 j) → VM E mX6_dropOldest k m2 9 [(0, aR 12), (1, aR (mem 13 0)), (2, aI x)] [] (retV Q) := by
    intro n
    induction n with
    | zero =>
      intro m2 x h0 h1 h2 h3 h4
      refine rX6_dropOldest_9 hE hpt (py_yd (hpy 0 (by decide) (by decide))) ⟨fun _ => hQ _ (fun o i a b c => ?_) (fun j a b => ⟨?_, ?_⟩) ?_ aUp_re, fun c => absurd c (by omega)⟩
      · rw [aUp_at, if_neg c, aUp_rn (show o ≠ 12 + 1 from a)]; exact h2 o i a b
      · rw [aUp_rn (by decide), aUp_ri (by omega), h3 j a (by omega), if_pos (by omega)]
      · rw [aUp_rn (by decide), aUp_rn (by decide), h4 j a (by omega), if_pos (by omega)]
      · rw [aUp_rn (by decide)]; exact aUp_re
    | succ n ih =>
      intro m2 x h0 h1 h2 h3 h4
      have e13 := h3 x (by omega) (by omega)
      rw [if_neg (by omega)] at e13
      have e14 := h4 x (by omega) (by omega)
      rw [if_neg (by omega)] at e14
      refine rX6_dropOldest_9 hE hpt (py_yd (hpy 0 (by decide) (by decide))) ⟨fun c => absurd c (by omega), fun _ => ⟨⟨by omega, by omega⟩, ⟨by omega, by omega⟩, ⟨by omega, by omega⟩, ?_, ⟨by omega, by omega⟩, ih _ (x + 1) (by omega) (by omega) (fun o i a b => ?_) (fun j a b => ?_) (fun j a b => ?_)⟩⟩
      · rw [show (12 : Int) + 1 = 13 from rfl, e13]; exact py_yd (hpy x (by omega) (by omega))
      · rw [aUp_rn (show o ≠ 12 + 2 from b), aUp_rn (show o ≠ 12 + 1 from a)]; exact h2 o i a b
      · rw [aUp_rn (by decide), aUp_at]
        by_cases z : j = x - 1
        · rw [if_pos ⟨rfl, z⟩, if_pos (by omega), show (12 : Int) + 1 = 13 from rfl, e13, z]
          congr 1
          omega
        · rw [if_neg (fun q => z q.2), h3 j a b]
          by_cases y : j < x - 1
          · rw [if_pos y, if_pos (by omega)]
          · rw [if_neg y, if_neg (by omega)]
      · rw [aUp_at]
        by_cases z : j = x - 1
        · rw [if_pos ⟨rfl, z⟩, if_pos (by omega), show (12 : Int) + 2 = 14 from rfl, e14, z]
          congr 1
          omega
        · rw [if_neg (fun q => z q.2), aUp_rn (by decide), h4 j a b]
          by_cases y : j < x - 1
          · rw [if_pos y, if_pos (by omega)]
          · rw [if_neg y, if_neg (by omega)]
  exact eX6_dropOldest (rX6_dropOldest_0 hE hpt (lp 15 mem 1 (by decide) (by decide) (fun _ _ _ _ => rfl) (fun j a b => by rw [if_neg (by omega)]) (fun j a b => by rw [if_neg (by omega)])))
theorem s_keep {E : EN} (hE : Ep E) {k : Nat} {mem : Mm} {Q : Mm → Prop} {r : Rw} {P : PS} {a : Int} (hR : yR mem 2 r) (hP : pC mem P) (h0 : 0 ≤ P.1) (h16 : P.1 ≤ 16) (ha : R32 a) (hQ : ∀ m2 : Mm, (∀ o i, ¬ (12 ≤ o ∧ o ≤ 174) → m2 o i = mem o i) → pC m2 (psh P r a) → Q m2) : CV E mX6_keep (k + 2) mem [aR 12, aR 2, aI a] Q := by
  have hpt : isPt 12 := Or.inl rfl
  -- below 16
  have key : ∀ (m : Mm) (P1 : PS), yR m 2 r → pC m P1 → 0 ≤ P1.1 → P1.1 < 16 → (∀ m2 : Mm, (∀ o i, ¬ (12 ≤ o ∧ o ≤ 174) → m2 o i = m o i) → pC m2 (psh P1 r a) → Q m2) → (0 ≤ (m 12 2) ∧ (m 12 2) < 16) ∧ (isYd (m (12 + 1) (m 12 2))) ∧ (CV E mX10_copyFrom (k + 1) m [aR (m (12 + 1) (m 12 2)), aR 2] (fun m3 => (0 ≤ (m3 12 2) ∧ (m3 12 2) < 16) ∧ (R32 ((m3 12 2) + 1)) ∧ Q (aUp (aUp m3 (12 + 2) (m3 12 2) a) 12 2 ((m3 12 2) + 1)))) := by
    intro m P1 hR1 hP1 g0 g1 hQ1
    obtain ⟨a1, a2, a3, a4⟩ := hP1
    have hy := a2 P1.1 g0 g1
    have hyb := hy
    unfold isPy at hyb
    rw [a1]
    refine ⟨⟨g0, g1⟩, py_yd hy, s_ycopy hE (py_yd hy) isYd2 (by rw [show (12 : Int) + 1 = 13 from rfl]; omega) hR1 fun m3 b1 b2 b3 => ?_⟩
    rw [show (12 : Int) + 1 = 13 from rfl] at b1 b2 b3
    have e12 : m3 12 2 = P1.1 := (b1 12 2 (by omega)).trans a1
    have e13 : ∀ j, m3 13 j = m 13 j := fun j => b1 13 j (by omega)
    have e14 : ∀ j, m3 14 j = m 14 j := fun j => b1 14 j (by omega)
    rw [e12]
    refine ⟨⟨g0, g1⟩, ⟨by omega, by omega⟩, hQ1 _ (fun o i u => ?_) ?_⟩
    · rw [aUp_rn (by omega), aUp_rn (by omega)]; exact b1 o i (by omega)
    · have f13 : ∀ j, (aUp (aUp m3 (12 + 2) P1.1 a) 12 2 (P1.1 + 1)) 13 j = m 13 j := fun j => by rw [aUp_rn (by decide), aUp_rn (by decide), e13]
      unfold psh
      rw [if_pos g1]
      refine ⟨aUp_re, fun j u v => by rw [f13]; exact a2 j u v, fun i j u v w x y => by rw [f13, f13] at y; exact a3 i j u v w x y, fun j u v => ?_⟩
      dsimp only at v
      rw [f13]
      by_cases z : j = P1.1
      · rw [z]
        dsimp only
        rw [if_pos rfl, if_pos rfl]
        refine ⟨yR_fr b3 (by rw [aUp_rn (by omega), aUp_rn (by omega)]) (fun o i c d => by rw [aUp_rn (by omega), aUp_rn (by omega)]), ?_⟩
        rw [aUp_rn (by decide)]
        exact aUp_re
      · dsimp only
        rw [if_neg z, if_neg z]
        obtain ⟨c1, c2⟩ := a4 j u (by omega)
        have hj := a2 j u (by omega)
        have hjb := hj
        unfold isPy at hjb
        have hne : m 13 j ≠ m 13 P1.1 := fun q => z (a3 j P1.1 u (by omega) g0 g1 q)
        have hd := py_py hj hy hne
        refine ⟨yR_fr c1 ?_ (fun o i c d => ?_), ?_⟩
        · rw [aUp_rn (by omega), aUp_rn (by omega)]; exact b1 _ _ (by omega)
        · rw [aUp_rn (by omega), aUp_rn (by omega)]; exact b1 _ _ (by omega)
        · rw [aUp_rn (by decide), aUp_at, if_neg (fun q => z q.2), e14]; exact c2
  have hP' := hP
  obtain ⟨a1, a2, a3, a4⟩ := hP'
  refine eX6_keep ha (rX6_keep_0 hE hpt isYd2 ⟨fun c => key mem P hR hP h0 (by omega) hQ, fun c => s_drop hE a2 fun m6 b1 b2 b3 b4 => ?_⟩)
  have hR6 : yR m6 2 r := yR_fr hR (b1 2 10 (by decide) (by decide) (by decide)) (fun o i u v => b1 o i (by omega) (by omega) (by omega))
  have f13 : ∀ j, 0 ≤ j → j < 16 → m6 13 j = mem 13 (if j = 15 then 0 else j + 1) := fun j u v => by
    by_cases z : j = 15
    · rw [if_pos z, z]; exact b3
    · rw [if_neg z]; exact (b2 j u (by omega)).1
  refine key m6 (15, (fun j => P.2.1 (j + 1)), fun j => P.2.2 (j + 1)) hR6 ⟨b4, fun j u v => ?_, fun i j u v w x y => ?_, fun j u v => ?_⟩ (show (0 : Int) ≤ 15 by decide) (show (15 : Int) < 16 by decide) fun m2 d1 d2 => hQ m2 (fun o i u => (d1 o i u).trans (b1 o i (by omega) (by omega) (by omega))) ?_
  · rw [f13 j u v]
    split
    · exact a2 0 (by decide) (by decide)
    · exact a2 (j + 1) (by omega) (by omega)
  · rw [f13 i u v, f13 j w x] at y
    have := a3 _ _ (by split <;> omega) (by split <;> omega) (by split <;> omega) (by split <;> omega) y
    split at this <;> split at this <;> omega
  · dsimp only at v ⊢
    obtain ⟨e1, e2⟩ := b2 j u v
    obtain ⟨c1, c2⟩ := a4 (j + 1) (by omega) (by omega)
    have hj := a2 (j + 1) (by omega) (by omega)
    unfold isPy at hj
    rw [e1, e2]
    exact ⟨yR_fr c1 (b1 _ _ (by omega) (by omega) (by omega)) (fun o i w x => b1 _ _ (by omega) (by omega) (by omega)), c2⟩
  · have e : psh (15, (fun j => P.2.1 (j + 1)), fun j => P.2.2 (j + 1)) r a = psh P r a := by
      unfold psh
      rw [if_pos (show (15 : Int) < 16 by decide), if_neg (by omega)]
      rfl
    rw [← e]
    exact d2
/-- the model's side -/
theorem m_rem_keep {E : EN} (hE : Ep E) {k : Nat} {mem : Mm} {Q : Mm → Prop} {P : PS} {a : Int} (hP : pM mem P) (h0 : 0 ≤ P.1) (h16 : P.1 < 16) (hQ : ∀ m2 : Mm, (∀ o i, ¬ (o = 608 ∧ i < 1232) → o ≠ 609 → ¬ (o = 603 ∧ i = 8) → m2 o i = mem o i) → pM m2 (psh P (mem 605) a) → Q m2) : CV E mX12_keepAll k mem [aR 603, aI (mem 603 8)] (fun m1 => (0 ≤ (m1 603 8) ∧ (m1 603 8) < 16) ∧ (R32 ((m1 603 8) + 1)) ∧ Q (aUp (aUp m1 609 (m1 603 8) a) 603 8 ((m1 603 8) + 1))) := by
  obtain ⟨a1, a2⟩ := hP
  rw [a1]
  refine m_keep hE h0 (by omega) ?_
  have e8 : (fun (o i : Int) => if o = 608 ∧ 77 * P.1 ≤ i ∧ i < 77 * P.1 + 77 then mem 605 (3 + (i - 77 * P.1)) else mem o i) 603 8 = P.1 := (if_neg (by omega)).trans a1
  rw [e8]
  refine ⟨⟨h0, h16⟩, ⟨by omega, by omega⟩, hQ _ (fun o i u v w => ?_) ?_⟩
  · rw [aUp_at, if_neg w, aUp_rn v]
    exact if_neg (by omega)
  · unfold psh
    rw [if_pos h16]
    refine ⟨aUp_re, fun j u v => ?_⟩
    dsimp only at v ⊢
    have e605 : ∀ i, aUp (aUp (fun (o i : Int) => if o = 608 ∧ 77 * P.1 ≤ i ∧ i < 77 * P.1 + 77 then mem 605 (3 + (i - 77 * P.1)) else mem o i) 609 P.1 a) 603 8 (P.1 + 1) 605 i = mem 605 i := fun i => by
      rw [aUp_rn (by decide), aUp_rn (by decide)]
      exact if_neg (by omega)
    have e608 : ∀ i, aUp (aUp (fun (o i : Int) => if o = 608 ∧ 77 * P.1 ≤ i ∧ i < 77 * P.1 + 77 then mem 605 (3 + (i - 77 * P.1)) else mem o i) 609 P.1 a) 603 8 (P.1 + 1) 608 i = if 77 * P.1 ≤ i ∧ i < 77 * P.1 + 77 then mem 605 (3 + (i - 77 * P.1)) else mem 608 i := fun i => by
      rw [aUp_rn (by decide), aUp_rn (by decide)]
      by_cases z : 77 * P.1 ≤ i ∧ i < 77 * P.1 + 77
      · rw [if_pos z]; exact if_pos ⟨rfl, z⟩
      · rw [if_neg z]; exact if_neg fun q => z q.2
    by_cases z : j = P.1
    · rw [if_pos z, if_pos z, z]
      refine ⟨funext fun i => ?_, ?_⟩
      · unfold snR
        rw [e605, e608]
        by_cases y : 3 ≤ i ∧ i < 80
        · rw [if_pos y, if_pos (by omega)]
          congr 1
          omega
        · rw [if_neg y]
      · rw [aUp_rn (by decide)]; exact aUp_re
    · rw [if_neg z, if_neg z]
      obtain ⟨c1, c2⟩ := a2 j u (by omega)
      refine ⟨?_, ?_⟩
      · rw [← c1]
        funext i
        unfold snR
        rw [e605, e608]
        by_cases y : 3 ≤ i ∧ i < 80
        · rw [if_pos y, if_pos y, if_neg (by omega)]
        · rw [if_neg y, if_neg y]
      · rw [aUp_rn (by decide), aUp_ri z]
        exact (if_neg (by omega)).trans c2
theorem m_remember {E : EN} (hE : Ep E) {k : Nat} {mem : Mm} {Q : Mm → Prop} {P : PS} {a : Int} (hP : pM mem P) (h0 : 0 ≤ P.1) (h16 : P.1 ≤ 16) (ha : R32 a) (hQ : ∀ m2 : Mm, (∀ o i, ¬ (o = 608 ∧ i < 1232) → o ≠ 609 → ¬ (o = 603 ∧ i = 8) → m2 o i = mem o i) → pM m2 (psh P (mem 605) a) → Q m2) : CV E mX12_remember (k + 1) mem [aR 603, aI a] Q := by
  have a1 := hP.1
  refine eX12_remember ha (rX12_remember_0 hE ⟨fun c _ => m_rem_keep hE hP h0 (by omega) hQ, fun c => ?_⟩)
  -- all move down
  have l2 : ∀ (n : Nat) (m2 : Mm) (x : Int), 0 ≤ x → x + n = 15 → (∀ o i, ¬ (o = 608 ∧ i < 1232) → o ≠ 609 → m2 o i = mem o i) → (∀ i, 0 ≤ i → i < 1155 → m2 608 i = mem 608 (i + 77)) → (∀ j, 0 ≤ j → j < 16 → m2 609 j = if j < x then mem 609 (j + 1) else mem 609 j) → VM E mX12_remember (k + 1) m2 41 [(0, aR 603), (1, aI a), (2, aI x)] [] (retV Q) := by
    intro n
    induction n with
    | zero =>
      intro m2 x x0 x1 h1 h2 h3
      have e8 : m2 603 8 = 16 := (h1 603 8 (by omega) (by decide)).trans c
      have e605 : m2 605 = mem 605 := funext fun i => h1 605 i (by omega) (by decide)
      have hP2 : pM (aUp m2 603 8 (m2 603 8 - 1)) (15, (fun j => P.2.1 (j + 1)), fun j => P.2.2 (j + 1)) := by
        refine ⟨by rw [aUp_re, e8]; rfl, fun j u v => ?_⟩
        dsimp only at v ⊢
        obtain ⟨d1, d2⟩ := hP.2 (j + 1) (by omega) (by omega)
        refine ⟨?_, ?_⟩
        · rw [← d1]
          funext i
          unfold snR
          rw [aUp_rn (by decide), aUp_rn (by decide), e605]
          by_cases y : 3 ≤ i ∧ i < 80
          · rw [if_pos y, if_pos y, h2 _ (by omega) (by omega)]
            congr 1
            omega
          · rw [if_neg y, if_neg y]
        · rw [aUp_rn (by decide), h3 j u (by omega), if_pos (by omega)]
          exact d2
      have e9 : m2 603 8 - 1 = (aUp m2 603 8 (m2 603 8 - 1)) 603 8 := aUp_re.symm
      refine rX12_remember_41 hE ⟨fun _ => ⟨by rw [e8]; exact ⟨by decide, by decide⟩, fun _ => ?_⟩, fun d => absurd d (by omega)⟩
      have := m_rem_keep (k := k) (Q := Q) (a := a) hE hP2 (show (0 : Int) ≤ 15 by decide) (show (15 : Int) < 16 by decide) (fun m3 g1 g2 => hQ m3 (fun o i u v w => (g1 o i u v w).trans ((aUp_at _ _ _ _ _ _).trans ((if_neg w).trans (h1 o i u v)))) ?_)
      · rw [← e9] at this
        exact this
      · have e : psh (15, (fun j => P.2.1 (j + 1)), fun j => P.2.2 (j + 1)) (aUp m2 603 8 (m2 603 8 - 1) 605) a = psh P (mem 605) a := by
          rw [aUp_ne (by decide), e605]
          unfold psh
          rw [if_pos (show (15 : Int) < 16 by decide), if_neg (by omega)]
          rfl
        rw [← e]
        exact g2
    | succ n ih =>
      intro m2 x x0 x1 h1 h2 h3
      have e := h3 (x + 1) (by omega) (by omega)
      rw [if_neg (by omega)] at e
      refine rX12_remember_41 hE ⟨fun d => absurd d (by omega), fun _ => ⟨⟨by omega, by omega⟩, ⟨by omega, by omega⟩, ⟨by omega, by omega⟩, ih _ (x + 1) (by omega) (by omega) (fun o i u v => (aUp_rn v).trans (h1 o i u v)) (fun i u v => (aUp_rn (by decide)).trans (h2 i u v)) (fun j u v => ?_)⟩⟩
      by_cases z : j = x
      · rw [z, aUp_re, if_pos (by omega), e]
      · rw [aUp_ri z, h3 j u v]
        by_cases y : j < x
        · rw [if_pos y, if_pos (by omega)]
        · rw [if_neg y, if_neg (by omega)]
  have l1 : ∀ (n : Nat) (m2 : Mm) (x : Int), 0 ≤ x → x + n = 1155 → (∀ o i, o ≠ 608 → m2 o i = mem o i) → (∀ i, m2 608 i = if 0 ≤ i ∧ i < x then mem 608 (i + 77) else mem 608 i) → VM E mX12_remember (k + 1) m2 11 [(0, aR 603), (1, aI a), (2, aI x)] [] (retV Q) := by
    intro n
    induction n with
    | zero =>
      intro m2 x x0 x1 h1 h2
      refine rX12_remember_11 hE ⟨fun _ => l2 15 m2 0 (by decide) (by decide) (fun o i u v => ?_) (fun i u v => ?_) (fun j u v => ?_), fun d => absurd d (by omega)⟩
      · by_cases z : o = 608
        · rw [z, h2, if_neg (by omega)]
        · exact h1 o i z
      · rw [h2, if_pos (by omega)]
      · rw [if_neg (by omega)]; exact h1 609 j (by decide)
    | succ n ih =>
      intro m2 x x0 x1 h1 h2
      have e := h2 (x + 77)
      rw [if_neg (by omega)] at e
      refine rX12_remember_11 hE ⟨fun d => absurd d (by omega), fun _ => ⟨⟨by omega, by omega⟩, ⟨by omega, by omega⟩, ⟨by omega, by omega⟩, ⟨by omega, by omega⟩, ih _ (x + 1) (by omega) (by omega) (fun o i u => (aUp_rn u).trans (h1 o i u)) (fun i => ?_)⟩⟩
      by_cases z : i = x
      · rw [z, aUp_re, if_pos (by omega), e]
      · rw [aUp_ri z, h2 i]
        by_cases y : 0 ≤ i ∧ i < x
        · rw [if_pos y, if_pos (by omega)]
        · rw [if_neg y, if_neg (by omega)]
  exact l1 1155 mem 0 (by decide) (by decide) (fun _ _ _ => rfl) (fun i => by rw [if_neg (by omega)])
