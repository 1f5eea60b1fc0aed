-- the class keeps the past aside and gives it back
theorem s_pcopy {E : EN} (hE : Ep E) {k : Nat} {mem : Mm} {Q : Mm → Prop} {y p a b : Int} {P : PS} (hy : isPt y) (hp : isPt p) (hP0 : 0 ≤ P.1) (h16 : P.1 ≤ 16) (hyp : y + 2 < p ∨ p + 2 < y) (hya : y + 2 < a ∨ b < y) (hpa : p + 2 < a ∨ b < p)
    (ht : ∀ k, 0 ≤ k → k < 16 → isYd (mem (y + 1) k) ∧ a ≤ mem (y + 1) k ∧ mem (y + 1) k + 9 ≤ b)
    (hs : ∀ k, 0 ≤ k → k < 16 → isYd (mem (p + 1) k) ∧ (mem (p + 1) k + 9 < a ∨ b < mem (p + 1) k) ∧ (mem (p + 1) k + 9 < y ∨ y + 2 < mem (p + 1) k))
    (hd : ∀ j k, 0 ≤ j → j < 16 → 0 ≤ k → k < 16 → j ≠ k → mem (y + 1) j + 9 < mem (y + 1) k ∨ mem (y + 1) k + 9 < mem (y + 1) j)
    (e2 : mem p 2 = P.1) (hr : ∀ k, 0 ≤ k → k < P.1 → yR mem (mem (p + 1) k) (P.2.1 k) ∧ mem (p + 2) k = P.2.2 k)
    (hQ : ∀ m2 : Mm, (∀ o i, ¬ (o = y ∧ i = 2) → o ≠ y + 2 → ¬ (a ≤ o ∧ o ≤ b) → m2 o i = mem o i) → m2 y 2 = P.1 → (∀ k, 0 ≤ k → k < P.1 → yR m2 (mem (y + 1) k) (P.2.1 k) ∧ m2 (y + 2) k = P.2.2 k) → Q m2) : CV E mX6_copyFrom (k + 2) mem [aR y, aR p] Q := by
  have lp : ∀ (d : Nat) (j : Int) (m : Mm), 0 ≤ j → j + d = P.1 → (∀ o i, ¬ (o = y ∧ i = 2) → o ≠ y + 2 → ¬ (a ≤ o ∧ o ≤ b) → m o i = mem o i) → m y 2 = P.1 → (∀ k, 0 ≤ k → k < j → yR m (mem (y + 1) k) (P.2.1 k) ∧ m (y + 2) k = P.2.2 k) → VM E mX6_copyFrom (k + 2) m 10 [(0, aR y), (1, aR p), (2, aI j)] [] (retV Q) := by
    intro d
    induction d with
    | zero =>
      intro j m j0 hj f f2 g
      obtain rfl : j = P.1 := by omega
      exact rX6_copyFrom_10 (k := k + 1) hE hy hp ⟨fun _ => hQ m f f2 g, fun z => absurd z (by omega)⟩
    | succ d ih =>
      intro j m j0 hj f f2 g
      obtain ⟨t1, t2, t3⟩ := ht j j0 (by omega)
      obtain ⟨s1, s2, s3⟩ := hs j j0 (by omega)
      obtain ⟨r1, r2⟩ := hr j j0 (by omega)
      have et : m (y + 1) j = mem (y + 1) j := f _ _ (by omega) (by omega) (by omega)
      have es : m (p + 1) j = mem (p + 1) j := f _ _ (by omega) (by omega) (by omega)
      refine rX6_copyFrom_10 (k := k + 1) hE hy hp ⟨fun z => absurd z (by omega), fun _ => ⟨fun z => absurd z (by omega), fun _ => ⟨⟨by omega, by omega⟩, by rw [et]; exact t1, ?_⟩⟩⟩
      rw [et, es]
      have rs : yR m (mem (p + 1) j) (P.2.1 j) := yR_fr r1 (f _ _ (by omega) (by omega) (by omega)) (fun o i u v => f o i (by omega) (by omega) (by omega))
      refine s_ycopy hE t1 s1 (by omega) rs fun m3 b1 b2 b3 => ?_
      have ep : m3 (p + 2) j = P.2.2 j := (b1 _ _ (by omega)).trans ((f _ _ (by omega) (by omega) (by omega)).trans r2)
      rw [ep]
      refine ⟨⟨by omega, by omega⟩, ih (j + 1) _ (by omega) (by omega) (fun o i u v w => ?_) ?_ (fun x x0 x1 => ?_)⟩
      · rw [aUp_rn v, b1 o i (by omega)]
        exact f o i u v w
      · rw [aUp_rn (by omega), b1 y 2 (by omega)]
        exact f2
      · by_cases c : x = j
        · subst c
          exact ⟨yR_fr b3 (aUp_rn (by omega)) (fun o i u v => aUp_rn (by omega)), aUp_re⟩
        · obtain ⟨x2, x3, x4⟩ := ht x x0 (by omega)
          have hx := hd x j x0 (by omega) j0 (by omega) c
          obtain ⟨g1, g2⟩ := g x x0 (by omega)
          refine ⟨yR_fr g1 ?_ (fun o i u v => ?_), ?_⟩
          · rw [aUp_rn (by omega)]; exact b1 _ _ (by omega)
          · rw [aUp_rn (by omega)]; exact b1 _ _ (by omega)
          · rw [aUp_ri c, b1 _ _ (by omega)]; exact g2
  have f1 : ∀ o i, ¬ (o = y ∧ i = 2) → (aUp mem y 2 (mem p 2)) o i = mem o i := fun o i z => aUp_nn z
  exact eX6_copyFrom (k := k + 1) (rX6_copyFrom_0 (k := k + 1) hE hy hp (lp P.1.toNat 0 _ (by decide) (by omega) (fun o i u _ _ => f1 o i u) (aUp_re.trans e2) (fun x x0 x1 => absurd x1 (by omega))))
/-- before ORDERS: all is kept aside -/
theorem s_beginO {E : EN} (hE : Ep E) {k : Nat} {mem : Mm} {Q : Mm → Prop} {r : Rw} {P : PS} (hR : yR mem 2 r) (hP : pC mem P) (hok : pOk P) (h186 : ∀ k, 0 ≤ k → k < 16 → mem 186 k = 188 + 10 * k)
    (hQ : ∀ m2 : Mm, (∀ o i, ¬ (175 ≤ o ∧ o ≤ 184) → ¬ (o = 185 ∧ i = 2) → ¬ (187 ≤ o ∧ o ≤ 347) → ¬ (o = 1 ∧ (i = 5 ∨ i = 7 ∨ i = 8)) → m2 o i = mem o i) → yR m2 175 r → m2 185 2 = P.1 → (∀ k, 0 ≤ k → k < P.1 → yR m2 (188 + 10 * k) (P.2.1 k) ∧ m2 187 k = P.2.2 k) → m2 1 5 = mem 1 6 → m2 1 7 = -1 → m2 1 8 = 0 → Q m2) : CV E mX8_beginOrders (k + 3) mem [aR 1] Q := by
  obtain ⟨p1, p2, p3, p4⟩ := hP
  have y175 : isYd 175 := by unfold isYd; omega
  refine eX8_beginOrders (k := k + 2) (rX8_beginOrders_0 (k := k + 2) hE (s_ycopy (k := k + 1) hE y175 isYd2 (by decide) hR fun m1 b1 b2 b3 => ?_))
  have e13 : ∀ j, m1 13 j = mem 13 j := fun j => b1 _ _ (by omega)
  have e186 : ∀ j, 0 ≤ j → j < 16 → m1 186 j = 188 + 10 * j := fun j u v => (b1 _ _ (by omega)).trans (h186 j u v)
  refine s_pcopy (k := k) (a := 188) (b := 347) (P := P) hE (by unfold isPt; omega) (Or.inl rfl) hok.1 hok.2.1 (by omega) (by omega) (by omega) (fun j u v => ?_) (fun j u v => ?_) (fun i j u v w x z => ?_) ((b1 _ _ (by omega)).trans p1) (fun j u v => ?_) (fun m2 c1 c2 c3 => ?_)
  · rw [show (185 : Int) + 1 = 186 from rfl, e186 j u v]
    exact ⟨by unfold isYd; omega, by omega, by omega⟩
  · have := p2 j u v
    rw [show (12 : Int) + 1 = 13 from rfl, e13]
    have h2 := this
    unfold isPy at h2
    exact ⟨py_yd this, by omega, by omega⟩
  · rw [show (185 : Int) + 1 = 186 from rfl, e186 i u v, e186 j w x]
    omega
  · rw [show (12 : Int) + 1 = 13 from rfl, e13]
    obtain ⟨g1, g2⟩ := p4 j u v
    have h2 := p2 j u (by have := hok.2.1; omega)
    unfold isPy at h2
    exact ⟨yR_fr g1 (b1 _ _ (by omega)) (fun o i s t => b1 _ _ (by omega)), (b1 _ _ (by omega)).trans g2⟩
  · have fs : ∀ o i, ¬ (o = 1 ∧ (i = 5 ∨ i = 7 ∨ i = 8)) → (aUp (aUp (aUp m2 1 5 (m2 1 6)) 1 7 (-1)) 1 8 0) o i = m2 o i := fun o i z => by rw [aUp_nn (by omega), aUp_nn (by omega), aUp_nn (by omega)]
    refine hQ _ (fun o i z1 z2 z3 z4 => ?_) ?_ ?_ (fun j u v => ?_) ?_ ?_ aUp_re
    · rw [fs o i z4, c1 o i z2 (by omega) (by omega)]
      exact b1 o i (by omega)
    · exact yR_fr b3 (by rw [fs _ _ (by omega)]; exact c1 _ _ (by omega) (by omega) (by omega)) (fun o i s t => by rw [fs _ _ (by omega)]; exact c1 _ _ (by omega) (by omega) (by omega))
    · rw [fs _ _ (by omega)]; exact c2
    · obtain ⟨g1, g2⟩ := c3 j u v
      rw [show (185 : Int) + 1 = 186 from rfl, e186 j u (by have := hok.2.1; omega)] at g1
      exact ⟨yR_fr g1 (fs _ _ (by omega)) (fun o i s t => fs _ _ (by omega)), (fs _ _ (by omega)).trans g2⟩
    · rw [aUp_nn (by omega), aUp_nn (by omega), aUp_re, c1 _ _ (by omega) (by omega) (by omega)]
      exact b1 _ _ (by omega)
    · rw [aUp_nn (by omega), aUp_re]
/-- given up: all is as before -/
theorem s_giveUpO {E : EN} (hE : Ep E) {k : Nat} {mem : Mm} {Q : Mm → Prop} {r : Rw} {P P2 : PS} {i0 : Int} (ri : R32 i0) (hR : yR mem 175 r) (hP : pC mem P2) (hok : pOk P) (h186 : ∀ k, 0 ≤ k → k < 16 → mem 186 k = 188 + 10 * k) (e2 : mem 185 2 = P.1) (hr : ∀ k, 0 ≤ k → k < P.1 → yR mem (188 + 10 * k) (P.2.1 k) ∧ mem 187 k = P.2.2 k)
    (hQ : ∀ m2 : Mm, (∀ o i, ¬ (3 ≤ o ∧ o ≤ 11) → ¬ (o = 2 ∧ i = 10) → ¬ (o = 12 ∧ i = 2) → ¬ (14 ≤ o ∧ o ≤ 174) → ¬ (o = 1 ∧ (i = 6 ∨ i = 9)) → m2 o i = mem o i) → yR m2 2 r → pC m2 P → m2 1 6 = mem 1 5 → m2 1 9 = i0 → Q m2) : CV E mX8_giveUpOrders (k + 3) mem [aR 1, aI i0] Q := by
  obtain ⟨p1, p2, p3, p4⟩ := hP
  have y175 : isYd 175 := by unfold isYd; omega
  refine eX8_giveUpOrders (k := k + 2) ri (rX8_giveUpOrders_0 (k := k + 2) hE (s_ycopy (k := k + 1) hE isYd2 y175 (by decide) hR fun m1 b1 b2 b3 => ?_))
  have e13 : ∀ j, m1 13 j = mem 13 j := fun j => b1 _ _ (by omega)
  have e186 : ∀ j, 0 ≤ j → j < 16 → m1 186 j = 188 + 10 * j := fun j u v => (b1 _ _ (by omega)).trans (h186 j u v)
  have hd : ∀ i j, 0 ≤ i → i < 16 → 0 ≤ j → j < 16 → i ≠ j → mem 13 i + 9 < mem 13 j ∨ mem 13 j + 9 < mem 13 i := fun i j u v w x z => py_py (p2 i u v) (p2 j w x) fun q => z (p3 i j u v w x q)
  refine s_pcopy (k := k) (a := 15) (b := 174) (P := P) hE (Or.inl rfl) (by unfold isPt; omega) hok.1 hok.2.1 (by omega) (by omega) (by omega) (fun j u v => ?_) (fun j u v => ?_) (fun i j u v w x z => ?_) ((b1 _ _ (by omega)).trans e2) (fun j u v => ?_) (fun m2 c1 c2 c3 => ?_)
  · have := p2 j u v
    rw [show (12 : Int) + 1 = 13 from rfl, e13]
    have h2 := this
    unfold isPy at h2
    exact ⟨py_yd this, by omega, by omega⟩
  · rw [show (185 : Int) + 1 = 186 from rfl, e186 j u v]
    exact ⟨by unfold isYd; omega, by omega, by omega⟩
  · rw [show (12 : Int) + 1 = 13 from rfl, e13, e13]
    exact hd i j u v w x z
  · rw [show (185 : Int) + 1 = 186 from rfl, e186 j u (by have := hok.2.1; omega)]
    obtain ⟨g1, g2⟩ := hr j u v
    exact ⟨yR_fr g1 (b1 _ _ (by omega)) (fun o i s t => b1 _ _ (by omega)), (b1 _ _ (by omega)).trans g2⟩
  · have fs : ∀ o i, ¬ (o = 1 ∧ (i = 6 ∨ i = 9)) → (aUp (aUp m2 1 6 (m2 1 5)) 1 9 i0) o i = m2 o i := fun o i z => by rw [aUp_nn (by omega), aUp_nn (by omega)]
    have f13 : ∀ j, (aUp (aUp m2 1 6 (m2 1 5)) 1 9 i0) 13 j = mem 13 j := fun j => by rw [fs _ _ (by omega), c1 _ _ (by omega) (by omega) (by omega)]; exact e13 j
    refine hQ _ (fun o i z1 z2 z3 z4 z5 => ?_) ?_ ⟨?_, fun j u v => by rw [f13]; exact p2 j u v, fun i j u v w x z => by rw [f13, f13] at z; exact p3 i j u v w x z, fun j u v => ?_⟩ ?_ aUp_re
    · rw [fs o i z5, c1 o i z3 (by omega) (by omega)]
      by_cases q : o = 2
      · subst q; exact b2 i (by omega)
      · exact b1 o i (by omega)
    · exact yR_fr b3 (by rw [fs _ _ (by omega)]; exact c1 _ _ (by omega) (by omega) (by omega)) (fun o i s t => by rw [fs _ _ (by omega)]; exact c1 _ _ (by omega) (by omega) (by omega))
    · rw [fs _ _ (by omega)]; exact c2
    · obtain ⟨g1, g2⟩ := c3 j u v
      have hj := p2 j u (by have := hok.2.1; omega)
      unfold isPy at hj
      rw [show (12 : Int) + 1 = 13 from rfl, e13] at g1
      rw [f13]
      exact ⟨yR_fr g1 (fs _ _ (by omega)) (fun o i s t => fs _ _ (by omega)), (fs _ _ (by omega)).trans g2⟩
    · rw [aUp_nn (by omega), aUp_re, c1 _ _ (by omega) (by omega) (by omega)]
      exact b1 _ _ (by omega)
