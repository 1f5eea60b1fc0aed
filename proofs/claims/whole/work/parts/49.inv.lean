-- THE INVARIANT's rest, jC, and what it does not speak of
def scr (o i : Int) : Prop := isTx (o - 8) ∨ o = 11 ∨ (o = 2 ∧ (i = 11 ∨ i = 12)) ∨ (552 ≤ o ∧ o ≤ 579) ∨ (o = 580 ∧ i = 1) ∨ o = 590 ∨ (o = 581 ∧ (i = 9 ∨ i = 11 ∨ i = 12)) ∨ (o = 1 ∧ (i = 5 ∨ i = 7 ∨ i = 8)) ∨ (175 ≤ o ∧ o ≤ 184) ∨ (188 ≤ o ∧ o ≤ 348) ∨ (o = 185 ∧ i = 2) ∨ o = 187 ∨ (o = 591 ∧ i ≠ 2) ∨ (593 ≤ o ∧ o ≤ 601)
  ∨ (o = 603 ∧ i ≠ 1 ∧ i ≠ 8 ∧ i ≠ 11 ∧ i ≠ 13 ∧ i ≠ 18 ∧ i ≠ 20 ∧ i ≠ 43 ∧ i ≠ 56 ∧ i ≠ 60) ∨ (o = 608 ∧ 1232 ≤ i) ∨ o = 610 ∨ o = 611 ∨ (613 ≤ o ∧ o ≤ 617) ∨ (621 ≤ o ∧ o ≤ 632) ∨ o = 634
/-- alike on all that the invariant speaks of -/
def rEq (m m2 : Mm) : Prop := ∀ o i, ¬ scr o i → m2 o i = m o i
/-- the same, the refusals aside -/
def rEk (m m2 : Mm) : Prop := ∀ o i, ¬ scr o i → isK o i → m2 o i = m o i
theorem rEq_k {m m2 : Mm} (h : rEq m m2) : rEk m m2 := fun o i a _ => h o i a
theorem rEq_rf {m : Mm} : rEq m m := fun _ _ _ => rfl
theorem rEq_tr {m m2 m3 : Mm} (h : rEq m m2) (h2 : rEq m2 m3) : rEq m m3 := fun o i a => (h2 o i a).trans (h o i a)
def fR (m : Mm) (f : Int) (r : Rw) : Prop := m f 0 = r 0 ∧ 0 ≤ r 0 ∧ r 0 ≤ 8 ∧ ∀ i, 0 ≤ i → i < 8 → m (f + 1) i = r (144 + 3 * i) ∧ m (f + 2) i = r (145 + 3 * i) ∧ m (f + 3) i = r (146 + 3 * i) ∧ 0 ≤ r (144 + 3 * i) ∧ r (144 + 3 * i) ≤ 9 ∧ 0 ≤ r (145 + 3 * i) ∧ r (145 + 3 * i) < 32 ∧ 0 ≤ r (146 + 3 * i) ∧ r (146 + 3 * i) ≤ 1
def lR (m : Mm) (l : Int) (r : Rw) : Prop := m l 1 = r 1 ∧ 0 ≤ r 1 ∧ r 1 ≤ 6 ∧ m l 2 = r 2 ∧ -1 ≤ r 2 ∧ r 2 < r 1 ∧ ∀ i, 0 ≤ i → i < r 1 → ∃ D, TxS m (l + 2 + 9 * i) 10 D ∧ slotS r (170 + 900 * i) D
def fullR (m : Mm) (y f l : Int) (r : Rw) : Prop := rOk 999 r ∧ yR m y r ∧ fR m f r ∧ lR m l r
def isPy (y : Int) : Prop := 15 ≤ y ∧ y ≤ 165 ∧ y % 10 = 5
/-- the row as undo to k would leave it -/
def snR (m : Mm) (k : Int) : Rw := fun i => if 3 ≤ i ∧ i < 80 then m 608 (77 * k + (i - 3)) else m 605 i
def imR (m : Mm) (k : Int) : Rw := fun i => m 606 (5570 * k + i)
def iPast (m : Mm) : Prop := m 12 2 = m 603 8 ∧ 0 ≤ m 603 8 ∧ m 603 8 ≤ 16 ∧ (∀ k, 0 ≤ k → k < 16 → isPy (m 13 k) ∧ m 186 k = 188 + 10 * k) ∧ (∀ j k, 0 ≤ j → j < 16 → 0 ≤ k → k < 16 → m 13 j = m 13 k → j = k) ∧ ∀ k, 0 ≤ k → k < m 603 8 → yR m (m 13 k) (snR m k) ∧ rOk 999 (snR m k) ∧ m 14 k = m 609 k ∧ 0 ≤ m 609 k ∧ m 609 k ≤ 3
def iImg (m : Mm) (k : Int) : Prop := m (410 + 71 * k) 3 = m 607 k ∧ (m 607 k = 0 ∨ m 607 k = 1) ∧ (m 607 k = 1 → fullR m (411 + 71 * k) (421 + 71 * k) (425 + 71 * k) (imR m k))
def iDr (m : Mm) : Prop := (m 603 60 = -1 ∧ m 581 10 = 0) ∨ (0 ≤ m 603 60 ∧ m 603 60 ≤ 10 ∧ m 581 10 = m 603 60 ∧ ∀ p, 0 ≤ p → p < m 603 60 → m 585 p = m 635 (3 * p) ∧ m 586 p = m 635 (3 * p + 1) ∧ m 588 p = m 635 (3 * p + 2))
def iKs (m : Mm) : Prop := (m 618 0 = 537076 ∧ m 618 1 = 103820 ∧ m 618 2 = 370116 ∧ m 618 3 = 17376357 ∧ m 618 4 = 83533076 ∧ m 618 5 = 202810777 ∧ m 618 6 = 20350348 ∧ m 618 7 = 26379859 ∧ m 618 8 = 824370 ∧ m 618 9 = 441828) ∧ (m 619 0 = 824370 ∧ m 619 1 = 17186451 ∧ m 619 2 = 146885 ∧ m 619 3 = 14145700 ∧ m 619 4 = 52 ∧ m 619 5 = 370116 ∧ m 619 6 = 83533076) ∧ (m 620 0 = 14145715 ∧ m 620 1 = 140531 ∧ m 620 2 = 244915 ∧ m 620 3 = 67155) ∧ (m 633 0 = 87641 ∧ m 633 1 = 2745 ∧ m 633 2 = 18916965 ∧ m 633 3 = 525939)
/-- the law in force, as the yard has it -/
def iLw (m : Mm) : Prop := m 2 9 = if m 605 2 = -1 then -1 else 355 + 9 * m 605 2
def iSm (m : Mm) : Prop := m 0 11 = m 603 11 ∧ m 0 12 = m 603 18 ∧ m 1 9 = m 603 56 ∧ m 1 6 = m 603 43 ∧ m 603 20 = 0 ∧ 0 ≤ m 0 11 ∧ m 0 11 ≤ 200 ∧ 0 ≤ m 1 6 ∧ m 1 6 ≤ 10
def jC (m : Mm) : Prop := iTp m ∧ iSm m ∧ fullR m 2 349 353 (m 605) ∧ iLw m ∧ iPast m ∧ iImg m 0 ∧ iImg m 1 ∧ iDr m ∧ iKs m
theorem nscr_yd {y o i : Int} (hy : y = 2 ∨ isPy y ∨ y = 411 ∨ y = 482) (h1 : y ≤ o) (h2 : o ≤ y + 8) (h3 : o = y → i ≠ 11 ∧ i ≠ 12) : ¬ scr o i ∧ isK o i := by
  unfold isPy at hy
  unfold scr isTx isK
  omega
theorem rEk_yR {m m2 : Mm} (h : rEk m m2) {y : Int} {r : Rw} (hy : y = 2 ∨ isPy y ∨ y = 411 ∨ y = 482) (hR : yR m y r) : yR m2 y r := by
  refine yR_fr hR ?_ fun o i a b => ?_
  · obtain ⟨u, v⟩ := nscr_yd (o := y) (i := 10) hy (by omega) (by omega) (by omega)
    exact h _ _ u v
  · obtain ⟨u, v⟩ := nscr_yd (o := o) (i := i) hy (by omega) (by omega) (by omega)
    exact h _ _ u v
theorem nscr_tx {l t o i : Int} (hl : l = 353 ∨ l = 425 ∨ l = 496) (ht : 0 ≤ t ∧ t < 6) (h1 : l + 2 + 9 * t ≤ o) (h2 : o ≤ l + 2 + 9 * t + 7) : ¬ scr o i ∧ isK o i := by
  unfold scr isTx isK
  omega
theorem nscr_big {o i : Int} (ho : o = 605 ∨ o = 606 ∨ o = 607 ∨ o = 609 ∨ o = 12 ∨ o = 13 ∨ o = 14 ∨ (348 < o ∧ o < 355) ∨ (409 ≤ o ∧ o < 411) ∨ (421 ≤ o ∧ o < 427) ∨ o = 481 ∨ (492 ≤ o ∧ o < 498) ∨ o = 0 ∧ i ≠ 13 ∨ o = 612 ∨ (618 ≤ o ∧ o ≤ 620) ∨ o = 633 ∨ o = 635 ∨ o = 186 ∨ o = 592 ∨ o = 585 ∨ o = 586 ∨ o = 588) : ¬ scr o i ∧ isK o i := by
  unfold scr isTx isK
  omega
theorem rEk_big {m m2 : Mm} (h : rEk m m2) {o i : Int} (ho : o = 605 ∨ o = 606 ∨ o = 607 ∨ o = 609 ∨ o = 12 ∨ o = 13 ∨ o = 14 ∨ (348 < o ∧ o < 355) ∨ (409 ≤ o ∧ o < 411) ∨ (421 ≤ o ∧ o < 427) ∨ o = 481 ∨ (492 ≤ o ∧ o < 498) ∨ o = 0 ∧ i ≠ 13 ∨ o = 612 ∨ (618 ≤ o ∧ o ≤ 620) ∨ o = 633 ∨ o = 635 ∨ o = 186 ∨ o = 592 ∨ o = 585 ∨ o = 586 ∨ o = 588) : m2 o i = m o i := by
  obtain ⟨u, v⟩ := nscr_big (i := i) ho
  exact h _ _ u v
theorem rEk_sm {m m2 : Mm} (h : rEk m m2) {o i : Int} (ho : (o = 1 ∧ (i = 6 ∨ i = 9)) ∨ (o = 603 ∧ (i = 8 ∨ i = 11 ∨ i = 13 ∨ i = 18 ∨ i = 20 ∨ i = 43 ∨ i = 56 ∨ i = 60)) ∨ (o = 591 ∧ i = 2) ∨ (o = 581 ∧ i = 10) ∨ (o = 608 ∧ i < 1232) ∨ (o = 2 ∧ i = 9)) : m2 o i = m o i := by
  refine h _ _ ?_ ?_
  · unfold scr isTx
    omega
  · unfold isK
    omega
theorem rEk_605 {m m2 : Mm} (h : rEk m m2) : m2 605 = m 605 := funext fun i => rEk_big h (Or.inl rfl)
theorem rEk_sn {m m2 : Mm} (h : rEk m m2) {k : Int} (hk : k < 16) : snR m2 k = snR m k := by
  funext i
  unfold snR
  rw [rEk_605 h]
  by_cases c : 3 ≤ i ∧ i < 80
  · rw [if_pos c, if_pos c]
    exact rEk_sm h (by omega)
  · rw [if_neg c, if_neg c]
theorem rEk_full {m m2 : Mm} (h : rEk m m2) {y f l : Int} {r : Rw} (hq : (y = 2 ∧ f = 349 ∧ l = 353) ∨ (y = 411 ∧ f = 421 ∧ l = 425) ∨ (y = 482 ∧ f = 492 ∧ l = 496)) (hR : fullR m y f l r) : fullR m2 y f l r := by
  obtain ⟨h1, h2, ⟨f1, f2, f3, f4⟩, l1, l2, l3, l4, l5, l6, l7⟩ := hR
  refine ⟨h1, rEk_yR h (by omega) h2, ⟨(rEk_big h (by omega)).trans f1, f2, f3, fun i a b => ?_⟩, (rEk_big h (by omega)).trans l1, l2, l3, (rEk_big h (by omega)).trans l4, l5, l6, fun i a b => ?_⟩
  · obtain ⟨g1, g2, g3, g4⟩ := f4 i a b
    exact ⟨(rEk_big h (by omega)).trans g1, (rEk_big h (by omega)).trans g2, (rEk_big h (by omega)).trans g3, g4⟩
  · obtain ⟨D, d1, d2⟩ := l7 i a b
    refine ⟨D, TxS_fr (fun o j u v => ?_) d1, d2⟩
    obtain ⟨w1, w2⟩ := nscr_tx (l := l) (t := i) (o := o) (i := j) (by omega) (by omega) (by omega) (by omega)
    exact h _ _ w1 w2
theorem jC_fr {m m2 : Mm} (h : rEk m m2) (hC : jC m) : jC m2 := by
  obtain ⟨⟨t1, t2, t3, t4⟩, ⟨s1, s2, s3, s4, s5, s6⟩, hf, hl, ⟨p1, p2, p3, p4, p5, p6⟩, i0, i1, hd, ⟨⟨k0, k1, k2, k3, k4, k5, k6, k7, k8, k9⟩, ⟨o0, o1, o2, o3, o4, o5, o6⟩, ⟨v0, v1, v2, v3⟩, w0, w1, w2, w3⟩⟩ := hC
  have e605 := rEk_605 h
  have e6038 : m2 603 8 = m 603 8 := rEk_sm h (by omega)
  have e13 : ∀ k, m2 13 k = m 13 k := fun k => rEk_big h (by omega)
  have img : ∀ k, k = 0 ∨ k = 1 → iImg m k → iImg m2 k := by
    intro k hk q
    unfold iImg at q ⊢
    rw [rEk_big h (o := 410 + 71 * k) (by omega), rEk_big h (o := 607) (by omega)]
    have e : imR m2 k = imR m k := funext fun i => rEk_big h (by omega)
    rw [e]
    exact ⟨q.1, q.2.1, fun u => rEk_full h (by omega) (q.2.2 u)⟩
  refine ⟨?_, ?_, ?_, ?_, ?_, img 0 (Or.inl rfl) i0, img 1 (Or.inr rfl) i1, ?_, ?_⟩
  · unfold iTp
    rw [rEk_sm h (o := 591) (i := 2) (by omega), rEk_sm h (o := 603) (i := 13) (by omega)]
    exact ⟨t1, t2, t3, fun i a b => by rw [rEk_big h (by omega), rEk_big h (by omega)]; exact t4 i a b⟩
  · unfold iSm
    rw [rEk_big h (o := 0) (i := 11) (by omega), rEk_big h (o := 0) (i := 12) (by omega), rEk_sm h (o := 1) (i := 9) (by omega), rEk_sm h (o := 1) (i := 6) (by omega), rEk_sm h (o := 603) (i := 11) (by omega), rEk_sm h (o := 603) (i := 18) (by omega), rEk_sm h (o := 603) (i := 56) (by omega), rEk_sm h (o := 603) (i := 43) (by omega), rEk_sm h (o := 603) (i := 20) (by omega)]
    exact ⟨s1, s2, s3, s4, s5, s6⟩
  · rw [e605]
    exact rEk_full h (by omega) hf
  · unfold iLw
    rw [e605, rEk_sm h (o := 2) (i := 9) (by omega)]
    exact hl
  · unfold iPast
    rw [e6038, rEk_big h (o := 12) (by omega)]
    refine ⟨p1, p2, p3, fun k a b => ?_, fun j k a b c d e => ?_, fun k a b => ?_⟩
    · rw [e13, rEk_big h (o := 186) (by omega)]; exact p4 k a b
    · rw [e13, e13] at e; exact p5 j k a b c d e
    · rw [e13, rEk_sn h (by omega), rEk_big h (o := 14) (by omega), rEk_big h (o := 609) (by omega)]
      obtain ⟨q1, q2⟩ := p6 k a b
      exact ⟨rEk_yR h (Or.inr (Or.inl (p4 k a (by omega)).1)) q1, q2⟩
  · unfold iDr
    rw [rEk_sm h (o := 603) (i := 60) (by omega), rEk_sm h (o := 581) (i := 10) (by omega)]
    rcases hd with q | ⟨q1, q2, q3, q4⟩
    · exact Or.inl q
    · refine Or.inr ⟨q1, q2, q3, fun p a b => ?_⟩
      rw [rEk_big h (o := 585) (by omega), rEk_big h (o := 586) (by omega), rEk_big h (o := 588) (by omega), rEk_big h (o := 635) (by omega), rEk_big h (o := 635) (by omega), rEk_big h (o := 635) (by omega)]
      exact q4 p a b
  · unfold iKs
    have g : ∀ o i, (618 ≤ o ∧ o ≤ 620) ∨ o = 633 → m2 o i = m o i := fun o i q => rEk_big h (by omega)
    simp only [g 618 _ (Or.inl (by decide)), g 619 _ (Or.inl (by decide)), g 620 _ (Or.inl (by decide)), g 633 _ (Or.inr rfl)]
    exact ⟨⟨k0, k1, k2, k3, k4, k5, k6, k7, k8, k9⟩, ⟨o0, o1, o2, o3, o4, o5, o6⟩, ⟨v0, v1, v2, v3⟩, w0, w1, w2, w3⟩
theorem jC_iFr : iFr jC := fun m m2 h hC => jC_fr (fun o i _ k => h o i k) hC
theorem rEq_rf2 {n : Nat} {m m2 : Mm} (h : rEq m m2) (hR : iRf n m) : iRf n m2 := by
  have g : ∀ o i, o = 602 ∨ o = 604 ∨ (o = 0 ∧ i = 13) ∨ (o = 603 ∧ i = 1) → m2 o i = m o i := fun o i q => h o i (by unfold scr isTx; omega)
  refine ⟨by rw [g 0 13 (by omega), g 603 1 (by omega)]; exact hR.1, fun j a b => ?_⟩
  rw [g 602 j (by omega), g 604 j (by omega)]
  exact hR.2 j a b
theorem iAll_rEq {n : Nat} {m m2 : Mm} (h : rEq m m2) (hI : iAll jC n m) : iAll jC n m2 := ⟨rEq_rf2 h hI.1, jC_fr (rEq_k h) hI.2⟩
theorem rEq_thr {m : Mm} : rEq m (aUp m 603 0 0) := fun o i a => if_neg fun q => a (by unfold scr; omega)
/-- A CALL THAT ONLY ASKS: each side answers v and leaves all but scratch alone -/
theorem obs_pair {E : EN} {mc mm : MI} {n : Nat} (h : ∀ (mem : Mm) (av : List Int), av.length = n → (∀ x ∈ av, R32 x) → jC mem → ∃ v : Int, (∀ Q : Int → Mm → Prop, (∀ m1, rEq mem m1 → Q v m1) → CI E mc 1199 mem (aR 0 :: av.map aI) Q) ∧ ∀ (m1 : Mm) (Q : Int → Mm → Prop), rEq mem m1 → jC m1 → (∀ m2, rEq m1 m2 → Q v m2) → CI E mm 1199 m1 (aR 603 :: av.map aI) Q) : stI E 1199 (iAll jC) mc mm n := by
  intro t mem av ht hl hr hI
  obtain ⟨v, h1, h2⟩ := h mem av hl hr hI.2
  exact h1 _ fun m1 q1 => h2 m1 _ q1 (iAll_rEq q1 hI).2 fun m2 q2 => ⟨rfl, iAll_up (iAll_rEq q2 (iAll_rEq q1 hI))⟩
theorem obs_pairL {E : EN} {mc mm : MI} {n : Nat} (h : ∀ (mem : Mm) (av : List Int), av.length = n → (∀ x ∈ av, R32 x) → jC mem → ∃ v : Int, (∀ Q : Int → Mm → Prop, (∀ m1, rEq mem m1 → Q v m1) → CL E mc 1199 mem (aR 0 :: av.map aI) Q) ∧ ∀ (m1 : Mm) (Q : Int → Mm → Prop), rEq mem m1 → jC m1 → (∀ m2, rEq m1 m2 → Q v m2) → CL E mm 1199 m1 (aR 603 :: av.map aI) Q) : stL E 1199 (iAll jC) mc mm n := by
  intro t mem av ht hl hr hI
  obtain ⟨v, h1, h2⟩ := h mem av hl hr hI.2
  exact h1 _ fun m1 q1 => h2 m1 _ q1 (iAll_rEq q1 hI).2 fun m2 q2 => ⟨rfl, iAll_up (iAll_rEq q2 (iAll_rEq q1 hI))⟩
theorem rEq_605 {m m2 : Mm} (h : rEq m m2) : m2 605 = m 605 := rEk_605 (rEq_k h)
/-- what the invariant says of the yard that stands, and of its law -/
theorem jC_law {m : Mm} (hC : jC m) : ∃ L, yL m 2 L ∧ mL m L := by
  obtain ⟨-, -, ⟨-, -, -, l1, l2, l3, l4, l5, l6, l7⟩, hl, -⟩ := hC
  unfold iLw at hl
  by_cases c : m 605 2 = -1
  · rw [if_pos c] at hl
    exact ⟨noLW, Or.inl ⟨by omega, rfl⟩, Or.inl ⟨c, rfl⟩⟩
  · rw [if_neg c] at hl
    obtain ⟨D, d1, d2⟩ := l7 (m 605 2) (by omega) l6
    refine ⟨lsOf D, Or.inr ⟨by rw [hl]; unfold isTx; omega, D, by rw [hl]; exact d1, rfl⟩, Or.inr ⟨by omega, by omega, D, d2, rfl⟩⟩
theorem qFr2_rEq {m m2 : Mm} (h : qFr 2 m m2) : rEq m m2 := fun o i a => h o i (fun q => a (by unfold scr; omega)) fun q => a (Or.inl q)
theorem gFr_rEq {m m2 : Mm} (h : gFr m m2) : rEq m m2 := fun o i a => h o i (fun q => a (by unfold scr; omega)) (fun q => a (by unfold scr; omega)) fun q => a (by unfold scr; omega)
theorem isYd2 : isYd 2 := Or.inl rfl
