-- image and back
theorem jC_im {m m2 : Mm} {p : Int} (hp : p = 0 ∨ p = 1) (hC : jC m) (hF : ∀ o i, ¬ scr o i → isK o i → ¬ (410 + 71 * p ≤ o ∧ o < 481 + 71 * p) → o ≠ 606 → ¬ (o = 607 ∧ i = p) → m2 o i = m o i) (h6 : ∀ i, ¬ (5570 * p ≤ i ∧ i < 5570 * p + 5570) → m2 606 i = m 606 i) (hI : iImg m2 p) : jC m2 := by
  obtain ⟨hT, hS, hfull, hlw, hP, i0, i1, hd, hk⟩ := hC
  have big : ∀ o i, (o = 605 ∨ (o = 607 ∧ i ≠ p) ∨ (348 < o ∧ o < 355) ∨ (618 ≤ o ∧ o ≤ 620) ∨ o = 633 ∨ o = 635 ∨ o = 186 ∨ o = 585 ∨ o = 586 ∨ o = 588) → m2 o i = m o i := by
    intro o i h
    obtain ⟨u, v⟩ : ¬ scr o i ∧ isK o i := by unfold scr isK isTx; omega
    exact hF o i u v (by omega) (by omega) (by omega)
  have e5 : m2 605 = m 605 := funext fun i => big 605 i (Or.inl rfl)
  have yd : ∀ y o i, (y = 2 ∨ isPy y) → y ≤ o → o ≤ y + 8 → (o = y → i = 10) → m2 o i = m o i := fun y o i hy a b c => by
    obtain ⟨w1, w2⟩ := nscr_yd (y := y) (o := o) (i := i) (hy.elim Or.inl fun q => Or.inr (Or.inl q)) a b (by omega)
    refine hF _ _ w1 w2 ?_ ?_ ?_ <;> (unfold isPy at hy; omega)
  have k3 : ∀ i, i = 8 ∨ i = 11 ∨ i = 13 ∨ i = 18 ∨ i = 20 ∨ i = 43 ∨ i = 56 ∨ i = 60 → m2 603 i = m 603 i := fun i q => hF 603 i (by unfold scr isTx; omega) (by unfold isK; omega) (by omega) (by decide) (by omega)
  have tx : ∀ l i o j, (l = 353 ∨ l = 425 ∨ l = 496) → ¬ (410 + 71 * p ≤ l ∧ l < 481 + 71 * p) → 0 ≤ i → i < 6 → l + 2 + 9 * i ≤ o → o ≤ l + 2 + 9 * i + 7 → m2 o j = m o j := fun l i o j hl hn h0 h1 u v => by
    obtain ⟨w1, w2⟩ := nscr_tx (l := l) (t := i) (o := o) (i := j) hl ⟨h0, h1⟩ u v
    exact hF o j w1 w2 (by omega) (by omega) (by omega)
  have img : ∀ k, k = 0 ∨ k = 1 → k ≠ p → iImg m k → iImg m2 k := by
    intro k hk hne ⟨q1, q2, q3⟩
    have e7 : m2 607 k = m 607 k := big 607 k (by omega)
    have e3 : m2 (410 + 71 * k) 3 = m (410 + 71 * k) 3 := hF _ _ (by unfold scr isTx; omega) (by unfold isK; omega) (by omega) (by omega) (by omega)
    refine ⟨by rw [e3, e7]; exact q1, by rw [e7]; exact q2, fun u => ?_⟩
    rw [e7] at u
    refine full_cg (r := imR m k) (fun i a b => h6 _ (by omega)) (full_fr (fun o i a b c => ?_) (fun o i a b => ?_) (fun o i a b c d => ?_) (by omega) (q3 u))
    · obtain ⟨w1, w2⟩ := nscr_yd (y := 411 + 71 * k) (o := o) (i := i) (by omega) a (by omega) (by omega)
      exact hF _ _ w1 w2 (by omega) (by omega) (by omega)
    · exact hF _ _ (by unfold scr isTx; omega) (by unfold isK; omega) (by omega) (by omega) (by omega)
    · refine hF _ _ (fun z => ?_) (by unfold isK; omega) (by omega) (by omega) (by omega)
      unfold scr at z
      rcases z with z | z
      · exact c z
      · omega
  have i0' : iImg m2 0 := by
    by_cases z : (0 : Int) = p
    · subst z; exact hI
    · exact img 0 (Or.inl rfl) z i0
  have i1' : iImg m2 1 := by
    by_cases z : (1 : Int) = p
    · subst z; exact hI
    · exact img 1 (Or.inr rfl) z i1
  refine ⟨?_, ?_, ?_, ?_, ?_, ?_, ?_, ?_, ?_⟩
  · exact iC_tp hT (hF _ _ (by unfold scr isTx; omega) (by unfold isK; omega) (by omega) (by decide) (by omega)) (k3 13 (by omega)) (fun i => hF _ _ (by unfold scr isTx; omega) (by unfold isK; omega) (by omega) (by decide) (by omega)) (fun i => hF _ _ (by unfold scr isTx; omega) (by unfold isK; omega) (by omega) (by decide) (by omega))
  · exact iC_sm hS (fun i q => hF _ _ (by unfold scr isTx; omega) (by unfold isK; omega) (by omega) (by decide) (by omega)) (fun i q => hF _ _ (by unfold scr isTx; omega) (by unfold isK; omega) (by omega) (by decide) (by omega)) fun i q => k3 i (by omega)
  · rw [e5]
    exact ⟨hfull.1, yR_fr hfull.2.1 (yd 2 2 10 (Or.inl rfl) (by decide) (by decide) fun _ => rfl) (fun o i a b => yd 2 o i (Or.inl rfl) (by omega) b fun q => by omega), fR_fr (fun o i a b => big o i (by omega)) hfull.2.2.1, lR_row (big _ _ (by omega)) (big _ _ (by omega)) (fun _ _ => rfl) (fun i o j h0 h1 u v => tx 353 i o j (Or.inl rfl) (by omega) h0 h1 u v) hfull.2.2.2⟩
  · unfold iLw
    rw [e5, hF 2 9 (by unfold scr isTx; omega) (by unfold isK; omega) (by omega) (by decide) (by omega)]
    exact hlw
  · obtain ⟨p1, p2, p3, p4, p5, p6⟩ := hP
    have e13 : ∀ k, m2 13 k = m 13 k := fun k => hF _ _ (by unfold scr isTx; omega) (by unfold isK; omega) (by omega) (by decide) (by omega)
    have e8 : m2 603 8 = m 603 8 := k3 8 (by omega)
    have e68 : ∀ i, i < 1232 → m2 608 i = m 608 i := fun i q => hF _ _ (by unfold scr isTx; omega) (by unfold isK; omega) (by omega) (by decide) (by omega)
    refine ⟨by rw [e8, hF 12 2 (by unfold scr isTx; omega) (by unfold isK; omega) (by omega) (by decide) (by omega)]; exact p1, by rw [e8]; exact p2, by rw [e8]; exact p3, fun k a b => by rw [e13, big 186 k (by omega)]; exact p4 k a b, fun j k a b c d e => by rw [e13, e13] at e; exact p5 j k a b c d e, fun k a b => ?_⟩
    rw [e8] at b
    obtain ⟨q1, q2, q3, q4⟩ := p6 k a b
    have hy := (p4 k a (by omega)).1
    have hs : ∀ i, 3 ≤ i → i < 144 → snR m2 k i = snR m k i := fun i u v => by
      unfold snR
      by_cases y : 3 ≤ i ∧ i < 80
      · rw [if_pos y, if_pos y]; exact e68 _ (by omega)
      · rw [if_neg y, if_neg y, e5]
    rw [e13, hF 14 k (by unfold scr isTx; omega) (by unfold isK; omega) (by omega) (by decide) (by omega), hF 609 k (by unfold scr isTx; omega) (by unfold isK; omega) (by omega) (by decide) (by omega)]
    exact ⟨yR_cg hs (yR_fr q1 (yd _ _ 10 (Or.inr hy) (by omega) (by omega) fun _ => rfl) (fun o i u v => yd _ o i (Or.inr hy) (by omega) v fun q => by omega)), rOk_cg hs q2, q3, q4⟩
  · exact i0'
  · exact i1'
  · unfold iDr
    rw [k3 60 (by omega), hF 581 10 (by unfold scr isTx; omega) (by unfold isK; omega) (by omega) (by decide) (by omega)]
    rcases hd with q | ⟨q1, q2, q3, q4⟩
    · exact Or.inl q
    · refine Or.inr ⟨q1, q2, q3, fun p a b => ?_⟩
      rw [big 585 p (by omega), big 586 p (by omega), big 588 p (by omega), big 635 _ (by omega), big 635 _ (by omega), big 635 _ (by omega)]
      exact q4 p a b
  · unfold iKs at hk ⊢
    have e1 : ∀ i, m2 618 i = m 618 i := fun i => big 618 i (by omega)
    have e2 : ∀ i, m2 619 i = m 619 i := fun i => big 619 i (by omega)
    have e3 : ∀ i, m2 620 i = m 620 i := fun i => big 620 i (by omega)
    have e4 : ∀ i, m2 633 i = m 633 i := fun i => big 633 i (by omega)
    simp only [e1, e2, e3, e4]
    exact hk
