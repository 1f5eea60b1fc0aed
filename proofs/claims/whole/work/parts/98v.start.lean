-- THE START, and all of it
theorem row_0 {m : Mm} (e : m 605 = fun j => if j = 5 then 2 else if j = 4 then 20 else if j = 2 then -1 else 0) : m 605 2 = -1 ∧ m 605 4 = 20 ∧ m 605 5 = 2 ∧ ∀ j, j ≠ 2 → j ≠ 4 → j ≠ 5 → m 605 j = 0 := by
  rw [e]
  exact ⟨rfl, rfl, rfl, fun j a b c => (if_neg c).trans ((if_neg b).trans (if_neg a))⟩
theorem rOk_0 {m : Mm} (e : m 605 = fun j => if j = 5 then 2 else if j = 4 then 20 else if j = 2 then -1 else 0) : rOk 999 (m 605) := by
  obtain ⟨e2, e4, e5, r⟩ := row_0 e
  have r3 := r 3 (by decide) (by decide) (by decide)
  have r6 := r 6 (by decide) (by decide) (by decide)
  have r7 := r 7 (by decide) (by decide) (by decide)
  refine ⟨by omega, by omega, fun p a b => ?_, fun c a b => ?_, by omega, by omega, by omega, by omega, by omega, by omega, by omega, by omega, fun p q a b => absurd b (by omega)⟩
  · have a1 := r (8 + p) (by omega) (by omega) (by omega)
    have a2 := r (18 + p) (by omega) (by omega) (by omega)
    have a3 := r (28 + p) (by omega) (by omega) (by omega)
    have a4 := r (38 + p) (by omega) (by omega) (by omega)
    omega
  · have a1 := r (80 + c) (by omega) (by omega) (by omega)
    have a2 := r (112 + c) (by omega) (by omega) (by omega)
    have a3 := r (48 + c) (by omega) (by omega) (by omega)
    omega
theorem yR_0 {m : Mm} {y : Int} (e : m 605 = fun j => if j = 5 then 2 else if j = 4 then 20 else if j = 2 then -1 else 0) (hY : okY m y) : yR m y (m 605) := by
  obtain ⟨e2, e4, e5, r⟩ := row_0 e
  obtain ⟨-, -, y10, -, -, yA, y8⟩ := hY
  have z : ∀ i, 1 ≤ i → i ≤ 9 → i ≠ 8 → ∀ j, m (y + i) j = 0 := yA
  refine ⟨y10.trans (r 7 (by decide) (by decide) (by decide)).symm, fun c a b => ⟨?_, ?_, ?_⟩, fun p a b => ⟨?_, ?_, ?_, ?_⟩, fun t a b => ?_⟩
  · rw [z 1 (by decide) (by decide) (by decide), r (80 + c) (by omega) (by omega) (by omega)]
  · rw [z 2 (by decide) (by decide) (by decide), r (112 + c) (by omega) (by omega) (by omega)]
  · rw [z 3 (by decide) (by decide) (by decide), r (48 + c) (by omega) (by omega) (by omega)]
  · rw [z 4 (by decide) (by decide) (by decide), r (8 + p) (by omega) (by omega) (by omega)]
  · rw [z 5 (by decide) (by decide) (by decide), r (18 + p) (by omega) (by omega) (by omega)]
  · rw [z 6 (by decide) (by decide) (by decide), r (28 + p) (by omega) (by omega) (by omega)]
  · rw [z 7 (by decide) (by decide) (by decide), r (38 + p) (by omega) (by omega) (by omega)]
  · rw [y8]
    have : t = 0 ∨ t = 1 ∨ t = 2 ∨ t = 3 := by omega
    rcases this with rfl | rfl | rfl | rfl
    · exact (r 3 (by decide) (by decide) (by decide)).symm
    · exact e4.symm
    · exact e5.symm
    · exact (r 6 (by decide) (by decide) (by decide)).symm
theorem start_jC {m : Mm} (h : okX m 0) (g : okM m 603) : iAll jC 0 m := by
  obtain ⟨-, -, -, -, -, -, -, -, -, -, -, x11, x12, x13, xS, xF, xL, -, -, xI, xJ, -, -, xD, xR, xA⟩ := h
  obtain ⟨-, -, -, -, -, x9, x5, xY, xP, -, xQ, -⟩ := xS
  obtain ⟨-, -, -, -, -, -, -, -, -, -, -, -, -, -, -, -, -, -, -, -, -, -, -, -, -, -, -, -, -, -, -, -, -, g1, g8, g11, g13, -, -, -, -, g18, -, g20, -, -, -, -, -, -, -, -, -, -, g43, -, -, g56, -, -, g60, gA1, -, gA4, -, -, -, -, -, -, -, -, -, -, -, -, -, -, -, -, -, -, -, -, -, -, -, -, k15_0, k15_1, k15_2, k15_3, k15_4, k15_5, k15_6, k15_7, k15_8, k15_9, k16_0, k16_1, k16_2, k16_3, k16_4, k16_5, k16_6, k17_0, k17_1, k17_2, k17_3, k30_0, k30_1, k30_2, k30_3, e605⟩ := g
  have Y2 : okY m 2 := xY
  have P12 : okPt m 12 := xP
  have P185 : okPt m 185 := xQ
  have F : okFd m 349 := xF
  have LL : okLw m 353 := xL
  have D : okDr m 580 := xD
  have R : okRd m 591 := xR
  have I0 : okIm m 410 := xI
  have I1 : okIm m 481 := xJ
  have A602 : okA m 602 := xA
  have A604 : okA m 604 := gA1
  have A607 : okA m 607 := gA4
  have e605 : m 605 = fun j => if j = 5 then 2 else if j = 4 then 20 else if j = 2 then -1 else 0 := e605
  have s19 : m 1 9 = -1 := x9
  have s16 : m 1 6 = 0 := x5 6 (by decide) (by decide)
  obtain ⟨e2, e4, e5, r⟩ := row_0 e605
  have r0 := r 0 (by decide) (by decide) (by decide)
  have r1 := r 1 (by decide) (by decide) (by decide)
  refine ⟨⟨x13.trans g1.symm, fun j a b => ⟨(A602 j).trans (A604 j).symm, by rw [A602 j]; exact Int.le_refl _, by rw [A602 j]; exact Int.le_refl _⟩⟩, ?_, ⟨x11.trans g11.symm, x12.trans g18.symm, s19.trans g56.symm, s16.trans g43.symm, g20, by rw [x11]; decide, by rw [x11]; decide, by rw [s16]; decide, by rw [s16]; decide⟩, ⟨rOk_0 e605, yR_0 e605 Y2, ?_, ?_⟩, ?_, ?_, ?_, ?_, Or.inl ⟨g60, ?_⟩, ⟨⟨k15_0, k15_1, k15_2, k15_3, k15_4, k15_5, k15_6, k15_7, k15_8, k15_9⟩, ⟨k16_0, k16_1, k16_2, k16_3, k16_4, k16_5, k16_6⟩, ⟨k17_0, k17_1, k17_2, k17_3⟩, k30_0, k30_1, k30_2, k30_3⟩⟩
  · have e : m 591 2 = 0 := R.2.2.2.1 2 (by decide) (by decide) (by decide)
    refine ⟨e.trans g13.symm, by rw [e]; decide, by rw [e]; decide, fun i a b => ?_⟩
    rw [e] at b
    omega
  · refine ⟨F.1.trans r0.symm, by omega, by omega, fun i a b => ?_⟩
    have z : ∀ i, 1 ≤ i → i ≤ 3 → ∀ j, m (349 + i) j = 0 := F.2.2
    have a1 := r (144 + 3 * i) (by omega) (by omega) (by omega)
    have a2 := r (145 + 3 * i) (by omega) (by omega) (by omega)
    have a3 := r (146 + 3 * i) (by omega) (by omega) (by omega)
    rw [z 1 (by decide) (by decide), z 2 (by decide) (by decide), z 3 (by decide) (by decide), a1, a2, a3]
    decide
  · exact ⟨LL.2.1.trans r1.symm, by omega, by omega, LL.2.2.1.trans e2.symm, by omega, by omega, fun i a b => absurd b (by omega)⟩
  · unfold iLw
    rw [if_pos e2]
    exact Y2.2.1
  · have h1 : ∀ k, 0 ≤ k → k < 16 → m 13 k = 15 + 10 * k := fun k a b => (P12.2.2.2.2 k a b).1
    have h2 : ∀ k, 0 ≤ k → k < 16 → m 186 k = 188 + 10 * k := fun k a b => (P185.2.2.2.2 k a b).1
    refine ⟨P12.2.2.1.trans g8.symm, by rw [g8]; decide, by rw [g8]; decide, fun k a b => ⟨?_, h2 k a b⟩, fun j k a b c d e => ?_, fun k a b => ?_⟩
    · rw [h1 k a b]; unfold isPy; omega
    · rw [h1 j a b, h1 k c d] at e; omega
    · rw [g8] at b; omega
  · exact ⟨I0.2.2.2.1.trans (A607 0).symm, Or.inl (A607 0), fun z => absurd ((A607 0).symm.trans z) (by decide)⟩
  · exact ⟨I1.2.2.2.1.trans (A607 1).symm, Or.inl (A607 1), fun z => absurd ((A607 1).symm.trans z) (by decide)⟩
  · exact D.2.2.2.2.1
