theorem app4_o {g : Int → Int → Int} {m : Mm} {ta o f t p : Int} : app4 g m ta o f t p o f = t + 1 + 1 + 1 + 1 := aUp_re
theorem put1_n {m : Mm} {ta o f t b c j : Int} (h1 : c ≠ ta) (h2 : c ≠ o) : put1 m ta o f t b c j = m c j := by unfold put1; rw [aUp_rn h2, aUp_rn h1]
theorem put1_f {m : Mm} {ta o f t b j : Int} (h1 : o ≠ ta) (h2 : j ≠ f) : put1 m ta o f t b o j = m o j := by unfold put1; rw [aUp_ri h2, aUp_rn h1]
theorem put1_t {m : Mm} {ta o f t b j : Int} (h1 : ta ≠ o) (h2 : j ≠ t) : put1 m ta o f t b ta j = m ta j := by unfold put1; rw [aUp_rn h1, aUp_ri h2]
theorem put1_e {m : Mm} {ta o f t b : Int} (h1 : ta ≠ o) : put1 m ta o f t b ta t = b := by unfold put1; rw [aUp_rn h1, aUp_re]
theorem app4_n {g : Int → Int → Int} {m : Mm} {ta o f t p c j : Int} (h1 : c ≠ ta) (h2 : c ≠ o) : app4 g m ta o f t p c j = m c j := by unfold app4; rw [put1_n h1 h2, put1_n h1 h2, put1_n h1 h2, put1_n h1 h2]
theorem app4_f {g : Int → Int → Int} {m : Mm} {ta o f t p j : Int} (h1 : o ≠ ta) (h2 : j ≠ f) : app4 g m ta o f t p o j = m o j := by unfold app4; rw [put1_f h1 h2, put1_f h1 h2, put1_f h1 h2, put1_f h1 h2]
/-- one cell more on both tapes -/
theorem put1_s {m1 m2 : Mm} {ta o f ta2 o2 f2 t b b2 : Int} (h1 : ta ≠ o) (h2 : ta2 ≠ o2) (hb : b = b2) (h : ∀ i, 0 ≤ i → i < t → m1 ta i = m2 ta2 i) : ∀ i, 0 ≤ i → i < t + 1 → put1 m1 ta o f t b ta i = put1 m2 ta2 o2 f2 t b2 ta2 i := by
  intro i h0 hi
  by_cases c : i = t
  · subst c
    rw [put1_e h1, put1_e h2, hb]
  · rw [put1_t h1 c, put1_t h2 c]
    exact h i h0 (by omega)
theorem b255 {i : Nat} (h : ¬ i < 8) : (255#32).getLsbD i = false := by
  by_cases c : i < 32
  · have hall : ∀ j : Fin 32, ¬ j.val < 8 → (255#32).getLsbD j.val = false := by decide
    exact hall ⟨i, c⟩ h
  · exact BitVec.getLsbD_of_ge _ _ (by omega)
theorem and_255 {x y : BitVec 32} (h : ∀ i, i < 8 → x.getLsbD i = y.getLsbD i) : x &&& 255#32 = y &&& 255#32 := by
  apply BitVec.eq_of_getLsbD_eq
  intro i hi
  rw [BitVec.getLsbD_and, BitVec.getLsbD_and]
  by_cases c : i < 8
  · rw [h i c]
  · rw [b255 c, Bool.and_false, Bool.and_false]
theorem by_eq {p s : Int} (hs : s = 24 ∨ s = 16 ∨ s = 8 ∨ s = 0) : byA p s = byM p s := by
  unfold byA byM xAnd xUshr xShr
  rw [Int32.ofInt_toInt, Int32.ofInt_toInt]
  congr 1
  apply Int32.toBitVec_inj.mp
  generalize Int32.ofInt p = a
  rcases hs with rfl | rfl | rfl | rfl
  · show (a.toBitVec >>> (24#32) &&& 255#32) = (a.toBitVec.sshiftRight 24 &&& 255#32)
    refine and_255 fun i hi => ?_
    rw [BitVec.getLsbD_sshiftRight]
    simp [hi, show i < 32 by omega, show i + 24 < 32 by omega, show 24 + i < 32 by omega, BitVec.getLsbD_ushiftRight]
  · show (a.toBitVec >>> (16#32) &&& 255#32) = (a.toBitVec.sshiftRight 16 &&& 255#32)
    refine and_255 fun i hi => ?_
    rw [BitVec.getLsbD_sshiftRight]
    simp [hi, show i < 32 by omega, show i + 16 < 32 by omega, show 16 + i < 32 by omega, BitVec.getLsbD_ushiftRight]
  · show (a.toBitVec >>> (8#32) &&& 255#32) = (a.toBitVec.sshiftRight 8 &&& 255#32)
    refine and_255 fun i hi => ?_
    rw [BitVec.getLsbD_sshiftRight]
    simp [hi, show i < 32 by omega, show i + 8 < 32 by omega, show 8 + i < 32 by omega, BitVec.getLsbD_ushiftRight]
  · show (a.toBitVec >>> (0#32) &&& 255#32) = (a.toBitVec.sshiftRight 0 &&& 255#32)
    refine and_255 fun i hi => ?_
    rw [BitVec.getLsbD_sshiftRight]
    simp [hi, show i < 32 by omega, BitVec.getLsbD_ushiftRight]
theorem app4_s {m1 m2 : Mm} {t p : Int} (hg : ∀ s, s = 24 ∨ s = 16 ∨ s = 8 ∨ s = 0 → byA p s = byM p s) (h : ∀ i, 0 ≤ i → i < t → m1 592 i = m2 612 i) : ∀ i, 0 ≤ i → i < t + 1 + 1 + 1 + 1 → app4 byA m1 592 591 2 t p 592 i = app4 byM m2 612 603 13 t p 612 i :=
  put1_s (by decide) (by decide) (hg _ (by decide)) (put1_s (by decide) (by decide) (hg _ (by decide)) (put1_s (by decide) (by decide) (hg _ (by decide)) (put1_s (by decide) (by decide) (hg _ (by decide)) h)))
theorem byA_b (p s : Int) : 0 ≤ byA p s ∧ byA p s ≤ 255 := by
  unfold byA xAnd
  generalize Int32.ofInt (xUshr p s) = x
  have hb : (x &&& Int32.ofInt 255).toBitVec = x.toBitVec &&& 255#32 := rfl
  have hle : (x.toBitVec &&& 255#32).toNat ≤ 255 := by
    rw [BitVec.toNat_and]
    exact Nat.and_le_right
  show 0 ≤ (x &&& Int32.ofInt 255).toBitVec.toInt ∧ (x &&& Int32.ofInt 255).toBitVec.toInt ≤ 255
  rw [hb, BitVec.toInt_eq_toNat_of_lt (by omega)]
  omega
theorem put1_b {m : Mm} {ta o f t b : Int} (h1 : ta ≠ o) (hb : 0 ≤ b ∧ b ≤ 255) (h : ∀ i, 0 ≤ i → i < t → 0 ≤ m ta i ∧ m ta i ≤ 255) : ∀ i, 0 ≤ i → i < t + 1 → 0 ≤ put1 m ta o f t b ta i ∧ put1 m ta o f t b ta i ≤ 255 := by
  intro i h0 hi
  by_cases c : i = t
  · subst c
    rw [put1_e h1]
    exact hb
  · rw [put1_t h1 c]
    exact h i h0 (by omega)
theorem app4_b {m : Mm} {t p : Int} (h : ∀ i, 0 ≤ i → i < t → 0 ≤ m 592 i ∧ m 592 i ≤ 255) : ∀ i, 0 ≤ i → i < t + 1 + 1 + 1 + 1 → 0 ≤ app4 byA m 592 591 2 t p 592 i ∧ app4 byA m 592 591 2 t p 592 i ≤ 255 :=
  put1_b (by decide) (byA_b _ _) (put1_b (by decide) (byA_b _ _) (put1_b (by decide) (byA_b _ _) (put1_b (by decide) (byA_b _ _) h)))
