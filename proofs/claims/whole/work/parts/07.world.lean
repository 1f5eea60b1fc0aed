-- THIS world: YardYear and all that it makes at 0 .. 602, the model and its rows at 603 .. 635
def shYard : Sp := (10, 13) :: [(13, 32), (13, 32), (13, 32), (13, 10), (13, 10), (13, 10), (13, 10), (13, 4), (13, 10)]
def shPast : Sp := (6, 3) :: (18, 16) :: (13, 16) :: (List.range 16).flatMap fun _ => shYard
def shText : Sp := [(9, 10), (13, 12), (13, 12), (13, 12), (13, 12), (13, 12), (13, 400), (13, 400), (14, 40)]
def shLaws : Sp := (3, 3) :: (17, 6) :: (List.range 6).flatMap fun _ => shText
def shFinds : Sp := [(1, 4), (13, 8), (13, 8), (13, 8)]
def shImage : Sp := (2, 4) :: (shYard ++ (shFinds ++ shLaws))
def shSexton : Sp := (8, 10) :: (shYard ++ (shPast ++ (shYard ++ (shPast ++ [(13, 78)]))))
def shPaper : Sp := (5, 9) :: (shYard ++ (shYard ++ [(13, 8), (13, 32), (14, 41)]))
def shX : Sp := (11, 14) :: (shSexton ++ (shFinds ++ (shLaws ++ ((16, 2) :: (shImage ++ (shImage ++ (shPaper ++ ([(4, 5), (13, 10), (13, 10), (13, 10)] ++ ((0, 2) :: (shYard ++ ((7, 11) :: (13, 400) :: (shText ++ [(13, 7)]))))))))))))
def shM : Sp := [(12, 61), (13, 7), (13, 5570), (13, 11140), (15, 2), (13, 1386), (13, 16), (13, 1232), (13, 16), (13, 400), (13, 96), (13, 400), (13, 400), (13, 400), (13, 400), (14, 10), (14, 7), (14, 4), (14, 13), (14, 13), (14, 400), (13, 10), (13, 8), (14, 42), (13, 10), (13, 11), (13, 11), (13, 11), (15, 100), (13, 32), (14, 4), (13, 96), (13, 30)]
def SH : Sp := shX ++ shM
theorem SH_len : SH.length = 636 := by decide +kernel
def isYd (y : Int) : Prop := y = 2 ∨ (15 ≤ y ∧ y ≤ 165 ∧ y % 10 = 5) ∨ y = 175 ∨ (188 ≤ y ∧ y ≤ 338 ∧ y % 10 = 8) ∨ y = 411 ∨ y = 482 ∨ y = 553 ∨ y = 563 ∨ y = 581
def isTx (t : Int) : Prop := (355 ≤ t ∧ t ≤ 400 ∧ t % 9 = 4) ∨ (427 ≤ t ∧ t ≤ 472 ∧ t % 9 = 4) ∨ (498 ≤ t ∧ t ≤ 543 ∧ t % 9 = 3) ∨ t = 593
def isFd (f : Int) : Prop := f = 349 ∨ f = 421 ∨ f = 492
def isLw (l : Int) : Prop := l = 353 ∨ l = 425 ∨ l = 496
def isPt (p : Int) : Prop := p = 12 ∨ p = 185
def isIm (i : Int) : Prop := i = 410 ∨ i = 481
/-- what stands at a place of the world, by a table that the kernel reads -/
def atB (j k n : Nat) : Bool := SH[j]? == some (k, n)
theorem aSh_of {j k n : Nat} (h : SH[j]? = some (k, n)) {a : Int} (ha : a = (j : Int)) : aSh SH a k n := ⟨j, ha, h⟩
theorem yd_tab : ∀ j : Fin 636, (j.1 = 2 ∨ (15 ≤ j.1 ∧ j.1 ≤ 165 ∧ j.1 % 10 = 5) ∨ j.1 = 175 ∨ (188 ≤ j.1 ∧ j.1 ≤ 338 ∧ j.1 % 10 = 8) ∨ j.1 = 411 ∨ j.1 = 482 ∨ j.1 = 553 ∨ j.1 = 563 ∨ j.1 = 581) → ∀ i : Fin 10, SH[j.1 + i.1]? = shYard[i.1]? := by decide +kernel
theorem tx_tab : ∀ j : Fin 636, ((355 ≤ j.1 ∧ j.1 ≤ 400 ∧ j.1 % 9 = 4) ∨ (427 ≤ j.1 ∧ j.1 ≤ 472 ∧ j.1 % 9 = 4) ∨ (498 ≤ j.1 ∧ j.1 ≤ 543 ∧ j.1 % 9 = 3) ∨ j.1 = 593) → ∀ i : Fin 9, SH[j.1 + i.1]? = shText[i.1]? := by decide +kernel
theorem yd_at {y : Int} (h : isYd y) (i : Fin 10) {k n : Nat} (hk : shYard[i.1]? = some (k, n)) : aSh SH (y + (i.1 : Int)) k n := by
  obtain ⟨j, rfl⟩ : ∃ j : Nat, y = (j : Int) := ⟨y.toNat, by unfold isYd at h; omega⟩
  unfold isYd at h
  have hj : j < 636 := by omega
  have h1 := yd_tab ⟨j, hj⟩ (by dsimp only; omega) i
  exact ⟨j + i.1, by omega, h1.trans hk⟩
theorem tx_at {y : Int} (h : isTx y) (i : Fin 9) {k n : Nat} (hk : shText[i.1]? = some (k, n)) : aSh SH (y + (i.1 : Int)) k n := by
  obtain ⟨j, rfl⟩ : ∃ j : Nat, y = (j : Int) := ⟨y.toNat, by unfold isTx at h; omega⟩
  unfold isTx at h
  have hj : j < 636 := by omega
  have h1 := tx_tab ⟨j, hj⟩ (by dsimp only; omega) i
  exact ⟨j + i.1, by omega, h1.trans hk⟩
