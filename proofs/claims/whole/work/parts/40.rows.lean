-- PURE: the model's row as a function, a yard's acts on it; a law is what it tells: (head, words) to a number, and whether it has "goes"
abbrev Rw : Type := Int → Int
abbrev LW : Type := (Int → Rw → Int) × Bool
abbrev bRK : Int := -2147483648
def rUp (r : Rw) (j v : Int) : Rw := fun i => if i = j then v else r i
theorem rUp_e {r : Rw} {j v : Int} : rUp r j v j = v := if_pos rfl
theorem rUp_n {r : Rw} {j v i : Int} (h : i ≠ j) : rUp r j v i = r i := if_neg h
theorem aUp_rUp {m : Mm} {a j v : Int} : aUp m a j v a = rUp (m a) j v := aUp_row m a j v
theorem rUp_self {r : Rw} {j : Int} : rUp r j (r j) = r := by
  funext i
  unfold rUp
  split
  · rename_i h; rw [h]
  · rfl
def noLW : LW := (fun h _ => if h < 2 then bRK else 0, false)
/-- is a cell occupied -/
def rOc (r : Rw) (c : Int) : Bool := (List.range (r 7).toNat).any fun p : Nat => r (8 + (p : Int)) == c
theorem rOc_t {r : Rw} {c : Int} : rOc r c = true ↔ ∃ p : Int, 0 ≤ p ∧ p < r 7 ∧ r (8 + p) = c := by
  unfold rOc
  rw [List.any_eq_true]
  constructor
  · rintro ⟨p, hp, h⟩
    have := List.mem_range.mp hp
    exact ⟨p, by omega, by omega, by simpa using h⟩
  · rintro ⟨p, h0, h1, h⟩
    refine ⟨p.toNat, List.mem_range.mpr (by omega), ?_⟩
    rw [show ((p.toNat : Nat) : Int) = p by omega]
    simpa using h
theorem rOc_f {r : Rw} {c : Int} : rOc r c = false ↔ ∀ p : Int, 0 ≤ p → p < r 7 → ¬ r (8 + p) = c := by
  constructor
  · intro h p a b e
    have : rOc r c = true := rOc_t.mpr ⟨p, a, b, e⟩
    rw [h] at this
    cases this
  · intro h
    cases q : rOc r c with
    | false => rfl
    | true =>
      obtain ⟨p, a, b, e⟩ := rOc_t.mp q
      exact absurd e (h p a b)
/-- isPl in terms of rOc -/
theorem isPl_oc {f : Int → Int} {r : Rw} {n c x : Int} (hn : n = r 7) (hf : ∀ p, 0 ≤ p → p < n → f p = r (8 + p)) (h : isPl f n c x) : (x = -1 ∧ rOc r c = false) ∨ (0 ≤ x ∧ x < n ∧ rOc r c = true) := by
  rcases h with ⟨rfl, a⟩ | ⟨a, b, d⟩
  · exact Or.inl ⟨rfl, rOc_f.mpr fun p u v e => a p u (by omega) ((hf p u (by omega)).trans e)⟩
  · exact Or.inr ⟨a, b, rOc_t.mpr ⟨x, a, by omega, (hf x a b).symm.trans d⟩⟩
/-- the ten words of a law -/
def rWd (r : Rw) (p fam c : Int) : Rw := fun i =>
  if i = 0 then p else if i = 1 then c else if i = 2 then r (80 + c) else if i = 3 then r (112 + c) else if i = 4 then r (48 + c) else if i = 5 then fam
  else if i = 6 then (if p = -1 then -1 else r (28 + p)) else if i = 7 then (if p = -1 then 0 else r (38 + p)) else if i = 8 then r 3 else if i = 9 then r 6 else 0
def rMv (L : LW) (r : Rw) (p : Int) : Int := if L.1 0 (rWd r p (r (18 + p)) (r (8 + p))) = bRK then 1 else max 0 (min 9 (L.1 0 (rWd r p (r (18 + p)) (r (8 + p)))))
def rDg (L : LW) (r : Rw) (p : Int) : Int := if L.1 1 (rWd r p (r (18 + p)) (r (8 + p))) = bRK then (if r (28 + p) = 1 then 2 else 4) else max 1 (min 99 (L.1 1 (rWd r p (r (18 + p)) (r (8 + p)))))
def rGo (L : LW) (r : Rw) (p c : Int) : Bool := if L.2 then L.1 2 (rWd r p (r (18 + p)) c) == 1 else if r (80 + c) = 1 then r (48 + c) == 1 else !(r (80 + c) == 3)
def rBr (L : LW) (r : Rw) (fam c : Int) : Bool := L.1 3 (rWd r (-1) fam c) == 1
def rFr (r : Rw) (c : Int) : Bool := r (80 + c) == 0 && !rOc r c
def rLi (L : LW) (r : Rw) (fam c : Int) : Bool := rFr r c && !rBr L r fam c
/-- a walk of n cells: the row, how many cells moved, how many plots blocked -/
abbrev R3 : Type := Rw × Int × Int
def rWk (L : LW) (p : Int) : Nat → R3 → R3
  | 0, s => s
  | n + 1, s => if rOc s.1 ((s.1 (8 + p) + 1).tmod 32) || !rGo L s.1 p ((s.1 (8 + p) + 1).tmod 32) then (s.1, s.2.1, s.2.2 + 1)
      else rWk L p n (rUp s.1 (8 + p) ((s.1 (8 + p) + 1).tmod 32), s.2.1 + 1, s.2.2)
def rPs (L : LW) : Nat → Int → R3 → R3
  | 0, _, s => s
  | n + 1, p, s => rPs L n (p + 1) (rWk L p (rMv L s.1 p).toNat s)
/-- all a year older -/
def rAg (r : Rw) : Rw := fun i => if 38 ≤ i ∧ i < 38 + r 7 then min 999 (r i + 1) else if i = 3 then r 3 + 1 else r i
def rTn (L : LW) (r : Rw) : R3 := (rAg (rPs L (r 7).toNat 0 (r, 0, 0)).1, (rPs L (r 7).toNat 0 (r, 0, 0)).2)
def rYr (L : LW) : Nat → Rw → Rw
  | 0, r => r
  | n + 1, r => rYr L n (rTn L r).1
def rAd (r : Rw) (fam c sm : Int) : Rw := rUp (rUp (rUp (rUp (rUp r (8 + r 7) c) (18 + r 7) fam) (28 + r 7) sm) (38 + r 7) 0) 7 (r 7 + 1)
/-- what a row may hold; Y: the year at most -/
def rOk (Y : Int) (r : Rw) : Prop := 0 ≤ r 7 ∧ r 7 ≤ 10 ∧ (∀ p, 0 ≤ p → p < 10 → 0 ≤ r (8 + p) ∧ r (8 + p) < 32 ∧ 0 ≤ r (18 + p) ∧ r (18 + p) < 6 ∧ 0 ≤ r (28 + p) ∧ r (28 + p) ≤ 1 ∧ 0 ≤ r (38 + p) ∧ r (38 + p) ≤ 999) ∧
  (∀ c, 0 ≤ c → c < 32 → 0 ≤ r (80 + c) ∧ r (80 + c) ≤ 3 ∧ 0 ≤ r (112 + c) ∧ r (112 + c) ≤ 99 ∧ 0 ≤ r (48 + c) ∧ r (48 + c) ≤ 1) ∧ 0 ≤ r 3 ∧ r 3 ≤ Y ∧ 1 ≤ r 4 ∧ r 4 ≤ 99 ∧ 0 ≤ r 5 ∧ r 5 ≤ 10 ∧ 0 ≤ r 6 ∧ r 6 ≤ 9 ∧
  (∀ p q, 0 ≤ p → p < r 7 → 0 ≤ q → q < r 7 → r (8 + p) = r (8 + q) → p = q)
/-- words that a law may be asked of -/
def wOk (w : Rw) : Prop := ∀ i, -1000000 ≤ w i ∧ w i ≤ 1000000
theorem rWd_ok {Y : Int} {r : Rw} {p fam c : Int} (hY : Y ≤ 5000) (h : rOk Y r) (hp : -1 ≤ p) (hp2 : p < 10) (hf : 0 ≤ fam) (hf2 : fam < 6) (hc : 0 ≤ c) (hc2 : c < 32) : wOk (rWd r p fam c) := by
  obtain ⟨h1, h2, h3, h4, h5, h6, h7, h8, h9, h10, h11, h12, h13⟩ := h
  have a := h4 c hc hc2
  intro i
  unfold rWd
  by_cases q : p = -1
  · subst q
    simp only [if_true]
    repeat' split
    all_goals omega
  · have b := h3 p (by omega) hp2
    rw [if_neg q, if_neg q]
    repeat' split
    all_goals omega
theorem tmod32 {x : Int} (h0 : 0 ≤ x) (h1 : x < 32) : 0 ≤ (x + 1).tmod 32 ∧ (x + 1).tmod 32 < 32 ∧ (x + 1).tmod 32 = (x + 1) % 32 := by
  rw [Int.tmod_eq_emod_of_nonneg (by omega)]
  omega
/-- no step keeps more than the cells of plots -/
def rCl (r r2 : Rw) : Prop := ∀ i, i < 8 ∨ 18 ≤ i → r2 i = r i
theorem rWk_cl {L : LW} {p : Int} (hp : 0 ≤ p) (hp2 : p < 10) : ∀ (n : Nat) (s : R3), rCl s.1 (rWk L p n s).1 := by
  intro n
  induction n with
  | zero => intro s i _; rfl
  | succ n ih =>
    intro s i hi
    unfold rWk
    split
    · rfl
    · rw [ih _ i hi]
      exact rUp_n (by omega)
theorem rOk_step {Y : Int} {r : Rw} {p c : Int} (h : rOk Y r) (hp : 0 ≤ p) (hp2 : p < 10) (hc : 0 ≤ c) (hc2 : c < 32) (ho : rOc r c = false) : rOk Y (rUp r (8 + p) c) := by
  obtain ⟨h1, h2, h3, h4, h5, h6, h7, h8, h9, h10, h11, h12, h13⟩ := h
  have g : ∀ i, i < 8 ∨ 18 ≤ i → rUp r (8 + p) c i = r i := fun i hi => rUp_n (by omega)
  have ho := rOc_f.mp ho
  refine ⟨by rw [g _ (by omega)]; exact h1, by rw [g _ (by omega)]; exact h2, fun q a b => ?_, fun q a b => ?_, by rw [g _ (by omega)]; exact h5, by rw [g _ (by omega)]; exact h6, by rw [g _ (by omega)]; exact h7, by rw [g _ (by omega)]; exact h8, by rw [g _ (by omega)]; exact h9, by rw [g _ (by omega)]; exact h10, by rw [g _ (by omega)]; exact h11, by rw [g _ (by omega)]; exact h12, fun q s a b d e f => ?_⟩
  · have := h3 q a b
    rw [g (18 + q) (by omega), g (28 + q) (by omega), g (38 + q) (by omega)]
    refine ⟨?_, ?_, this.2.2⟩ <;> (unfold rUp; split <;> omega)
  · rw [g _ (by omega), g _ (by omega), g _ (by omega)]
    exact h4 q a b
  · rw [g _ (by omega)] at b e
    by_cases u : q = p
    · by_cases v : s = p
      · omega
      · rw [u, rUp_e, rUp_n (by omega)] at f
        exact absurd f.symm (ho s d e)
    · by_cases v : s = p
      · rw [v, rUp_e, rUp_n (by omega)] at f
        exact absurd f (ho q a b)
      · rw [rUp_n (by omega), rUp_n (by omega)] at f
        exact h13 q s a b d e f
theorem rWk_ok {Y : Int} {L : LW} {p : Int} (hp : 0 ≤ p) (hp2 : p < 10) : ∀ (n : Nat) (s : R3), rOk Y s.1 → rOk Y (rWk L p n s).1 := by
  intro n
  induction n with
  | zero => intro s h; exact h
  | succ n ih =>
    intro s h
    unfold rWk
    split
    · exact h
    · rename_i q
      obtain ⟨a, b, -⟩ := tmod32 (h.2.2.1 p hp hp2).1 (h.2.2.1 p hp hp2).2.1
      exact ih _ (rOk_step h hp hp2 a b (by
        revert q
        cases rOc s.1 ((s.1 (8 + p) + 1).tmod 32) <;> simp))
theorem rPs_ok {Y : Int} {L : LW} : ∀ (n : Nat) (p : Int) (s : R3), 0 ≤ p → p + n ≤ 10 → rOk Y s.1 → rOk Y (rPs L n p s).1 ∧ rCl s.1 (rPs L n p s).1 := by
  intro n
  induction n with
  | zero => intro p s _ _ h; exact ⟨h, fun _ _ => rfl⟩
  | succ n ih =>
    intro p s h0 h1 h
    obtain ⟨a, b⟩ := ih (p + 1) _ (by omega) (by omega) (rWk_ok (L := L) h0 (by omega) (rMv L s.1 p).toNat s h)
    exact ⟨a, fun i hi => (b i hi).trans (rWk_cl h0 (by omega) _ _ i hi)⟩
theorem rAg_ok {Y : Int} {r : Rw} (h : rOk Y r) : rOk (Y + 1) (rAg r) := by
  obtain ⟨h1, h2, h3, h4, h5, h6, h7, h8, h9, h10, h11, h12, h13⟩ := h
  have g : ∀ i, i ≠ 3 → i < 38 ∨ 48 ≤ i → rAg r i = r i := fun i a b => by unfold rAg; rw [if_neg (by omega), if_neg a]
  have g3 : rAg r 3 = r 3 + 1 := by unfold rAg; rw [if_neg (by omega), if_pos rfl]
  refine ⟨by rw [g _ (by omega) (by omega)]; exact h1, by rw [g _ (by omega) (by omega)]; exact h2, fun q a b => ?_, fun q a b => ?_, by rw [g3]; omega, by rw [g3]; omega, by rw [g _ (by omega) (by omega)]; exact h7, by rw [g _ (by omega) (by omega)]; exact h8, by rw [g _ (by omega) (by omega)]; exact h9, by rw [g _ (by omega) (by omega)]; exact h10, by rw [g _ (by omega) (by omega)]; exact h11, by rw [g _ (by omega) (by omega)]; exact h12, fun q s a b d e f => ?_⟩
  · have := h3 q a b
    rw [g (18 + q) (by omega) (by omega), g (28 + q) (by omega) (by omega), g (8 + q) (by omega) (by omega)]
    refine ⟨this.1, this.2.1, this.2.2.1, this.2.2.2.1, this.2.2.2.2.1, this.2.2.2.2.2.1, ?_, ?_⟩ <;> (unfold rAg; split <;> (try split) <;> omega)
  · rw [g _ (by omega) (by omega), g _ (by omega) (by omega), g _ (by omega) (by omega)]
    exact h4 q a b
  · rw [g 7 (by omega) (by omega)] at b e
    rw [g (8 + q) (by omega) (by omega), g (8 + s) (by omega) (by omega)] at f
    exact h13 q s a b d e f
/-- a year keeps all but cells, years, the year -/
def rKp (r r2 : Rw) : Prop := ∀ i, i ≠ 3 → i < 8 ∨ (18 ≤ i ∧ i < 38) ∨ 48 ≤ i → r2 i = r i
theorem rTn_ok {Y : Int} {L : LW} {r : Rw} (h : rOk Y r) : rOk (Y + 1) (rTn L r).1 ∧ rKp r (rTn L r).1 := by
  have h0 := h.1
  have h1 := h.2.1
  obtain ⟨a, b⟩ := rPs_ok (L := L) (r 7).toNat 0 (r, 0, 0) (by omega) (by omega) h
  refine ⟨rAg_ok a, fun i hi h2 => ?_⟩
  have := a.2.1
  show rAg (rPs L (r 7).toNat 0 (r, 0, 0)).1 i = r i
  unfold rAg
  rw [if_neg (by omega), if_neg hi]
  exact b i (by omega)
theorem rYr_ok {L : LW} : ∀ (n : Nat) (Y : Int) (r : Rw), rOk Y r → rOk (Y + n) (rYr L n r) ∧ rKp r (rYr L n r) := by
  intro n
  induction n with
  | zero => intro Y r h; exact ⟨by show rOk (Y + ((0 : Nat) : Int)) r; rw [Int.natCast_zero, Int.add_zero]; exact h, fun _ _ _ => rfl⟩
  | succ n ih =>
    intro Y r h
    obtain ⟨a, b⟩ := rTn_ok (L := L) h
    obtain ⟨c, d⟩ := ih (Y + 1) _ a
    refine ⟨by rw [show Y + ((n + 1 : Nat) : Int) = Y + 1 + (n : Int) by omega]; exact c, fun i hi h2 => (d i hi h2).trans (b i hi h2)⟩
theorem rYr_snoc {L : LW} : ∀ (n : Nat) (r : Rw), rYr L (n + 1) r = (rTn L (rYr L n r)).1 := by
  intro n
  induction n with
  | zero => intro r; rfl
  | succ n ih => intro r; exact ih (rTn L r).1
