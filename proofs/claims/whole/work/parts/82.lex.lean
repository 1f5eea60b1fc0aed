-- PURE: the tokens of a tape T of n bytes: where the one read from p on begins, ends, its sort, what it is worth
def isLe (c : Int) : Bool := decide (97 ≤ c ∧ c ≤ 122)
def isDg (c : Int) : Bool := decide (48 ≤ c ∧ c ≤ 57)
theorem isLe_i {c : Int} : isLe c = true ↔ 97 ≤ c ∧ c ≤ 122 := decide_eq_true_iff
theorem isDg_i {c : Int} : isDg c = true ↔ 48 ≤ c ∧ c ≤ 57 := decide_eq_true_iff
def lSk (T : Rw) (n : Int) : Nat → Int → Int
  | 0, p => p
  | d + 1, p => if p < n ∧ T p = 32 then lSk T n d (p + 1) else p
def lRn (T : Rw) (n : Int) (P : Int → Bool) : Nat → Int → Int
  | 0, p => p
  | d + 1, p => if p < n ∧ P (T p) = true then lRn T n P d (p + 1) else p
def hsh (T : Rw) (f : Int) : Nat → Int
  | 0 => 0
  | d + 1 => hsh T f d * 32 + T (f + (d : Int)) - 96
def nmb (T : Rw) (f : Int) : Nat → Int
  | 0 => 0
  | d + 1 => min 1001 (nmb T f d * 10 + T (f + (d : Int)) - 48)
def tF (T : Rw) (n p : Int) : Int := lSk T n (n - p).toNat p
def tS (T : Rw) (n p : Int) : Int := if n ≤ tF T n p then 0 else if isLe (T (tF T n p)) = true then 1 else if isDg (T (tF T n p)) = true then 2 else 3
def tT (T : Rw) (n p : Int) : Int := if tS T n p = 0 then tF T n p else if tS T n p = 1 then lRn T n isLe (n - tF T n p).toNat (tF T n p) else if tS T n p = 2 then lRn T n isDg (n - tF T n p).toNat (tF T n p) else tF T n p + 1
def tW (T : Rw) (n p : Int) : Int := if tS T n p = 1 then (if tT T n p - tF T n p ≤ 10 then hsh T (tF T n p) (tT T n p - tF T n p).toNat else -1) else 0
def tG (T : Rw) (n p : Int) : Int := if tS T n p = 3 then T (tF T n p) else -1
def tN (T : Rw) (n p : Int) : Int := if tS T n p = 2 then nmb T (tF T n p) (tT T n p - tF T n p).toNat else -1
theorem lSk_go {T : Rw} {n p : Int} (h : p < n) (h2 : T p = 32) : lSk T n (n - p).toNat p = lSk T n (n - (p + 1)).toNat (p + 1) := by
  rw [show (n - p).toNat = (n - (p + 1)).toNat + 1 by omega]
  exact if_pos ⟨h, h2⟩
theorem lSk_no {T : Rw} {n p : Int} (h : ¬ (p < n ∧ T p = 32)) (d : Nat) : lSk T n d p = p := by
  cases d with
  | zero => rfl
  | succ d => exact if_neg h
theorem lRn_go {T : Rw} {n p : Int} {P : Int → Bool} (h : p < n) (h2 : P (T p) = true) : lRn T n P (n - p).toNat p = lRn T n P (n - (p + 1)).toNat (p + 1) := by
  rw [show (n - p).toNat = (n - (p + 1)).toNat + 1 by omega]
  exact if_pos ⟨h, h2⟩
theorem lRn_no {T : Rw} {n p : Int} {P : Int → Bool} (h : ¬ (p < n ∧ P (T p) = true)) (d : Nat) : lRn T n P d p = p := by
  cases d with
  | zero => rfl
  | succ d => exact if_neg h
theorem tF_go {T : Rw} {n p : Int} (h : p < n) (h2 : T p = 32) : tF T n p = tF T n (p + 1) := lSk_go h h2
theorem tF_no {T : Rw} {n p : Int} (h : ¬ (p < n ∧ T p = 32)) : tF T n p = p := lSk_no h _
theorem lSk_b {T : Rw} {n : Int} : ∀ (d : Nat) (p : Int), p ≤ n → p ≤ lSk T n d p ∧ lSk T n d p ≤ n := by
  intro d
  induction d with
  | zero => intro p h; exact ⟨Int.le_refl _, h⟩
  | succ d ih =>
    intro p h
    unfold lSk
    split
    · rename_i c
      have := ih (p + 1) (by omega)
      omega
    · exact ⟨Int.le_refl _, h⟩
theorem lRn_b {T : Rw} {n : Int} {P : Int → Bool} : ∀ (d : Nat) (p : Int), p ≤ n → p ≤ lRn T n P d p ∧ lRn T n P d p ≤ n := by
  intro d
  induction d with
  | zero => intro p h; exact ⟨Int.le_refl _, h⟩
  | succ d ih =>
    intro p h
    unfold lRn
    split
    · rename_i c
      have := ih (p + 1) (by omega)
      omega
    · exact ⟨Int.le_refl _, h⟩
theorem lRn_all {T : Rw} {n : Int} {P : Int → Bool} : ∀ (d : Nat) (p i : Int), p ≤ i → i < lRn T n P d p → P (T i) = true := by
  intro d
  induction d with
  | zero => intro p i h h2; exact absurd h2 (by show ¬ i < p; omega)
  | succ d ih =>
    intro p i h h2
    unfold lRn at h2
    split at h2
    · rename_i c
      by_cases q : i = p
      · rw [q]; exact c.2
      · exact ih (p + 1) i (by omega) h2
    · omega
theorem tF_b {T : Rw} {n p : Int} (h : p ≤ n) : p ≤ tF T n p ∧ tF T n p ≤ n := lSk_b _ _ h
theorem tS_c (T : Rw) (n p : Int) : (tS T n p = 0 ∧ n ≤ tF T n p) ∨ (tS T n p = 1 ∧ tF T n p < n ∧ isLe (T (tF T n p)) = true) ∨ (tS T n p = 2 ∧ tF T n p < n ∧ ¬ isLe (T (tF T n p)) = true ∧ isDg (T (tF T n p)) = true) ∨ (tS T n p = 3 ∧ tF T n p < n ∧ ¬ isLe (T (tF T n p)) = true ∧ ¬ isDg (T (tF T n p)) = true) := by
  unfold tS
  split
  · rename_i c
    exact Or.inl ⟨rfl, c⟩
  · rename_i c
    split
    · rename_i c2
      exact Or.inr (Or.inl ⟨rfl, by omega, c2⟩)
    · rename_i c2
      split
      · rename_i c3
        exact Or.inr (Or.inr (Or.inl ⟨rfl, by omega, c2, c3⟩))
      · rename_i c3
        exact Or.inr (Or.inr (Or.inr ⟨rfl, by omega, c2, c3⟩))
theorem tT_0 {T : Rw} {n p : Int} (h : tS T n p = 0) : tT T n p = tF T n p := if_pos h
theorem tT_1 {T : Rw} {n p : Int} (h : tS T n p = 1) : tT T n p = lRn T n isLe (n - tF T n p).toNat (tF T n p) := by
  unfold tT
  rw [if_neg (by omega), if_pos h]
theorem tT_2 {T : Rw} {n p : Int} (h : tS T n p = 2) : tT T n p = lRn T n isDg (n - tF T n p).toNat (tF T n p) := by
  unfold tT
  rw [if_neg (by omega), if_neg (by omega), if_pos h]
theorem tT_3 {T : Rw} {n p : Int} (h : tS T n p = 3) : tT T n p = tF T n p + 1 := by
  unfold tT
  rw [if_neg (by omega), if_neg (by omega), if_neg (by omega)]
theorem tT_b {T : Rw} {n p : Int} (h : p ≤ n) : tF T n p ≤ tT T n p ∧ tT T n p ≤ n ∧ (¬ tS T n p = 0 → tF T n p + 1 ≤ tT T n p) := by
  have hf := tF_b (T := T) h
  rcases tS_c T n p with ⟨a, b⟩ | ⟨a, b, c⟩ | ⟨a, b, c, d⟩ | ⟨a, b, c, d⟩
  · rw [tT_0 a]
    exact ⟨Int.le_refl _, hf.2, fun q => absurd a q⟩
  · rw [tT_1 a, lRn_go b c]
    have := lRn_b (T := T) (n := n) (P := isLe) (n - (tF T n p + 1)).toNat (tF T n p + 1) (by omega)
    exact ⟨by omega, this.2, fun _ => this.1⟩
  · rw [tT_2 a, lRn_go b d]
    have := lRn_b (T := T) (n := n) (P := isDg) (n - (tF T n p + 1)).toNat (tF T n p + 1) (by omega)
    exact ⟨by omega, this.2, fun _ => this.1⟩
  · rw [tT_3 a]
    exact ⟨by omega, by omega, fun _ => by omega⟩
theorem tT_le {T : Rw} {n p i : Int} (h : tS T n p = 1) (h1 : tF T n p ≤ i) (h2 : i < tT T n p) : 97 ≤ T i ∧ T i ≤ 122 := by
  rw [tT_1 h] at h2
  exact isLe_i.mp (lRn_all _ _ _ h1 h2)
-- a row of letters is known by what it is worth
theorem hsh_0 {T : Rw} {f : Int} : ∀ d : Nat, (∀ j : Int, f ≤ j → j < f + d → 97 ≤ T j ∧ T j ≤ 122) → 0 ≤ hsh T f d ∧ (0 < d → 0 < hsh T f d) := by
  intro d
  induction d with
  | zero => intro _; exact ⟨Int.le_refl _, fun h => absurd h (by omega)⟩
  | succ d ih =>
    intro h
    have a := ih fun j u v => h j u (by omega)
    have b := h (f + (d : Int)) (by omega) (by omega)
    show 0 ≤ hsh T f d * 32 + T (f + (d : Int)) - 96 ∧ (0 < d + 1 → 0 < hsh T f d * 32 + T (f + (d : Int)) - 96)
    omega
theorem hsh_inj {A B : Rw} {f g : Int} : ∀ (d e : Nat), (∀ j : Int, f ≤ j → j < f + d → 97 ≤ A j ∧ A j ≤ 122) → (∀ j : Int, g ≤ j → j < g + e → 97 ≤ B j ∧ B j ≤ 122) → hsh A f d = hsh B g e → d = e ∧ ∀ j : Int, 0 ≤ j → j < d → A (f + j) = B (g + j) := by
  intro d
  induction d with
  | zero =>
    intro e _ hB h
    have b := hsh_0 e hB
    refine ⟨?_, fun j u v => absurd v (by omega)⟩
    by_cases q : 0 < e
    · have := b.2 q
      rw [← h] at this
      exact absurd this (by show ¬ (0 : Int) < 0; omega)
    · omega
  | succ d ih =>
    intro e hA hB h
    have a := hsh_0 d fun j u v => hA j u (by omega)
    have a2 := hA (f + (d : Int)) (by omega) (by omega)
    cases e with
    | zero =>
      have : hsh A f (d + 1) = hsh A f d * 32 + A (f + (d : Int)) - 96 := rfl
      have h0 : hsh B g 0 = 0 := rfl
      omega
    | succ e =>
      have b := hsh_0 e fun j u v => hB j u (by omega)
      have b2 := hB (g + (e : Int)) (by omega) (by omega)
      have h : hsh A f d * 32 + A (f + (d : Int)) - 96 = hsh B g e * 32 + B (g + (e : Int)) - 96 := h
      obtain ⟨q1, q2⟩ := ih e (fun j u v => hA j u (by omega)) (fun j u v => hB j u (by omega)) (by omega)
      refine ⟨by omega, fun j u v => ?_⟩
      by_cases c : j = (d : Int)
      · subst c
        have : (e : Int) = (d : Int) := by omega
        rw [this] at h b2
        omega
      · exact q2 j u (by omega)
theorem hsh_cg {A B : Rw} {f g : Int} : ∀ d : Nat, (∀ j : Int, 0 ≤ j → j < d → A (f + j) = B (g + j)) → hsh A f d = hsh B g d := by
  intro d
  induction d with
  | zero => intro _; rfl
  | succ d ih =>
    intro h
    show hsh A f d * 32 + A (f + (d : Int)) - 96 = hsh B g d * 32 + B (g + (d : Int)) - 96
    rw [ih fun j u v => h j u (by omega), h (d : Int) (by omega) (by omega)]
theorem nmb_b {T : Rw} {f : Int} : ∀ d : Nat, (∀ j : Int, f ≤ j → j < f + d → 48 ≤ T j) → 0 ≤ nmb T f d ∧ nmb T f d ≤ 1001 := by
  intro d
  induction d with
  | zero => intro _; exact ⟨Int.le_refl _, by show (0 : Int) ≤ 1001; omega⟩
  | succ d ih =>
    intro h
    have a := ih fun j u v => h j u (by omega)
    have b := h (f + (d : Int)) (by omega) (by omega)
    show 0 ≤ min 1001 (nmb T f d * 10 + T (f + (d : Int)) - 48) ∧ min 1001 (nmb T f d * 10 + T (f + (d : Int)) - 48) ≤ 1001
    omega
theorem tN_b {T : Rw} {n p : Int} : (tS T n p = 2 → 0 ≤ tN T n p ∧ tN T n p ≤ 1001) ∧ (¬ tS T n p = 2 → tN T n p = -1) := by
  refine ⟨fun h => ?_, fun h => if_neg h⟩
  have e : tN T n p = nmb T (tF T n p) (tT T n p - tF T n p).toNat := if_pos h
  rw [e]
  refine nmb_b _ fun j u v => ?_
  rw [tT_2 h] at v
  have := lRn_b (T := T) (n := n) (P := isDg) (n - tF T n p).toNat (tF T n p) (by rcases tS_c T n p with ⟨a, b⟩ | ⟨a, b, c⟩ | ⟨a, b, c, d⟩ | ⟨a, b, c, d⟩ <;> omega)
  exact (isDg_i.mp (lRn_all (n := n) (P := isDg) (n - tF T n p).toNat (tF T n p) j u (by omega))).1
/-- the tape holds bytes -/
def tOk (T : Rw) (n : Int) : Prop := 0 ≤ n ∧ n ≤ 400 ∧ ∀ i, 0 ≤ i → i < n → 0 ≤ T i ∧ T i ≤ 255
