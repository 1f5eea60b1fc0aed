-- a law as its clauses: how many, their verbs, what their "if" comes to, what their SUM comes to
abbrev LD : Type := Int × (Int → Int) × (Int → Rw → Int) × (Int → Rw → Int)
def ldOk (D : LD) : Prop := 0 ≤ D.1 ∧ D.1 ≤ 12 ∧ ∀ i, 0 ≤ i → i < D.1 → ∀ w, wOk w → (D.2.2.1 i w = 0 ∨ D.2.2.1 i w = 1 ∨ D.2.2.1 i w = bRK) ∧ (D.2.2.2 i w = bRK ∨ (-1000000000 ≤ D.2.2.2 i w ∧ D.2.2.2 i w ≤ 1000000000))
def ldLast (D : LD) (h : Int) (w : Rw) : Nat → Int
  | 0 => bRK
  | k + 1 => if D.2.1 k = h ∧ D.2.2.1 k w = 1 ∧ ¬ D.2.2.2 k w = bRK then D.2.2.2 k w else ldLast D h w k
def ldHas (D : LD) (h : Int) (w : Rw) : Nat → Bool
  | 0 => false
  | k + 1 => ldHas D h w k || (D.2.1 k == h && D.2.2.1 k w == 1)
def ldVb (D : LD) (h : Int) : Nat → Bool
  | 0 => false
  | k + 1 => ldVb D h k || D.2.1 k == h
def lsOf (D : LD) : LW := (fun h w => if h < 2 then ldLast D h w D.1.toNat else if ldHas D h w D.1.toNat then 1 else 0, ldVb D 2 D.1.toNat)
def TxS (m : Mm) (t N : Int) (D : LD) : Prop := m t 0 = D.1 ∧ m t 8 ≤ 400 ∧ ldOk D ∧ ∀ i, 0 ≤ i → i < D.1 → m (t + 1) i = D.2.1 i ∧ vS m t N (m (t + 5) i) (D.2.2.1 i) ∧ (D.2.1 i < 2 → vS m t N (m (t + 3) i) (D.2.2.2 i))
theorem TxS_fr {m m2 : Mm} {t N : Int} {D : LD} (h : ∀ o i, t ≤ o → o ≤ t + 7 → m2 o i = m o i) (hT : TxS m t N D) : TxS m2 t N D := by
  have e6 : m2 (t + 6) = m (t + 6) := funext fun i => h _ _ (by omega) (by omega)
  have e7 : m2 (t + 7) = m (t + 7) := funext fun i => h _ _ (by omega) (by omega)
  have e8 : m2 t 8 = m t 8 := h _ _ (by omega) (by omega)
  have ev : ∀ fr F, vS m t N fr F → vS m2 t N fr F := by
    intro fr F q
    unfold vS
    rw [e6, e7, e8]
    exact q
  obtain ⟨a, b, c, d⟩ := hT
  refine ⟨by rw [h t 0 (by omega) (by omega)]; exact a, by rw [e8]; exact b, c, fun i u v => ?_⟩
  obtain ⟨d1, d2, d3⟩ := d i u v
  rw [h (t + 1) i (by omega) (by omega), h (t + 5) i (by omega) (by omega), h (t + 3) i (by omega) (by omega)]
  exact ⟨d1, ev _ _ d2, fun q => ev _ _ (d3 q)⟩
theorem s_thas_l {E : EN} (hE : Ep E) {k : Nat} {mem : Mm} {Q : Int → Mm → Prop} {t h : Int} {D : LD} (hy : isTx t) (hn : mem t 0 = D.1) (hle : D.1 ≤ 12) (hv : ∀ i, 0 ≤ i → i < D.1 → mem (t + 1) i = D.2.1 i) (hQ : Q (if ldVb D h D.1.toNat then 1 else 0) mem) : ∀ (d j : Nat), (j : Int) ≤ D.1 → D.1.toNat = j + d → ldVb D h j = false → VM E mX9_has k mem 2 [(0, aR t), (1, aI h), (2, aI j)] [] (retI Q) := by
  intro d
  induction d with
  | zero =>
    intro j h0 h1 h2
    rw [show D.1.toNat = j by omega, h2] at hQ
    exact rX9_has_2 hE hy ⟨fun _ => hQ, fun c => absurd c (by omega)⟩
  | succ d ih =>
    intro j h0 h1 h2
    have e := hv j (by omega) (by omega)
    refine rX9_has_2 hE hy ⟨fun c => absurd c (by omega), fun _ => ⟨fun c => absurd c (by omega), fun _ => ⟨⟨by omega, by omega⟩, fun c => ⟨⟨by omega, by omega⟩, ?_⟩, fun c => ?_⟩⟩⟩
    · rw [e] at c
      refine ih (j + 1) (by omega) (by omega) ?_
      show (ldVb D h j || D.2.1 j == h) = false
      simp [h2, c]
    · rw [e] at c
      have : ∀ n : Nat, ldVb D h (j + 1 + n) = true := by
        intro n
        induction n with
        | zero => show (ldVb D h j || D.2.1 j == h) = true; simp [c]
        | succ n ihn => show (ldVb D h (j + 1 + n) || _) = true; simp [ihn]
      rw [show D.1.toNat = j + 1 + d by omega, this d] at hQ
      exact hQ
theorem s_thas {E : EN} (hE : Ep E) {k : Nat} {mem : Mm} {Q : Int → Mm → Prop} {t N h : Int} {D : LD} (hy : isTx t) (hT : TxS mem t N D) (hh : R32 h) (hQ : Q (if ldVb D h D.1.toNat then 1 else 0) mem) : CI E mX9_has k mem [aR t, aI h] Q :=
  eX9_has hh (rX9_has_0 hE hy (s_thas_l hE hy hT.1 hT.2.2.1.2.1 (fun i a b => (hT.2.2.2 i a b).1) hQ D.1.toNat 0 (by have := hT.2.2.1.1; omega) (by omega) rfl))
theorem s_tholds_l {E : EN} (hE : Ep E) {k : Nat} {m0 : Mm} {Q : Int → Mm → Prop} {t h p : Int} {N : Nat} {w : Rw} {D : LD} (hy : isTx t) (hp : aSh SH p 13 N) (hN : N < 1000) (hpt : p < t ∨ t + 8 < p) (hw : ∀ i : Int, 0 ≤ i → i < N → m0 p i = w i) (hok : wOk w) (hT : TxS m0 t N D)
    (hQ : ∀ m2 : Mm, (∀ o i, o ≠ t + 8 → m2 o i = m0 o i) → Q (if ldHas D h w D.1.toNat then 1 else 0) m2) : ∀ (d j : Nat) (mem : Mm), (∀ o i, o ≠ t + 8 → mem o i = m0 o i) → (j : Int) ≤ D.1 → D.1.toNat = j + d → ldHas D h w j = false → VM E mX9_holds (k + 2) mem 2 [(0, aR t), (1, aI h), (2, aR p), (3, aI j)] [] (retI Q) := by
  have hle := hT.2.2.1.2.1
  intro d
  induction d with
  | zero =>
    intro j mem hm h0 h1 h2
    have hQ := hQ mem hm
    rw [show D.1.toNat = j by omega, h2] at hQ
    have e0 : mem t 0 = D.1 := (hm t 0 (by omega)).trans hT.1
    exact rX9_holds_2 hE hy hp ⟨fun _ => hQ, fun c => absurd c (by omega)⟩
  | succ d ih =>
    intro j mem hm h0 h1 h2
    have hT2 : TxS mem t N D := TxS_fr (fun o i a b => hm o i (by omega)) hT
    obtain ⟨e1, e2, -⟩ := hT2.2.2.2 j (by omega) (by omega)
    have e0 := hT2.1
    have hs : ∀ n : Nat, ldHas D h w (j + 1) = true → ldHas D h w (j + 1 + n) = true := by
      intro n q
      induction n with
      | zero => exact q
      | succ n ihn => show (ldHas D h w (j + 1 + n) || _) = true; simp [ihn]
    refine rX9_holds_2 hE hy hp ⟨fun c => absurd c (by omega), fun _ => ⟨fun c => absurd c (by omega), fun _ => ⟨⟨by omega, by omega⟩, fun c => ⟨⟨by omega, by omega⟩, ?_⟩, fun c r5 => ?_⟩⟩⟩
    · rw [e1] at c
      refine ih (j + 1) mem hm (by omega) (by omega) ?_
      show (ldHas D h w j || _) = false
      simp [h2, c]
    · rw [e1] at c
      refine s_value hE hy r5 hp hN (by omega) (fun i a b => (hm p i (by omega)).trans (hw i a b)) hok hT2.2.1 e2 fun m2 hm2 => ⟨fun q => ⟨⟨by omega, by omega⟩, ?_⟩, fun q => ?_⟩
      · refine ih (j + 1) m2 (fun o i u => (hm2 o i u).trans (hm o i u)) (by omega) (by omega) ?_
        show (ldHas D h w j || _) = false
        simp [h2, q]
      · have hQ := hQ m2 fun o i u => (hm2 o i u).trans (hm o i u)
        rw [show D.1.toNat = j + 1 + d by omega, hs d (by show (ldHas D h w j || _) = true; simp [c, q])] at hQ
        exact hQ
theorem s_tholds {E : EN} (hE : Ep E) {k : Nat} {mem : Mm} {Q : Int → Mm → Prop} {t h p : Int} {N : Nat} {w : Rw} {D : LD} (hy : isTx t) (hh : R32 h) (hp : aSh SH p 13 N) (hN : N < 1000) (hpt : p < t ∨ t + 8 < p) (hw : ∀ i : Int, 0 ≤ i → i < N → mem p i = w i) (hok : wOk w) (hT : TxS mem t N D)
    (hQ : ∀ m2 : Mm, (∀ o i, o ≠ t + 8 → m2 o i = mem o i) → Q (if ldHas D h w D.1.toNat then 1 else 0) m2) : CI E mX9_holds (k + 2) mem [aR t, aI h, aR p] Q :=
  eX9_holds hh (rX9_holds_0 hE hy hp (s_tholds_l hE hy hp hN hpt hw hok hT hQ D.1.toNat 0 mem (fun _ _ _ => rfl) (by have := hT.2.2.1.1; omega) (by omega) rfl))
theorem s_tlast_l {E : EN} (hE : Ep E) {k : Nat} {m0 : Mm} {Q : Int → Mm → Prop} {t h p : Int} {N : Nat} {w : Rw} {D : LD} (hy : isTx t) (h2 : h < 2) (hp : aSh SH p 13 N) (hN : N < 1000) (hpt : p < t ∨ t + 8 < p) (hw : ∀ i : Int, 0 ≤ i → i < N → m0 p i = w i) (hok : wOk w) (hT : TxS m0 t N D)
    (hQ : ∀ m2 : Mm, (∀ o i, o ≠ t + 8 → m2 o i = m0 o i) → Q (ldLast D h w D.1.toNat) m2) : ∀ (j : Nat) (mem : Mm), (∀ o i, o ≠ t + 8 → mem o i = m0 o i) → (j : Int) ≤ D.1 → ldLast D h w D.1.toNat = ldLast D h w j → ∀ z : Int, z = (j : Int) - 1 → VM E mX9_last (k + 2) mem 12 [(0, aR t), (1, aI h), (2, aR p), (3, aI z)] [] (retI Q) := by
  have hle := hT.2.2.1.2.1
  intro j
  induction j with
  | zero =>
    intro mem hm h0 h1 z hz
    have hQ := hQ mem hm
    rw [h1] at hQ
    exact rX9_last_12 hE hy hp ⟨fun _ => hQ, fun c => absurd c (by omega)⟩
  | succ j ih =>
    intro mem hm h0 h1 z hz
    obtain rfl : z = (j : Int) := by omega
    have hT2 : TxS mem t N D := TxS_fr (fun o i a b => hm o i (by omega)) hT
    obtain ⟨e1, e2, e3⟩ := hT2.2.2.2 j (by omega) (by omega)
    have e0 := hT2.1
    have hno : ¬ (D.2.1 j = h ∧ D.2.2.1 j w = 1 ∧ ¬ D.2.2.2 j w = bRK) → ldLast D h w D.1.toNat = ldLast D h w j := fun q => h1.trans (by show (if _ then _ else _) = _; rw [if_neg q])
    refine rX9_last_12 hE hy hp ⟨fun c => absurd c (by omega), fun _ => ⟨⟨by omega, by omega⟩, fun c => ⟨⟨by omega, by omega⟩, ?_⟩, fun c r5 => ?_⟩⟩
    · rw [e1] at c
      exact ih mem hm (by omega) (hno fun q => c q.1) _ (by omega)
    · rw [e1] at c
      refine s_value hE hy r5 hp hN (by omega) (fun i a b => (hm p i (by omega)).trans (hw i a b)) hok hT2.2.1 e2 fun m2 hm2 => ⟨fun q => ⟨⟨by omega, by omega⟩, ?_⟩, fun q r3 => ?_⟩
      · exact ih m2 (fun o i u => (hm2 o i u).trans (hm o i u)) (by omega) (hno fun u => q u.2.1) _ (by omega)
      · have hT3 : TxS m2 t N D := TxS_fr (fun o i a b => hm2 o i (by omega)) hT2
        obtain ⟨f1, f2, f3⟩ := hT3.2.2.2 j (by omega) (by omega)
        refine s_value hE hy r3 hp hN (by omega) (fun i a b => (hm2 p i (by omega)).trans ((hm p i (by omega)).trans (hw i a b))) hok hT3.2.1 (f3 (by omega)) fun m3 hm3 => ⟨fun u => ⟨⟨by omega, by omega⟩, ?_⟩, fun u => ?_⟩
        · exact ih m3 (fun o i v => (hm3 o i v).trans ((hm2 o i v).trans (hm o i v))) (by omega) (hno fun v => v.2.2 u) _ (by omega)
        · have hQ := hQ m3 fun o i v => (hm3 o i v).trans ((hm2 o i v).trans (hm o i v))
          rw [h1] at hQ
          have e : ldLast D h w (j + 1) = D.2.2.2 j w := by show (if _ then _ else _) = _; rw [if_pos ⟨c, q, u⟩]
          rw [e] at hQ
          exact hQ
theorem s_tlast {E : EN} (hE : Ep E) {k : Nat} {mem : Mm} {Q : Int → Mm → Prop} {t h p : Int} {N : Nat} {w : Rw} {D : LD} (hy : isTx t) (hh : R32 h) (h2 : h < 2) (hp : aSh SH p 13 N) (hN : N < 1000) (hpt : p < t ∨ t + 8 < p) (hw : ∀ i : Int, 0 ≤ i → i < N → mem p i = w i) (hok : wOk w) (hT : TxS mem t N D)
    (hQ : ∀ m2 : Mm, (∀ o i, o ≠ t + 8 → m2 o i = mem o i) → Q (ldLast D h w D.1.toNat) m2) : CI E mX9_last (k + 2) mem [aR t, aI h, aR p] Q := by
  have e0 := hT.1
  have e1 := hT.2.2.1.1
  have e2 := hT.2.2.1.2.1
  refine eX9_last hh (rX9_last_0 hE hy hp ⟨⟨by omega, by omega⟩, s_tlast_l hE hy h2 hp hN hpt hw hok hT hQ D.1.toNat mem (fun _ _ _ => rfl) (by omega) rfl _ (by omega)⟩)
