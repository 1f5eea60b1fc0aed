/-- r is a plot in the cell c, or there is none and r is -1 -/
def isPl (f : Int → Int) (n c r : Int) : Prop := (r = -1 ∧ ∀ p, 0 ≤ p → p < n → ¬ f p = c) ∨ (0 ≤ r ∧ r < n ∧ f r = c)
theorem isPl_eq {f g : Int → Int} {n c r r2 : Int} (hf : ∀ p, 0 ≤ p → p < n → f p = g p) (hd : ∀ p q, 0 ≤ p → p < n → 0 ≤ q → q < n → g p = g q → p = q) (h1 : isPl f n c r) (h2 : isPl g n c r2) : r = r2 := by
  rcases h1 with ⟨rfl, a⟩ | ⟨a, b, d⟩ <;> rcases h2 with ⟨rfl, a2⟩ | ⟨a2, b2, d2⟩
  · rfl
  · exact absurd ((hf r2 a2 b2).trans d2) (a r2 a2 b2)
  · exact absurd ((hf r a b).symm.trans d) (a2 r a b)
  · exact hd r r2 a b a2 b2 (((hf r a b).symm.trans d).trans d2.symm)
theorem s_plotIn_l {E : EN} (hE : Ep E) {k : Nat} {mem : Mm} {Q : Int → Mm → Prop} {y c : Int} (hy : isYd y) (hn : mem y 10 ≤ 10) (hQ : ∀ r, isPl (mem (y + 4)) (mem y 10) c r → Q r mem) : ∀ (d : Nat) (x : Int), 0 ≤ x → mem y 10 - x ≤ d → (∀ p, 0 ≤ p → p < x → ¬ mem (y + 4) p = c) → VM E mX10_plotIn k mem 2 [(0, aR y), (1, aI c), (2, aI x)] [] (retI Q) := by
  intro d
  induction d with
  | zero =>
    intro x h0 h1 h2
    exact rX10_plotIn_2 hE hy ⟨fun q => hQ _ (Or.inl ⟨rfl, fun p a b => h2 p a (by omega)⟩), fun q => absurd q (by omega)⟩
  | succ d ih =>
    intro x h0 h1 h2
    refine rX10_plotIn_2 hE hy ⟨fun q => hQ _ (Or.inl ⟨rfl, fun p a b => h2 p a (by omega)⟩), fun q => ⟨fun z => absurd z (by omega), fun z => ⟨⟨h0, z⟩, fun w => ⟨⟨by omega, by omega⟩, ih (x + 1) (by omega) (by omega) fun p a b => ?_⟩, fun w => hQ _ (Or.inr ⟨h0, q, w⟩)⟩⟩⟩
    by_cases e : p = x
    · rw [e]; exact w
    · exact h2 p a (by omega)
theorem s_plotIn {E : EN} (hE : Ep E) {k : Nat} {mem : Mm} {Q : Int → Mm → Prop} {y c : Int} (hy : isYd y) (hc : R32 c) (hn : mem y 10 ≤ 10) (hQ : ∀ r, isPl (mem (y + 4)) (mem y 10) c r → Q r mem) : CI E mX10_plotIn k mem [aR y, aI c] Q :=
  eX10_plotIn hc (rX10_plotIn_0 hE hy (s_plotIn_l hE hy hn hQ (mem y 10).toNat 0 (by omega) (by omega) fun p a b => absurd b (by omega)))
theorem m_plotIn_l {E : EN} (hE : Ep E) {k : Nat} {mem : Mm} {Q : Int → Mm → Prop} {c : Int} (hn : mem 605 7 ≤ 10) (hQ : ∀ r, isPl (fun p => mem 605 (8 + p)) (mem 605 7) c r → Q r mem) : ∀ (d : Nat) (r x : Int), 0 ≤ x → x ≤ mem 605 7 → mem 605 7 - x ≤ d → isPl (fun p => mem 605 (8 + p)) x c r → VM E mX12_plotIn k mem 4 [(0, aR 603), (1, aI c), (2, aI r), (3, aI x)] [] (retI Q) := by
  intro d
  induction d with
  | zero =>
    intro r x h0 h1 h3 h2
    have e : x = mem 605 7 := by omega
    exact rX12_plotIn_4 hE ⟨fun _ => hQ r (e ▸ h2), fun q => absurd q (by omega)⟩
  | succ d ih =>
    intro r x h0 h1 h3 h2
    refine rX12_plotIn_4 hE ⟨fun q => hQ r ((show x = mem 605 7 by omega) ▸ h2), fun q => ⟨⟨by omega, by omega⟩, ⟨by omega, by omega⟩, fun w => ⟨⟨by omega, by omega⟩, ih r (x + 1) (by omega) (by omega) (by omega) ?_⟩, fun w => ⟨⟨by omega, by omega⟩, ih x (x + 1) (by omega) (by omega) (by omega) (Or.inr ⟨h0, by omega, w⟩)⟩⟩⟩
    rcases h2 with ⟨a, b⟩ | ⟨a, b, e⟩
    · refine Or.inl ⟨a, fun p u v => ?_⟩
      by_cases e : p = x
      · rw [e]; exact w
      · exact b p u (by omega)
    · exact Or.inr ⟨a, by omega, e⟩
theorem m_plotIn {E : EN} (hE : Ep E) {k : Nat} {mem : Mm} {Q : Int → Mm → Prop} {c : Int} (hc : R32 c) (h0 : 0 ≤ mem 605 7) (hn : mem 605 7 ≤ 10) (hQ : ∀ r, isPl (fun p => mem 605 (8 + p)) (mem 605 7) c r → Q r mem) : CI E mX12_plotIn k mem [aR 603, aI c] Q :=
  eX12_plotIn hc (rX12_plotIn_0 hE (m_plotIn_l hE hn hQ (mem 605 7).toNat (-1) 0 (by omega) h0 (by omega) (Or.inl ⟨rfl, fun p a b => absurd b (by omega)⟩)))
