theorem aUp_cg {m m2 : Mm} {a j v o i : Int} (h : m o i = m2 o i) : aUp m a j v o i = aUp m2 a j v o i := by
  unfold aUp
  split
  · rfl
  · exact h
theorem s_isWithin {E : EN} (hE : Ep E) {k : Nat} {mem : Mm} {Q : Int → Mm → Prop} {x a b : Int} (hx : R32 x) (ha : R32 a) (hb : R32 b) (h1 : a ≤ x → x ≤ b → Q 1 mem) (h0 : x < a ∨ b < x → Q 0 mem) : CI E mX11_isWithin k mem [aI x, aI a, aI b] Q :=
  eX11_isWithin hx ha hb (rX11_isWithin_0 hE ⟨fun c => h0 (Or.inl c), fun c => ⟨fun d => h0 (Or.inr d), fun d => h1 c d⟩⟩)
theorem s_in {E : EN} (hE : Ep E) {k : Nat} {mem : Mm} {Q : Int → Mm → Prop} {x a b : Int} (hx : R64 x) (ha : R64 a) (hb : R64 b) (h1 : a ≤ x → x ≤ b → Q 1 mem) (h0 : x < a ∨ b < x → Q 0 mem) : CI E mX12_in k mem [aL x, aL a, aL b] Q :=
  eX12_in hx ha hb (rX12_in_0 hE ⟨fun c => h0 (Or.inl c), fun c => ⟨fun d => h0 (Or.inr d), fun d => h1 c d⟩⟩)
def isTm (w v : Int) : Prop := (w = 0 ∧ 0 ≤ v ∧ v ≤ 999) ∨ (w = 1 ∧ 1 ≤ v ∧ v ≤ 99) ∨ (w = 2 ∧ 0 ≤ v ∧ v ≤ 10) ∨ (w = 3 ∧ 0 ≤ v ∧ v ≤ 9)
theorem s_isTerm {E : EN} (hE : Ep E) {k : Nat} {mem : Mm} {Q : Int → Mm → Prop} {w v : Int} (hw : R32 w) (hv : R32 v) (h1 : isTm w v → Q 1 mem) (h0 : ¬ isTm w v → Q 0 mem) : CI E mX11_isTerm (k + 1) mem [aI w, aI v] Q := by
  refine eX11_isTerm hw hv (rX11_isTerm_0 hE ⟨fun c _ => ?_, fun c _ => ?_, fun c _ => ?_, fun c _ => ?_, fun c => h0 fun q => by unfold isTm at q; omega⟩)
  · exact s_isWithin hE hv (by decide) (by decide) (fun d1 d2 => ⟨Or.inr rfl, h1 (Or.inl ⟨c, d1, d2⟩)⟩) (fun d => ⟨Or.inl rfl, h0 fun q => by unfold isTm at q; omega⟩)
  · exact s_isWithin hE hv (by decide) (by decide) (fun d1 d2 => ⟨Or.inr rfl, h1 (Or.inr (Or.inl ⟨c, d1, d2⟩))⟩) (fun d => ⟨Or.inl rfl, h0 fun q => by unfold isTm at q; omega⟩)
  · exact s_isWithin hE hv (by decide) (by decide) (fun d1 d2 => ⟨Or.inr rfl, h1 (Or.inr (Or.inr (Or.inl ⟨c, d1, d2⟩)))⟩) (fun d => ⟨Or.inl rfl, h0 fun q => by unfold isTm at q; omega⟩)
  · exact s_isWithin hE hv (by decide) (by decide) (fun d1 d2 => ⟨Or.inr rfl, h1 (Or.inr (Or.inr (Or.inr ⟨c, d1, d2⟩)))⟩) (fun d => ⟨Or.inl rfl, h0 fun q => by unfold isTm at q; omega⟩)
theorem r64_of {x : Int} (h : R32 x) : R64 x := ⟨by have := h.1; omega, by have := h.2; omega⟩
theorem s_change {E : EN} (hE : Ep E) {k : Nat} {mem : Mm} {Q : Int → Mm → Prop} {a v : Int} (h0 : 0 ≤ a) (h1 : a < 5570) (hv : R32 v) (hQ : Q (mem 605 a) (aUp (aUp mem 605 a v) 603 1 0)) : CI E mX12_change k mem [aR 603, aI a, aI v] Q :=
  eX12_change ⟨by omega, by omega⟩ hv (rX12_change_0 hE ⟨⟨h0, h1⟩, hQ⟩)
theorem st_forget {E : EN} (hE : Ep E) {C : Mm → Prop} (hC : iFr C) (h1 : ∀ m, C m → m 349 0 = m 605 0) (h2 : ∀ m, C m → C (aUp (aUp m 349 0 0) 605 0 0)) : stI E 1199 (iAll C) mX11_forget mX12_forget 0 := by
  intro t mem av ht hl hr hI
  obtain rfl := no_args hl
  refine eX11_forget (rX11_forget_0 hE (eX12_forget (rX12_forget_0 hE ⟨?_, ?_, ?_⟩)))
  · rw [aUp_rn (b := 605) (by decide)]
    exact h1 mem hI.2
  · obtain ⟨e1, e2⟩ := iRf_up hI.1
    refine ⟨?_, fun j a b => ?_⟩
    · rw [aUp_rn (by decide), aUp_rn (by decide), aUp_rn (by decide), aUp_rn (by decide), aUp_ri (by decide), aUp_rn (by decide)]
      exact e1
    · rw [aUp_rn (by decide), aUp_rn (by decide), aUp_rn (by decide), aUp_rn (by decide), aUp_rn (by decide), aUp_rn (by decide)]
      exact e2 j a b
  · exact hC _ _ (fun o i k => aUp_cg (K_thr k)) (h2 mem hI.2)
