-- the small questions of both sides
theorem s_isCell {E : EN} (hE : Ep E) {k : Nat} {mem : Mm} {Q : Int → Mm → Prop} {c : Int} (hc : R32 c) (h1 : 0 ≤ c → c < 32 → Q 1 mem) (h0 : c < 0 ∨ 32 ≤ c → Q 0 mem) : CI E mX11_isCell k mem [aI c] Q :=
  eX11_isCell hc (rX11_isCell_0 hE ⟨fun d => h0 (Or.inl d), fun d => ⟨fun d2 => h0 (Or.inr d2), fun d2 => h1 d d2⟩⟩)
theorem m_isCell {E : EN} (hE : Ep E) {k : Nat} {mem : Mm} {Q : Int → Mm → Prop} {c : Int} (hc : R32 c) (h1 : 0 ≤ c → c < 32 → Q 1 mem) (h0 : c < 0 ∨ 32 ≤ c → Q 0 mem) : CI E mX12_isCell (k + 1) mem [aI c] Q :=
  eX12_isCell hc (rX12_isCell_0 hE fun hr => s_in hE hr (by decide) (by decide) (fun a b => ⟨Or.inr rfl, h1 a (by omega)⟩) (fun d => ⟨Or.inl rfl, h0 (by omega)⟩))
theorem s_isFamily {E : EN} (hE : Ep E) {k : Nat} {mem : Mm} {Q : Int → Mm → Prop} {c : Int} (hc : R32 c) (h1 : 0 ≤ c → c < 6 → Q 1 mem) (h0 : c < 0 ∨ 6 ≤ c → Q 0 mem) : CI E mX11_isFamily k mem [aI c] Q :=
  eX11_isFamily hc (rX11_isFamily_0 hE ⟨fun d => h0 (Or.inl d), fun d => ⟨fun d2 => h0 (Or.inr d2), fun d2 => h1 d d2⟩⟩)
theorem s_isYesNo {E : EN} (hE : Ep E) {k : Nat} {mem : Mm} {Q : Int → Mm → Prop} {c : Int} (hc : R32 c) (h1 : c = 0 ∨ c = 1 → Q 1 mem) (h0 : ¬ (c = 0 ∨ c = 1) → Q 0 mem) : CI E mX11_isYesNo k mem [aI c] Q :=
  eX11_isYesNo hc (rX11_isYesNo_0 hE ⟨fun d => h1 (Or.inl d), fun d => ⟨fun d2 => h0 (fun q => q.elim d d2), fun d2 => h1 (Or.inr d2)⟩⟩)
def isFt (w v : Int) : Prop := (w = 0 ∧ 0 ≤ v ∧ v ≤ 3) ∨ (w = 1 ∧ 0 ≤ v ∧ v ≤ 99) ∨ (w = 2 ∧ 0 ≤ v ∧ v ≤ 1)
theorem s_isFact {E : EN} (hE : Ep E) {k : Nat} {mem : Mm} {Q : Int → Mm → Prop} {w v : Int} (hw : R32 w) (hv : R32 v) (h1 : isFt w v → Q 1 mem) (h0 : ¬ isFt w v → Q 0 mem) : CI E mX11_isFact (k + 1) mem [aI w, aI v] Q := by
  refine eX11_isFact hw hv (rX11_isFact_0 hE ⟨fun c _ => ?_, fun c _ => ?_, fun c _ => ?_, fun c => h0 fun q => by unfold isFt at q; omega⟩)
  · exact s_isWithin hE hv (by decide) (by decide) (fun d1 d2 => ⟨Or.inr rfl, h1 (Or.inl ⟨c, d1, d2⟩)⟩) (fun d => ⟨Or.inl rfl, h0 fun q => by unfold isFt at q; omega⟩)
  · exact s_isWithin hE hv (by decide) (by decide) (fun d1 d2 => ⟨Or.inr rfl, h1 (Or.inr (Or.inl ⟨c, d1, d2⟩))⟩) (fun d => ⟨Or.inl rfl, h0 fun q => by unfold isFt at q; omega⟩)
  · exact s_isYesNo hE hv (fun d => ⟨Or.inr rfl, h1 (Or.inr (Or.inr ⟨c, by omega, by omega⟩))⟩) (fun d => ⟨Or.inl rfl, h0 fun q => by unfold isFt at q; omega⟩)
theorem m_canBe {E : EN} (hE : Ep E) {k : Nat} {mem : Mm} {Q : Int → Mm → Prop} {w v : Int} (hw : R32 w) (hv : R32 v) (h1 : isFt w v → Q 1 mem) (h0 : ¬ isFt w v → Q 0 mem) : CI E mX12_canBe (k + 1) mem [aI w, aI v] Q := by
  refine eX12_canBe hw hv (rX12_canBe_0 hE ⟨fun c0 => ⟨fun c1 => ⟨fun c2 => h0 fun q => by unfold isFt at q; omega, fun c2 hr => ?_⟩, fun c1 hr => ?_⟩, fun c0 hr => ?_⟩)
  · exact s_in hE hr (by decide) (by decide) (fun d1 d2 => ⟨fun q => absurd q (by decide), fun _ => h1 (Or.inr (Or.inr ⟨c2, d1, d2⟩))⟩) (fun d => ⟨fun _ => h0 fun q => by unfold isFt at q; omega, fun q => absurd rfl q⟩)
  · exact s_in hE hr (by decide) (by decide) (fun d1 d2 => ⟨Or.inr rfl, h1 (Or.inr (Or.inl ⟨c1, d1, d2⟩))⟩) (fun d => ⟨Or.inl rfl, h0 fun q => by unfold isFt at q; omega⟩)
  · exact s_in hE hr (by decide) (by decide) (fun d1 d2 => ⟨Or.inr rfl, h1 (Or.inl ⟨c0, d1, d2⟩)⟩) (fun d => ⟨Or.inl rfl, h0 fun q => by unfold isFt at q; omega⟩)
