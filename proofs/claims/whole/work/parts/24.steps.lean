-- the small pairs, for any invariant: hT is 'thrown is set to 0'
theorem no_args {av : List Int} (h : av.length = 0) : av = [] := List.length_eq_zero_iff.mp h
theorem one_arg {av : List Int} (h : av.length = 1) : ∃ a, av = [a] := List.length_eq_one_iff.mp h
theorem st_moles {E : EN} (hE : Ep E) {INV : Nat → Mm → Prop} (hT : ∀ t m, INV t m → INV (t + 1) (aUp m 603 0 0)) (h1 : ∀ t m, INV t m → m 0 11 = m 603 11) : stI E 1199 INV mX11_moles mX12_moles 0 := by
  intro t mem av ht hl hr hI
  obtain rfl := no_args hl
  exact eX11_moles (rX11_moles_0 hE (eX12_moles (rX12_moles_0 hE ⟨h1 t mem hI, hT t mem hI⟩)))
theorem st_fault {E : EN} (hE : Ep E) {INV : Nat → Mm → Prop} (hT : ∀ t m, INV t m → INV (t + 1) (aUp m 603 0 0)) (h1 : ∀ t m, INV t m → m 0 12 = m 603 18) : stI E 1199 INV mX11_fault mX12_fault 0 := by
  intro t mem av ht hl hr hI
  obtain rfl := no_args hl
  exact eX11_fault (rX11_fault_0 hE (eX12_fault (rX12_fault_0 hE ⟨h1 t mem hI, hT t mem hI⟩)))
theorem st_stopped {E : EN} (hE : Ep E) {INV : Nat → Mm → Prop} (hT : ∀ t m, INV t m → INV (t + 1) (aUp m 603 0 0)) (h1 : ∀ t m, INV t m → m 1 9 = m 603 56) : stI E 1199 INV mX11_stopped mX12_stopped 0 := by
  intro t mem av ht hl hr hI
  obtain rfl := no_args hl
  exact eX11_stopped (rX11_stopped_0 hE (eX12_stopped (rX12_stopped_0 hE ⟨h1 t mem hI, hT t mem hI⟩)))
theorem st_blocked {E : EN} (hE : Ep E) {INV : Nat → Mm → Prop} (hT : ∀ t m, INV t m → INV (t + 1) (aUp m 603 0 0)) (h1 : ∀ t m, INV t m → m 1 6 = m 603 43) : stI E 1199 INV mX11_blocked mX12_blocked 0 := by
  intro t mem av ht hl hr hI
  obtain rfl := no_args hl
  exact eX11_blocked (rX11_blocked_0 hE (eX12_blocked (rX12_blocked_0 hE ⟨h1 t mem hI, hT t mem hI⟩)))
theorem st_status {E : EN} (hE : Ep E) {INV : Nat → Mm → Prop} (hT : ∀ t m, INV t m → INV (t + 1) (aUp m 603 0 0)) (h1 : ∀ t m, INV t m → m 0 13 = m 603 1) : stI E 1199 INV mX11_status mX12_status 0 := by
  intro t mem av ht hl hr hI
  obtain rfl := no_args hl
  exact eX11_status (rX11_status_0 hE (eX12_status (rX12_status_0 hE ⟨h1 t mem hI, hT t mem hI⟩)))
theorem st_end {E : EN} (hE : Ep E) {INV : Nat → Mm → Prop} (hT : ∀ t m, INV t m → INV (t + 1) (aUp m 603 0 0)) (h1 : ∀ t m, INV t m → m 591 2 = m 603 13) (h2 : ∀ t m p, INV t m → 0 ≤ p → p ≤ m 591 2 → INV (t + 1) (aUp (aUp (aUp m 591 2 p) 603 0 0) 603 13 p)) : stI E 1199 INV mX11_end mX12_end 1 := by
  intro t mem av ht hl hr hI
  obtain ⟨p, rfl⟩ := one_arg hl
  have hp : R32 p := hr p (List.mem_singleton.mpr rfl)
  have e1 := h1 t mem hI
  have e2 : aUp mem 591 2 p 603 13 = mem 603 13 := aUp_rn (by decide)
  refine eX11_end hp (rX11_end_0 hE ⟨fun c => ?_, fun c => ⟨fun d => ?_, fun d => ?_⟩⟩)
  · exact eX12_end hp (rX12_end_0 hE ⟨fun _ => ⟨rfl, hT t mem hI⟩, fun d => absurd d (by omega)⟩)
  · refine eX12_end hp (rX12_end_0 hE ⟨fun d2 => absurd d2 (by omega), fun _ => ⟨fun _ => ⟨rfl, h2 t mem p hI c d⟩, fun d2 => ?_⟩⟩)
    rw [e2] at d2
    exact absurd d2 (by omega)
  · refine eX12_end hp (rX12_end_0 hE ⟨fun d2 => absurd d2 (by omega), fun _ => ⟨fun d2 => ?_, fun _ => ⟨rfl, hT t mem hI⟩⟩⟩)
    exact absurd d2 (by omega)
