-- pairs that look, and the short ones that change little
theorem aUp_nn {m : Mm} {a j v o i : Int} (h : ¬ (o = a ∧ i = j)) : aUp m a j v o i = m o i := (aUp_at _ _ _ _ _ _).trans (if_neg h)
theorem kOK {o i : Int} (a : o ≠ 0) (b : o ≠ 602) (c : o ≠ 604) (d : o ≠ 603) : isK o i := by unfold isK; omega
/-- jC after a change of the tapes alone -/
theorem jC_tape {m m2 : Mm} (hC : jC m) (hT : iTp m2) (h : ∀ o i, o ≠ 592 → o ≠ 612 → ¬ (o = 591 ∧ i = 2) → ¬ (o = 603 ∧ i = 13) → isK o i → m2 o i = m o i) : jC m2 := by
  have e5 : m2 605 = m 605 := funext fun i => h 605 i (by decide) (by decide) (by omega) (by omega) (kOK (by decide) (by decide) (by decide) (by decide))
  have lo : ∀ o i, 2 ≤ o → o ≤ 590 → m2 o i = m o i := fun o i a b => h o i (by omega) (by omega) (by omega) (by omega) (kOK (by omega) (by omega) (by omega) (by omega))
  have k3 : ∀ i, i ≠ 0 → i ≠ 1 → i ≠ 13 → m2 603 i = m 603 i := fun i a b c => h 603 i (by decide) (by decide) (by omega) (by omega) (by unfold isK; omega)
  have hi : ∀ o i, 605 ≤ o → o ≠ 612 → m2 o i = m o i := fun o i a b => h o i (by omega) b (by omega) (by omega) (kOK (by omega) (by omega) (by omega) (by omega))
  refine jC_yard hC (fun o i _ v w1 w2 w3 w4 w5 w6 w7 w8 w9 w10 => h o i w6 w7 (fun q => w5 q.1) (fun q => w8 ⟨q.1, by omega⟩) v) (fun i _ => by rw [e5]) (by rw [e5]; exact hC.2.2.1.1) (by rw [e5]; exact yR_fr hC.2.2.1.2.1 (lo _ _ (by decide) (by decide)) fun o i a b => lo o i (by omega) (by omega)) (lo 2 9 (by decide) (by decide)) (iPast_cg hC.2.2.2.2.1 (fun o i a b => lo o i (by omega) (by omega)) (fun i _ _ => by rw [e5]) (fun i _ => hi 608 i (by decide) (by decide)) (fun i => hi 609 i (by decide) (by decide)) (k3 8 (by decide) (by decide) (by decide)) fun i => lo 186 i (by decide) (by decide)) (iC_sm hC.2.1 (fun i q => h 0 i (by decide) (by decide) (by omega) (by omega) (by unfold isK; omega)) (fun i q => h 1 i (by decide) (by decide) (by omega) (by omega) (kOK (by decide) (by decide) (by decide) (by decide))) fun i q => k3 i (by omega) (by omega) (by omega)) hT
theorem ss_moles {E : EN} (hE : Ep E) : stI E 1199 (iAll jC) mX11_moles mX12_moles 0 := st_moles hE (fun _ _ h => iAll_thr jC_iFr h) fun _ _ h => h.2.2.1.1
theorem ss_fault {E : EN} (hE : Ep E) : stI E 1199 (iAll jC) mX11_fault mX12_fault 0 := st_fault hE (fun _ _ h => iAll_thr jC_iFr h) fun _ _ h => h.2.2.1.2.1
theorem ss_stopped {E : EN} (hE : Ep E) : stI E 1199 (iAll jC) mX11_stopped mX12_stopped 0 := st_stopped hE (fun _ _ h => iAll_thr jC_iFr h) fun _ _ h => h.2.2.1.2.2.1
theorem ss_blocked {E : EN} (hE : Ep E) : stI E 1199 (iAll jC) mX11_blocked mX12_blocked 0 := st_blocked hE (fun _ _ h => iAll_thr jC_iFr h) fun _ _ h => h.2.2.1.2.2.2.1
theorem ss_status {E : EN} (hE : Ep E) : stI E 1199 (iAll jC) mX11_status mX12_status 0 := st_status hE (fun _ _ h => iAll_thr jC_iFr h) fun _ _ h => h.1.1
theorem ss_feed {E : EN} (hE : Ep E) : stI E 1199 (iAll jC) mX11_feed mX12_feed 5 := st_feed hE jC_iFr (fun _ h => h.1) fun _ _ h ht hf => jC_tape h ht hf
theorem ss_end {E : EN} (hE : Ep E) : stI E 1199 (iAll jC) mX11_end mX12_end 1 := st_end hE (fun _ _ h => iAll_thr jC_iFr h) (fun _ _ h => h.2.1.1) fun t m p h a b => by
  obtain ⟨t1, t2, t3, t4⟩ := h.2.1
  refine ⟨iRf_fr ?_ (fun j => ?_) (fun j => ?_) h.1, jC_tape h.2 ⟨?_, ?_, ?_, fun i u v => ?_⟩ fun o i a b c d e => ?_⟩
  · rw [aUp_nn (by omega), aUp_nn (by omega), aUp_nn (by omega), aUp_nn (by omega), aUp_nn (by omega), aUp_nn (by omega)]; exact h.1.1
  · rw [aUp_nn (by omega), aUp_nn (by omega), aUp_nn (by omega)]
  · rw [aUp_nn (by omega), aUp_nn (by omega), aUp_nn (by omega)]
  · rw [aUp_re, aUp_nn (by omega), aUp_nn (by omega), aUp_re]
  · rw [aUp_nn (by omega), aUp_nn (by omega), aUp_re]; exact a
  · rw [aUp_nn (by omega), aUp_nn (by omega), aUp_re]; omega
  · rw [aUp_nn (by omega), aUp_nn (by omega), aUp_re] at v
    rw [aUp_nn (by omega), aUp_nn (by omega), aUp_nn (by omega), aUp_nn (by omega), aUp_nn (by omega), aUp_nn (by omega)]
    exact t4 i u (by omega)
  · rw [aUp_nn d, K_thr e, aUp_nn c]
theorem ss_at {E : EN} (hE : Ep E) : stI E 1199 (iAll jC) mX11_at mX12_at 2 := st_at hE jC_iFr fun m h => by
  obtain ⟨o1, o2, o3, o4, o5, o6, o7, o8, o9, o10, o11, o12, o13⟩ := h.2.2.1.1
  obtain ⟨a, b, c, d⟩ := h.2.2.1.2.1
  exact ⟨b, a, o1, o2, fun p u v => (c p u v).1, o13⟩
theorem ss_forget {E : EN} (hE : Ep E) : stI E 1199 (iAll jC) mX11_forget mX12_forget 0 := st_forget hE jC_iFr (fun m h => h.2.2.1.2.2.1.1) fun m hC => by
  obtain ⟨f1, f2, f3, f4⟩ := hC.2.2.1.2.2.1
  have r5 : ∀ i, i ≠ 0 → (aUp (aUp m 349 0 0) 605 0 0) 605 i = m 605 i := fun i q => by rw [aUp_nn (by omega), aUp_nn (by omega)]
  have ot : ∀ o i, o ≠ 349 → o ≠ 605 → (aUp (aUp m 349 0 0) 605 0 0) o i = m o i := fun o i q w => by rw [aUp_nn (by omega), aUp_nn (by omega)]
  refine jC_all hC (fun o i w1 w2 w3 w4 w5 _ _ _ _ _ _ _ _ => ot o i (by omega) w5) ⟨rOk_cg (fun i p q => r5 i (by omega)) hC.2.2.1.1, yR_cg (fun i p q => r5 i (by omega)) (yR_fr hC.2.2.1.2.1 (ot _ _ (by decide) (by decide)) fun o i a b => ot o i (by omega) (by omega)), ⟨?_, ?_, ?_, fun i p q => ?_⟩, lR_row (ot _ _ (by decide) (by decide)) (ot _ _ (by decide) (by decide)) (fun i q => r5 i (by omega)) (fun i o j p q w x => ot o j (by omega) (by omega)) hC.2.2.1.2.2.2⟩ ?_ (iPast_cg hC.2.2.2.2.1 (fun o i p q => ot o i (by omega) (by omega)) (fun i p q => r5 i (by omega)) (fun i _ => ot 608 i (by decide) (by decide)) (fun i => ot 609 i (by decide) (by decide)) (ot 603 8 (by decide) (by decide)) fun i => ot 186 i (by decide) (by decide)) (iC_sm hC.2.1 (fun i _ => ot 0 i (by decide) (by decide)) (fun i _ => ot 1 i (by decide) (by decide)) fun i q => ot 603 i (by decide) (by decide)) (iC_tp hC.1 (ot _ _ (by decide) (by decide)) (ot _ _ (by decide) (by decide)) (fun i => ot _ _ (by decide) (by decide)) fun i => ot _ _ (by decide) (by decide))
  · rw [aUp_nn (by omega), aUp_re, aUp_re]
  · rw [aUp_re]; exact Int.le_refl 0
  · rw [aUp_re]; decide
  · obtain ⟨g1, g2, g3, g4⟩ := f4 i p q
    rw [r5 _ (by omega), r5 _ (by omega), r5 _ (by omega), aUp_nn (by omega), aUp_nn (by omega), aUp_nn (by omega), aUp_nn (by omega), aUp_nn (by omega), aUp_nn (by omega)]
    exact ⟨g1, g2, g3, g4⟩
  · unfold iLw
    rw [r5 2 (by decide), ot 2 9 (by decide) (by decide)]
    exact hC.2.2.2.1
