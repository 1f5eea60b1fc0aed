theorem dX11_isFact_0 : decode cX11_isFact 0 = .ok (.iload_n 0, 1) := by decide +kernel
theorem dX11_isFact_1 : decode cX11_isFact 1 = .ok (.tableswitch 47 0 2 #[27, 34, 42], 27) := by decide +kernel
theorem dX11_isFact_28 : decode cX11_isFact 28 = .ok (.iload_n 1, 1) := by decide +kernel
theorem dX11_isFact_29 : decode cX11_isFact 29 = .ok (.iconst 0, 1) := by decide +kernel
theorem dX11_isFact_30 : decode cX11_isFact 30 = .ok (.iconst 3, 1) := by decide +kernel
theorem dX11_isFact_31 : decode cX11_isFact 31 = .ok (.invokestatic 253, 3) := by decide +kernel
theorem dX11_isFact_34 : decode cX11_isFact 34 = .ok (.ireturn, 1) := by decide +kernel
theorem dX11_isFact_35 : decode cX11_isFact 35 = .ok (.iload_n 1, 1) := by decide +kernel
theorem dX11_isFact_36 : decode cX11_isFact 36 = .ok (.iconst 0, 1) := by decide +kernel
theorem dX11_isFact_37 : decode cX11_isFact 37 = .ok (.bipush 99, 2) := by decide +kernel
theorem dX11_isFact_39 : decode cX11_isFact 39 = .ok (.invokestatic 253, 3) := by decide +kernel
theorem dX11_isFact_42 : decode cX11_isFact 42 = .ok (.ireturn, 1) := by decide +kernel
theorem dX11_isFact_43 : decode cX11_isFact 43 = .ok (.iload_n 1, 1) := by decide +kernel
theorem dX11_isFact_44 : decode cX11_isFact 44 = .ok (.invokestatic 226, 3) := by decide +kernel
theorem dX11_isFact_47 : decode cX11_isFact 47 = .ok (.ireturn, 1) := by decide +kernel
theorem dX11_isFact_48 : decode cX11_isFact 48 = .ok (.iconst 0, 1) := by decide +kernel
theorem dX11_isFact_49 : decode cX11_isFact 49 = .ok (.ireturn, 1) := by decide +kernel
set_option maxRecDepth 20000 in
theorem rX11_isFact_0 {E : EN} (hE : Ep E) {k : Nat} {mem : Mm} {Q : Int → Mm → Prop} {p0 p1 : Int}
    (h : ((p0 = 0 → (R32 p1 → CI E mX11_isWithin k mem [aI p1, aI 0, aI 3] (fun r2 m1 => (r2 = 0 ∨ r2 = 1) ∧ Q r2 m1))) ∧ (p0 = 1 → (R32 p1 → CI E mX11_isWithin k mem [aI p1, aI 0, aI 99] (fun r5 m4 => (r5 = 0 ∨ r5 = 1) ∧ Q r5 m4))) ∧ (p0 = 2 → (R32 p1 → CI E mX11_isYesNo k mem [aI p1] (fun r8 m7 => (r8 = 0 ∨ r8 = 1) ∧ Q r8 m7))) ∧ (p0 < 0 ∨ 2 < p0 → Q 0 mem))) :
    VM E mX11_isFact (k + 1) mem 0 [(0, aI p0), (1, aI p1)] [] (retI Q) := by
  refine v_iload_n (pc := 0) dX11_isFact_0 0 rfl ?_
  rcases (show p0 = 0 ∨ p0 = 1 ∨ p0 = 2 ∨ (p0 < 0 ∨ 2 < p0) by omega) with c1 | c1 | c1 | c1
  · have h := h.1 c1
    refine v_tabIn (pc := 1) (tgt := 28) dX11_isFact_1 (by omega) (by omega) (by rw [c1] <;> rfl) (by decide) ?_
    refine v_iload_n (pc := 28) dX11_isFact_28 1 rfl ?_
    refine v_iconst (pc := 29) dX11_isFact_29 (by decide) ?_
    refine v_iconst (pc := 30) dX11_isFact_30 (by decide) ?_
    refine m_invSI (pc := 31) (mi' := mX11_isWithin) (rest := []) [aI p1, aI 0, aI 3] dX11_isFact_31 msX11_isWithin stX11_isWithin lkX11_253 rfl (Nat.le_of_ble_eq_true rfl) (fun hn => CI_mono (h (aaI hn 0 rfl)) (fun r2 m1 h => ?_))
    obtain ⟨o3, h⟩ := h
    exact m_retZ (pc := 34) dX11_isFact_34 rfl o3 h
  · have h := h.2.1 c1
    refine v_tabIn (pc := 1) (tgt := 35) dX11_isFact_1 (by omega) (by omega) (by rw [c1] <;> rfl) (by decide) ?_
    refine v_iload_n (pc := 35) dX11_isFact_35 1 rfl ?_
    refine v_iconst (pc := 36) dX11_isFact_36 (by decide) ?_
    refine v_bipush (pc := 37) dX11_isFact_37 (by decide) ?_
    refine m_invSI (pc := 39) (mi' := mX11_isWithin) (rest := []) [aI p1, aI 0, aI 99] dX11_isFact_39 msX11_isWithin stX11_isWithin lkX11_253 rfl (Nat.le_of_ble_eq_true rfl) (fun hn => CI_mono (h (aaI hn 0 rfl)) (fun r5 m4 h => ?_))
    obtain ⟨o6, h⟩ := h
    exact m_retZ (pc := 42) dX11_isFact_42 rfl o6 h
  · have h := h.2.2.1 c1
    refine v_tabIn (pc := 1) (tgt := 43) dX11_isFact_1 (by omega) (by omega) (by rw [c1] <;> rfl) (by decide) ?_
    refine v_iload_n (pc := 43) dX11_isFact_43 1 rfl ?_
    refine m_invSI (pc := 44) (mi' := mX11_isYesNo) (rest := []) [aI p1] dX11_isFact_44 msX11_isYesNo stX11_isYesNo lkX11_226 rfl (Nat.le_of_ble_eq_true rfl) (fun hn => CI_mono (h (aaI hn 0 rfl)) (fun r8 m7 h => ?_))
    obtain ⟨o9, h⟩ := h
    exact m_retZ (pc := 47) dX11_isFact_47 rfl o9 h
  · have h := h.2.2.2 c1
    refine v_tabOut (pc := 1) (tgt := 48) dX11_isFact_1 c1 (by decide) ?_
    refine v_iconst (pc := 48) dX11_isFact_48 (by decide) ?_
    exact m_retZ (pc := 49) dX11_isFact_49 rfl (by decide) h
theorem eX11_isFact {E : EN} {k : Nat} {mem : Mm} {Q : Int → Mm → Prop} {p0 p1 : Int} (hr_p0 : R32 p0) (hr_p1 : R32 p1) (h : VM E mX11_isFact (k + 1) mem 0 [(0, aI p0), (1, aI p1)] [] (retI Q)) : CI E mX11_isFact (k + 1) mem [aI p0, aI p1] Q := CI_of rfl (Nat.le_of_ble_eq_true rfl) h (aNs_c (aNr_I hr_p0) (aNs_c (aNr_I hr_p1) (fun _ q => nomatch q)))

theorem dX11_isTerm_0 : decode cX11_isTerm 0 = .ok (.iload_n 0, 1) := by decide +kernel
theorem dX11_isTerm_1 : decode cX11_isTerm 1 = .ok (.tableswitch 64 0 3 #[31, 40, 48, 56], 31) := by decide +kernel
theorem dX11_isTerm_32 : decode cX11_isTerm 32 = .ok (.iload_n 1, 1) := by decide +kernel
theorem dX11_isTerm_33 : decode cX11_isTerm 33 = .ok (.iconst 0, 1) := by decide +kernel
theorem dX11_isTerm_34 : decode cX11_isTerm 34 = .ok (.sipush 999, 3) := by decide +kernel
theorem dX11_isTerm_37 : decode cX11_isTerm 37 = .ok (.invokestatic 253, 3) := by decide +kernel
theorem dX11_isTerm_40 : decode cX11_isTerm 40 = .ok (.ireturn, 1) := by decide +kernel
theorem dX11_isTerm_41 : decode cX11_isTerm 41 = .ok (.iload_n 1, 1) := by decide +kernel
theorem dX11_isTerm_42 : decode cX11_isTerm 42 = .ok (.iconst 1, 1) := by decide +kernel
theorem dX11_isTerm_43 : decode cX11_isTerm 43 = .ok (.bipush 99, 2) := by decide +kernel
theorem dX11_isTerm_45 : decode cX11_isTerm 45 = .ok (.invokestatic 253, 3) := by decide +kernel
theorem dX11_isTerm_48 : decode cX11_isTerm 48 = .ok (.ireturn, 1) := by decide +kernel
theorem dX11_isTerm_49 : decode cX11_isTerm 49 = .ok (.iload_n 1, 1) := by decide +kernel
theorem dX11_isTerm_50 : decode cX11_isTerm 50 = .ok (.iconst 0, 1) := by decide +kernel
theorem dX11_isTerm_51 : decode cX11_isTerm 51 = .ok (.bipush 10, 2) := by decide +kernel
theorem dX11_isTerm_53 : decode cX11_isTerm 53 = .ok (.invokestatic 253, 3) := by decide +kernel
theorem dX11_isTerm_56 : decode cX11_isTerm 56 = .ok (.ireturn, 1) := by decide +kernel
theorem dX11_isTerm_57 : decode cX11_isTerm 57 = .ok (.iload_n 1, 1) := by decide +kernel
theorem dX11_isTerm_58 : decode cX11_isTerm 58 = .ok (.iconst 0, 1) := by decide +kernel
theorem dX11_isTerm_59 : decode cX11_isTerm 59 = .ok (.bipush 9, 2) := by decide +kernel
theorem dX11_isTerm_61 : decode cX11_isTerm 61 = .ok (.invokestatic 253, 3) := by decide +kernel
theorem dX11_isTerm_64 : decode cX11_isTerm 64 = .ok (.ireturn, 1) := by decide +kernel
theorem dX11_isTerm_65 : decode cX11_isTerm 65 = .ok (.iconst 0, 1) := by decide +kernel
theorem dX11_isTerm_66 : decode cX11_isTerm 66 = .ok (.ireturn, 1) := by decide +kernel
set_option maxRecDepth 20000 in
theorem rX11_isTerm_0 {E : EN} (hE : Ep E) {k : Nat} {mem : Mm} {Q : Int → Mm → Prop} {p0 p1 : Int}
    (h : ((p0 = 0 → (R32 p1 → CI E mX11_isWithin k mem [aI p1, aI 0, aI 999] (fun r2 m1 => (r2 = 0 ∨ r2 = 1) ∧ Q r2 m1))) ∧ (p0 = 1 → (R32 p1 → CI E mX11_isWithin k mem [aI p1, aI 1, aI 99] (fun r5 m4 => (r5 = 0 ∨ r5 = 1) ∧ Q r5 m4))) ∧ (p0 = 2 → (R32 p1 → CI E mX11_isWithin k mem [aI p1, aI 0, aI 10] (fun r8 m7 => (r8 = 0 ∨ r8 = 1) ∧ Q r8 m7))) ∧ (p0 = 3 → (R32 p1 → CI E mX11_isWithin k mem [aI p1, aI 0, aI 9] (fun r11 m10 => (r11 = 0 ∨ r11 = 1) ∧ Q r11 m10))) ∧ (p0 < 0 ∨ 3 < p0 → Q 0 mem))) :
    VM E mX11_isTerm (k + 1) mem 0 [(0, aI p0), (1, aI p1)] [] (retI Q) := by
  refine v_iload_n (pc := 0) dX11_isTerm_0 0 rfl ?_
  rcases (show p0 = 0 ∨ p0 = 1 ∨ p0 = 2 ∨ p0 = 3 ∨ (p0 < 0 ∨ 3 < p0) by omega) with c1 | c1 | c1 | c1 | c1
  · have h := h.1 c1
    refine v_tabIn (pc := 1) (tgt := 32) dX11_isTerm_1 (by omega) (by omega) (by rw [c1] <;> rfl) (by decide) ?_
    refine v_iload_n (pc := 32) dX11_isTerm_32 1 rfl ?_
    refine v_iconst (pc := 33) dX11_isTerm_33 (by decide) ?_
    refine v_sipush (pc := 34) dX11_isTerm_34 (by decide) ?_
    refine m_invSI (pc := 37) (mi' := mX11_isWithin) (rest := []) [aI p1, aI 0, aI 999] dX11_isTerm_37 msX11_isWithin stX11_isWithin lkX11_253 rfl (Nat.le_of_ble_eq_true rfl) (fun hn => CI_mono (h (aaI hn 0 rfl)) (fun r2 m1 h => ?_))
    obtain ⟨o3, h⟩ := h
    exact m_retZ (pc := 40) dX11_isTerm_40 rfl o3 h
  · have h := h.2.1 c1
    refine v_tabIn (pc := 1) (tgt := 41) dX11_isTerm_1 (by omega) (by omega) (by rw [c1] <;> rfl) (by decide) ?_
    refine v_iload_n (pc := 41) dX11_isTerm_41 1 rfl ?_
    refine v_iconst (pc := 42) dX11_isTerm_42 (by decide) ?_
    refine v_bipush (pc := 43) dX11_isTerm_43 (by decide) ?_
    refine m_invSI (pc := 45) (mi' := mX11_isWithin) (rest := []) [aI p1, aI 1, aI 99] dX11_isTerm_45 msX11_isWithin stX11_isWithin lkX11_253 rfl (Nat.le_of_ble_eq_true rfl) (fun hn => CI_mono (h (aaI hn 0 rfl)) (fun r5 m4 h => ?_))
    obtain ⟨o6, h⟩ := h
    exact m_retZ (pc := 48) dX11_isTerm_48 rfl o6 h
  · have h := h.2.2.1 c1
    refine v_tabIn (pc := 1) (tgt := 49) dX11_isTerm_1 (by omega) (by omega) (by rw [c1] <;> rfl) (by decide) ?_
    refine v_iload_n (pc := 49) dX11_isTerm_49 1 rfl ?_
    refine v_iconst (pc := 50) dX11_isTerm_50 (by decide) ?_
    refine v_bipush (pc := 51) dX11_isTerm_51 (by decide) ?_
    refine m_invSI (pc := 53) (mi' := mX11_isWithin) (rest := []) [aI p1, aI 0, aI 10] dX11_isTerm_53 msX11_isWithin stX11_isWithin lkX11_253 rfl (Nat.le_of_ble_eq_true rfl) (fun hn => CI_mono (h (aaI hn 0 rfl)) (fun r8 m7 h => ?_))
    obtain ⟨o9, h⟩ := h
    exact m_retZ (pc := 56) dX11_isTerm_56 rfl o9 h
  · have h := h.2.2.2.1 c1
    refine v_tabIn (pc := 1) (tgt := 57) dX11_isTerm_1 (by omega) (by omega) (by rw [c1] <;> rfl) (by decide) ?_
    refine v_iload_n (pc := 57) dX11_isTerm_57 1 rfl ?_
    refine v_iconst (pc := 58) dX11_isTerm_58 (by decide) ?_
    refine v_bipush (pc := 59) dX11_isTerm_59 (by decide) ?_
    refine m_invSI (pc := 61) (mi' := mX11_isWithin) (rest := []) [aI p1, aI 0, aI 9] dX11_isTerm_61 msX11_isWithin stX11_isWithin lkX11_253 rfl (Nat.le_of_ble_eq_true rfl) (fun hn => CI_mono (h (aaI hn 0 rfl)) (fun r11 m10 h => ?_))
    obtain ⟨o12, h⟩ := h
    exact m_retZ (pc := 64) dX11_isTerm_64 rfl o12 h
  · have h := h.2.2.2.2 c1
    refine v_tabOut (pc := 1) (tgt := 65) dX11_isTerm_1 c1 (by decide) ?_
    refine v_iconst (pc := 65) dX11_isTerm_65 (by decide) ?_
    exact m_retZ (pc := 66) dX11_isTerm_66 rfl (by decide) h
theorem eX11_isTerm {E : EN} {k : Nat} {mem : Mm} {Q : Int → Mm → Prop} {p0 p1 : Int} (hr_p0 : R32 p0) (hr_p1 : R32 p1) (h : VM E mX11_isTerm (k + 1) mem 0 [(0, aI p0), (1, aI p1)] [] (retI Q)) : CI E mX11_isTerm (k + 1) mem [aI p0, aI p1] Q := CI_of rfl (Nat.le_of_ble_eq_true rfl) h (aNs_c (aNr_I hr_p0) (aNs_c (aNr_I hr_p1) (fun _ q => nomatch q)))
