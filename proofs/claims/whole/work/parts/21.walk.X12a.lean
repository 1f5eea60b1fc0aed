theorem dX12_in_0 : decode cX12_in 0 = .ok (.lload_n 0, 1) := by decide +kernel
theorem dX12_in_1 : decode cX12_in 1 = .ok (.lload_n 2, 1) := by decide +kernel
theorem dX12_in_2 : decode cX12_in 2 = .ok (.lcmp, 1) := by decide +kernel
theorem dX12_in_3 : decode cX12_in 3 = .ok (.ifCond .lt 14, 3) := by decide +kernel
theorem dX12_in_6 : decode cX12_in 6 = .ok (.lload_n 0, 1) := by decide +kernel
theorem dX12_in_7 : decode cX12_in 7 = .ok (.lload 4, 2) := by decide +kernel
theorem dX12_in_9 : decode cX12_in 9 = .ok (.lcmp, 1) := by decide +kernel
theorem dX12_in_10 : decode cX12_in 10 = .ok (.ifCond .gt 7, 3) := by decide +kernel
theorem dX12_in_13 : decode cX12_in 13 = .ok (.iconst 1, 1) := by decide +kernel
theorem dX12_in_14 : decode cX12_in 14 = .ok (.goto 4, 3) := by decide +kernel
theorem dX12_in_17 : decode cX12_in 17 = .ok (.iconst 0, 1) := by decide +kernel
theorem dX12_in_18 : decode cX12_in 18 = .ok (.ireturn, 1) := by decide +kernel
set_option maxRecDepth 20000 in
theorem rX12_in_0 {E : EN} (hE : Ep E) {k : Nat} {mem : Mm} {Q : Int → Mm → Prop} {p0 p1 p2 : Int}
    (h : ((p0 < p1 → Q 0 mem) ∧ (p1 ≤ p0 → ((p2 < p0 → Q 0 mem) ∧ (p0 ≤ p2 → Q 1 mem))))) :
    VM E mX12_in k mem 0 [(0, aL p0), (2, aL p1), (4, aL p2)] [] (retI Q) := by
  refine v_lload_n (pc := 0) dX12_in_0 0 rfl ?_
  refine v_lload_n (pc := 1) dX12_in_1 1 rfl ?_
  refine v_lcmplt (pc := 2) (tgt := 17) dX12_in_2 dX12_in_3 (by decide) (fun c1 => ?_) (fun c1 => ?_)
  · have h := h.1 c1
    refine v_iconst (pc := 17) dX12_in_17 (by decide) ?_
    exact m_retZ (pc := 18) dX12_in_18 rfl (by decide) h
  · have h := h.2 c1
    refine v_lload_n (pc := 6) dX12_in_6 0 rfl ?_
    refine v_lload (pc := 7) dX12_in_7 2 rfl ?_
    refine v_lcmpgt (pc := 9) (tgt := 17) dX12_in_9 dX12_in_10 (by decide) (fun c1 => ?_) (fun c1 => ?_)
    · have h := h.1 c1
      refine v_iconst (pc := 17) dX12_in_17 (by decide) ?_
      exact m_retZ (pc := 18) dX12_in_18 rfl (by decide) h
    · have h := h.2 c1
      refine v_iconst (pc := 13) dX12_in_13 (by decide) ?_
      refine v_goto (pc := 14) (tgt := 18) dX12_in_14 (by decide) ?_
      exact m_retZ (pc := 18) dX12_in_18 rfl (by decide) h
theorem eX12_in {E : EN} {k : Nat} {mem : Mm} {Q : Int → Mm → Prop} {p0 p1 p2 : Int} (hr_p0 : R64 p0) (hr_p1 : R64 p1) (hr_p2 : R64 p2) (h : VM E mX12_in k mem 0 [(0, aL p0), (2, aL p1), (4, aL p2)] [] (retI Q)) : CI E mX12_in k mem [aL p0, aL p1, aL p2] Q := CI_of rfl (Nat.le_of_ble_eq_true rfl) h (aNs_c (aNr_L hr_p0) (aNs_c (aNr_L hr_p1) (aNs_c (aNr_L hr_p2) (fun _ q => nomatch q))))

theorem dX12_within_0 : decode cX12_within 0 = .ok (.lload_n 0, 1) := by decide +kernel
theorem dX12_within_1 : decode cX12_within 1 = .ok (.iload_n 2, 1) := by decide +kernel
theorem dX12_within_2 : decode cX12_within 2 = .ok (.i2l, 1) := by decide +kernel
theorem dX12_within_3 : decode cX12_within 3 = .ok (.lcmp, 1) := by decide +kernel
theorem dX12_within_4 : decode cX12_within 4 = .ok (.ifCond .ge 7, 3) := by decide +kernel
theorem dX12_within_7 : decode cX12_within 7 = .ok (.iload_n 2, 1) := by decide +kernel
theorem dX12_within_8 : decode cX12_within 8 = .ok (.goto 16, 3) := by decide +kernel
theorem dX12_within_11 : decode cX12_within 11 = .ok (.lload_n 0, 1) := by decide +kernel
theorem dX12_within_12 : decode cX12_within 12 = .ok (.iload_n 3, 1) := by decide +kernel
theorem dX12_within_13 : decode cX12_within 13 = .ok (.i2l, 1) := by decide +kernel
theorem dX12_within_14 : decode cX12_within 14 = .ok (.lcmp, 1) := by decide +kernel
theorem dX12_within_15 : decode cX12_within 15 = .ok (.ifCond .le 7, 3) := by decide +kernel
theorem dX12_within_18 : decode cX12_within 18 = .ok (.iload_n 3, 1) := by decide +kernel
theorem dX12_within_19 : decode cX12_within 19 = .ok (.goto 5, 3) := by decide +kernel
theorem dX12_within_22 : decode cX12_within 22 = .ok (.lload_n 0, 1) := by decide +kernel
theorem dX12_within_23 : decode cX12_within 23 = .ok (.l2i, 1) := by decide +kernel
theorem dX12_within_24 : decode cX12_within 24 = .ok (.ireturn, 1) := by decide +kernel
set_option maxRecDepth 20000 in
theorem rX12_within_0 {E : EN} (hE : Ep E) {k : Nat} {mem : Mm} {Q : Int → Mm → Prop} {p0 p1 p2 : Int}
    (h : ((p1 ≤ p0 → ((p0 ≤ p2 → (R32 p0) ∧ Q p0 mem) ∧ (p2 < p0 → Q p2 mem))) ∧ (p0 < p1 → Q p1 mem))) :
    VM E mX12_within k mem 0 [(0, aL p0), (2, aI p1), (3, aI p2)] [] (retI Q) := by
  refine v_lload_n (pc := 0) dX12_within_0 0 rfl ?_
  refine v_iload_n (pc := 1) dX12_within_1 1 rfl ?_
  refine v_i2l (pc := 2) dX12_within_2 ?_
  refine v_lcmpge (pc := 3) (tgt := 11) dX12_within_3 dX12_within_4 (by decide) (fun c1 => ?_) (fun c1 => ?_)
  · have h := h.1 c1
    refine v_lload_n (pc := 11) dX12_within_11 0 rfl ?_
    refine v_iload_n (pc := 12) dX12_within_12 2 rfl ?_
    refine v_i2l (pc := 13) dX12_within_13 ?_
    refine v_lcmple (pc := 14) (tgt := 22) dX12_within_14 dX12_within_15 (by decide) (fun c1 => ?_) (fun c1 => ?_)
    · have h := h.1 c1
      refine v_lload_n (pc := 22) dX12_within_22 0 rfl ?_
      obtain ⟨o1, h⟩ := h
      refine m_l2i (pc := 23) dX12_within_23 o1 ?_
      exact m_retI (pc := 24) dX12_within_24 rfl h
    · have h := h.2 c1
      refine v_iload_n (pc := 18) dX12_within_18 2 rfl ?_
      refine v_goto (pc := 19) (tgt := 24) dX12_within_19 (by decide) ?_
      exact m_retI (pc := 24) dX12_within_24 rfl h
  · have h := h.2 c1
    refine v_iload_n (pc := 7) dX12_within_7 1 rfl ?_
    refine v_goto (pc := 8) (tgt := 24) dX12_within_8 (by decide) ?_
    exact m_retI (pc := 24) dX12_within_24 rfl h
theorem eX12_within {E : EN} {k : Nat} {mem : Mm} {Q : Int → Mm → Prop} {p0 p1 p2 : Int} (hr_p0 : R64 p0) (hr_p1 : R32 p1) (hr_p2 : R32 p2) (h : VM E mX12_within k mem 0 [(0, aL p0), (2, aI p1), (3, aI p2)] [] (retI Q)) : CI E mX12_within k mem [aL p0, aI p1, aI p2] Q := CI_of rfl (Nat.le_of_ble_eq_true rfl) h (aNs_c (aNr_L hr_p0) (aNs_c (aNr_I hr_p1) (aNs_c (aNr_I hr_p2) (fun _ q => nomatch q))))

theorem dX12_tell_0 : decode cX12_tell 0 = .ok (.aload_n 0, 1) := by decide +kernel
theorem dX12_tell_1 : decode cX12_tell 1 = .ok (.iload_n 1, 1) := by decide +kernel
theorem dX12_tell_2 : decode cX12_tell 2 = .ok (.ifCond .ge 7, 3) := by decide +kernel
theorem dX12_tell_5 : decode cX12_tell 5 = .ok (.iload_n 1, 1) := by decide +kernel
theorem dX12_tell_6 : decode cX12_tell 6 = .ok (.goto 4, 3) := by decide +kernel
theorem dX12_tell_9 : decode cX12_tell 9 = .ok (.iconst 0, 1) := by decide +kernel
theorem dX12_tell_10 : decode cX12_tell 10 = .ok (.putfield 165, 3) := by decide +kernel
theorem dX12_tell_13 : decode cX12_tell 13 = .ok (.iload_n 1, 1) := by decide +kernel
theorem dX12_tell_14 : decode cX12_tell 14 = .ok (.ifCond .ge 14, 3) := by decide +kernel
theorem dX12_tell_17 : decode cX12_tell 17 = .ok (.aload_n 0, 1) := by decide +kernel
theorem dX12_tell_18 : decode cX12_tell 18 = .ok (.getfield 7, 3) := by decide +kernel
theorem dX12_tell_21 : decode cX12_tell 21 = .ok (.iload_n 1, 1) := by decide +kernel
theorem dX12_tell_22 : decode cX12_tell 22 = .ok (.ineg, 1) := by decide +kernel
theorem dX12_tell_23 : decode cX12_tell 23 = .ok (.dup2, 1) := by decide +kernel
theorem dX12_tell_24 : decode cX12_tell 24 = .ok (.iaload, 1) := by decide +kernel
theorem dX12_tell_25 : decode cX12_tell 25 = .ok (.iconst 1, 1) := by decide +kernel
theorem dX12_tell_26 : decode cX12_tell 26 = .ok (.iadd, 1) := by decide +kernel
theorem dX12_tell_27 : decode cX12_tell 27 = .ok (.iastore, 1) := by decide +kernel
theorem dX12_tell_28 : decode cX12_tell 28 = .ok (.iload_n 1, 1) := by decide +kernel
theorem dX12_tell_29 : decode cX12_tell 29 = .ok (.ireturn, 1) := by decide +kernel
set_option maxRecDepth 20000 in
theorem rX12_tell_0 {E : EN} (hE : Ep E) {k : Nat} {mem : Mm} {Q : Int → Mm → Prop} {p0 : Int}
    (h : ((0 ≤ p0 → ((0 ≤ p0 → Q p0 (aUp mem 603 1 0)) ∧ (p0 < 0 → (R32 (-p0)) ∧ (0 ≤ (-p0) ∧ (-p0) < 7) ∧ (R32 ((mem 604 (-p0)) + 1)) ∧ Q p0 (aUp (aUp mem 603 1 0) 604 (-p0) ((mem 604 (-p0)) + 1))))) ∧ (p0 < 0 → ((0 ≤ p0 → Q p0 (aUp mem 603 1 p0)) ∧ (p0 < 0 → (R32 (-p0)) ∧ (0 ≤ (-p0) ∧ (-p0) < 7) ∧ (R32 ((mem 604 (-p0)) + 1)) ∧ Q p0 (aUp (aUp mem 603 1 p0) 604 (-p0) ((mem 604 (-p0)) + 1))))))) :
    VM E mX12_tell k mem 0 [(0, aR 603), (1, aI p0)] [] (retI Q) := by
  refine v_aload_n (pc := 0) dX12_tell_0 0 rfl ?_
  refine v_iload_n (pc := 1) dX12_tell_1 1 rfl ?_
  refine v_ifge (pc := 2) (tgt := 9) dX12_tell_2 (by decide) (fun c1 => ?_) (fun c1 => ?_)
  · have h := h.1 c1
    refine v_iconst (pc := 9) dX12_tell_9 (by decide) ?_
    refine v_putf (pc := 10) dX12_tell_10 flX12_165 ⟨_, _, rfl, Or.inl rfl⟩ rfl (by decide) (fun q => nomatch q) (Or.inl fun _ => rfl) at603 ?_
    refine v_iload_n (pc := 13) dX12_tell_13 1 rfl ?_
    refine v_ifge (pc := 14) (tgt := 28) dX12_tell_14 (by decide) (fun c1 => ?_) (fun c1 => ?_)
    · have h := h.1 c1
      refine v_iload_n (pc := 28) dX12_tell_28 1 rfl ?_
      exact m_retI (pc := 29) dX12_tell_29 rfl h
    · have h := h.2 c1
      refine v_aload_n (pc := 17) dX12_tell_17 0 rfl ?_
      refine m_getfin (pc := 18) (v := 604) hE dX12_tell_18 flX12_7 rfl at603 rfl ?_
      refine v_iload_n (pc := 21) dX12_tell_21 1 rfl ?_
      obtain ⟨o1, h⟩ := h
      refine m_ineg (pc := 22) dX12_tell_22 o1 ?_
      refine v_dup2 (pc := 23) dX12_tell_23 rfl rfl ?_
      obtain ⟨o2, h⟩ := h
      refine m_iald (pc := 24) (v := (mem 604 (-p0))) dX12_tell_24 at604 o2.1 o2.2 (aUp_rn (by omega)) ?_
      refine v_iconst (pc := 25) dX12_tell_25 (by decide) ?_
      obtain ⟨o3, h⟩ := h
      refine m_iadd (pc := 26) dX12_tell_26 o3 ?_
      refine v_iast (pc := 27) dX12_tell_27 at604 o2.1 o2.2 ?_
      refine v_iload_n (pc := 28) dX12_tell_28 1 rfl ?_
      exact m_retI (pc := 29) dX12_tell_29 rfl h
  · have h := h.2 c1
    refine v_iload_n (pc := 5) dX12_tell_5 1 rfl ?_
    refine v_goto (pc := 6) (tgt := 10) dX12_tell_6 (by decide) ?_
    refine v_putf (pc := 10) dX12_tell_10 flX12_165 ⟨_, _, rfl, Or.inl rfl⟩ rfl (by decide) (fun q => nomatch q) (Or.inl fun _ => rfl) at603 ?_
    refine v_iload_n (pc := 13) dX12_tell_13 1 rfl ?_
    refine v_ifge (pc := 14) (tgt := 28) dX12_tell_14 (by decide) (fun c1 => ?_) (fun c1 => ?_)
    · have h := h.1 c1
      refine v_iload_n (pc := 28) dX12_tell_28 1 rfl ?_
      exact m_retI (pc := 29) dX12_tell_29 rfl h
    · have h := h.2 c1
      refine v_aload_n (pc := 17) dX12_tell_17 0 rfl ?_
      refine m_getfin (pc := 18) (v := 604) hE dX12_tell_18 flX12_7 rfl at603 rfl ?_
      refine v_iload_n (pc := 21) dX12_tell_21 1 rfl ?_
      obtain ⟨o4, h⟩ := h
      refine m_ineg (pc := 22) dX12_tell_22 o4 ?_
      refine v_dup2 (pc := 23) dX12_tell_23 rfl rfl ?_
      obtain ⟨o5, h⟩ := h
      refine m_iald (pc := 24) (v := (mem 604 (-p0))) dX12_tell_24 at604 o5.1 o5.2 (aUp_rn (by omega)) ?_
      refine v_iconst (pc := 25) dX12_tell_25 (by decide) ?_
      obtain ⟨o6, h⟩ := h
      refine m_iadd (pc := 26) dX12_tell_26 o6 ?_
      refine v_iast (pc := 27) dX12_tell_27 at604 o5.1 o5.2 ?_
      refine v_iload_n (pc := 28) dX12_tell_28 1 rfl ?_
      exact m_retI (pc := 29) dX12_tell_29 rfl h
theorem eX12_tell {E : EN} {k : Nat} {mem : Mm} {Q : Int → Mm → Prop} {p0 : Int} (hr_p0 : R32 p0) (h : VM E mX12_tell k mem 0 [(0, aR 603), (1, aI p0)] [] (retI Q)) : CI E mX12_tell k mem [aR 603, aI p0] Q := CI_of rfl (Nat.le_of_ble_eq_true rfl) h (aNs_c (aNr_R _) (aNs_c (aNr_I hr_p0) (fun _ q => nomatch q)))

theorem dX12_change_0 : decode cX12_change 0 = .ok (.aload_n 0, 1) := by decide +kernel
theorem dX12_change_1 : decode cX12_change 1 = .ok (.getfield 13, 3) := by decide +kernel
theorem dX12_change_4 : decode cX12_change 4 = .ok (.iload_n 1, 1) := by decide +kernel
theorem dX12_change_5 : decode cX12_change 5 = .ok (.iaload, 1) := by decide +kernel
theorem dX12_change_6 : decode cX12_change 6 = .ok (.istore_n 3, 1) := by decide +kernel
theorem dX12_change_7 : decode cX12_change 7 = .ok (.aload_n 0, 1) := by decide +kernel
theorem dX12_change_8 : decode cX12_change 8 = .ok (.getfield 13, 3) := by decide +kernel
theorem dX12_change_11 : decode cX12_change 11 = .ok (.iload_n 1, 1) := by decide +kernel
theorem dX12_change_12 : decode cX12_change 12 = .ok (.iload_n 2, 1) := by decide +kernel
theorem dX12_change_13 : decode cX12_change 13 = .ok (.iastore, 1) := by decide +kernel
theorem dX12_change_14 : decode cX12_change 14 = .ok (.aload_n 0, 1) := by decide +kernel
theorem dX12_change_15 : decode cX12_change 15 = .ok (.iconst 0, 1) := by decide +kernel
theorem dX12_change_16 : decode cX12_change 16 = .ok (.putfield 165, 3) := by decide +kernel
theorem dX12_change_19 : decode cX12_change 19 = .ok (.iload_n 3, 1) := by decide +kernel
theorem dX12_change_20 : decode cX12_change 20 = .ok (.ireturn, 1) := by decide +kernel
set_option maxRecDepth 20000 in
theorem rX12_change_0 {E : EN} (hE : Ep E) {k : Nat} {mem : Mm} {Q : Int → Mm → Prop} {p0 p1 : Int}
    (h : (0 ≤ p0 ∧ p0 < 5570) ∧ Q (mem 605 p0) (aUp (aUp mem 605 p0 p1) 603 1 0)) :
    VM E mX12_change k mem 0 [(0, aR 603), (1, aI p0), (2, aI p1)] [] (retI Q) := by
  refine v_aload_n (pc := 0) dX12_change_0 0 rfl ?_
  refine m_getfin (pc := 1) (v := 605) hE dX12_change_1 flX12_13 rfl at603 rfl ?_
  refine v_iload_n (pc := 4) dX12_change_4 1 rfl ?_
  obtain ⟨o1, h⟩ := h
  refine m_iald (pc := 5) (v := (mem 605 p0)) dX12_change_5 at605 o1.1 o1.2 rfl ?_
  refine v_istore_n (pc := 6) (al2 := [(3, aI (mem 605 p0)), (0, aR 603), (1, aI p0), (2, aI p1)]) dX12_change_6 (by decide) rfl ?_
  refine v_aload_n (pc := 7) dX12_change_7 1 rfl ?_
  refine m_getfin (pc := 8) (v := 605) hE dX12_change_8 flX12_13 rfl at603 rfl ?_
  refine v_iload_n (pc := 11) dX12_change_11 2 rfl ?_
  refine v_iload_n (pc := 12) dX12_change_12 3 rfl ?_
  refine v_iast (pc := 13) dX12_change_13 at605 o1.1 o1.2 ?_
  refine v_aload_n (pc := 14) dX12_change_14 1 rfl ?_
  refine v_iconst (pc := 15) dX12_change_15 (by decide) ?_
  refine v_putf (pc := 16) dX12_change_16 flX12_165 ⟨_, _, rfl, Or.inl rfl⟩ rfl (by decide) (fun q => nomatch q) (Or.inl fun _ => rfl) at603 ?_
  refine v_iload_n (pc := 19) dX12_change_19 0 rfl ?_
  exact m_retI (pc := 20) dX12_change_20 rfl h
theorem eX12_change {E : EN} {k : Nat} {mem : Mm} {Q : Int → Mm → Prop} {p0 p1 : Int} (hr_p0 : R32 p0) (hr_p1 : R32 p1) (h : VM E mX12_change k mem 0 [(0, aR 603), (1, aI p0), (2, aI p1)] [] (retI Q)) : CI E mX12_change k mem [aR 603, aI p0, aI p1] Q := CI_of rfl (Nat.le_of_ble_eq_true rfl) h (aNs_c (aNr_R _) (aNs_c (aNr_I hr_p0) (aNs_c (aNr_I hr_p1) (fun _ q => nomatch q))))

theorem dX12_keepAll_0 : decode cX12_keepAll 0 = .ok (.iconst 0, 1) := by decide +kernel
theorem dX12_keepAll_1 : decode cX12_keepAll 1 = .ok (.istore_n 2, 1) := by decide +kernel
theorem dX12_keepAll_2 : decode cX12_keepAll 2 = .ok (.iload_n 2, 1) := by decide +kernel
theorem dX12_keepAll_3 : decode cX12_keepAll 3 = .ok (.bipush 77, 2) := by decide +kernel
theorem dX12_keepAll_5 : decode cX12_keepAll 5 = .ok (.if_icmp .ge 28, 3) := by decide +kernel
theorem dX12_keepAll_8 : decode cX12_keepAll 8 = .ok (.aload_n 0, 1) := by decide +kernel
theorem dX12_keepAll_9 : decode cX12_keepAll 9 = .ok (.getfield 23, 3) := by decide +kernel
theorem dX12_keepAll_12 : decode cX12_keepAll 12 = .ok (.bipush 77, 2) := by decide +kernel
theorem dX12_keepAll_14 : decode cX12_keepAll 14 = .ok (.iload_n 1, 1) := by decide +kernel
theorem dX12_keepAll_15 : decode cX12_keepAll 15 = .ok (.imul, 1) := by decide +kernel
theorem dX12_keepAll_16 : decode cX12_keepAll 16 = .ok (.iload_n 2, 1) := by decide +kernel
theorem dX12_keepAll_17 : decode cX12_keepAll 17 = .ok (.iadd, 1) := by decide +kernel
theorem dX12_keepAll_18 : decode cX12_keepAll 18 = .ok (.aload_n 0, 1) := by decide +kernel
theorem dX12_keepAll_19 : decode cX12_keepAll 19 = .ok (.getfield 13, 3) := by decide +kernel
theorem dX12_keepAll_22 : decode cX12_keepAll 22 = .ok (.iconst 3, 1) := by decide +kernel
theorem dX12_keepAll_23 : decode cX12_keepAll 23 = .ok (.iload_n 2, 1) := by decide +kernel
theorem dX12_keepAll_24 : decode cX12_keepAll 24 = .ok (.iadd, 1) := by decide +kernel
theorem dX12_keepAll_25 : decode cX12_keepAll 25 = .ok (.iaload, 1) := by decide +kernel
theorem dX12_keepAll_26 : decode cX12_keepAll 26 = .ok (.iastore, 1) := by decide +kernel
theorem dX12_keepAll_27 : decode cX12_keepAll 27 = .ok (.iinc 2 1, 3) := by decide +kernel
theorem dX12_keepAll_30 : decode cX12_keepAll 30 = .ok (.goto (-28), 3) := by decide +kernel
theorem dX12_keepAll_33 : decode cX12_keepAll 33 = .ok (.return_, 1) := by decide +kernel
set_option maxRecDepth 20000 in
theorem rX12_keepAll_0 {E : EN} (hE : Ep E) {k : Nat} {mem : Mm} {Q : Mm → Prop} {p0 : Int}
    (h : VM E mX12_keepAll k mem 2 [(0, aR 603), (1, aI p0), (2, aI 0)] [] (retV Q)) :
    VM E mX12_keepAll k mem 0 [(0, aR 603), (1, aI p0)] [] (retV Q) := by
  refine v_iconst (pc := 0) dX12_keepAll_0 (by decide) ?_
  refine v_istore_n (pc := 1) (al2 := [(2, aI 0), (0, aR 603), (1, aI p0)]) dX12_keepAll_1 (by decide) rfl ?_
  exact VG_sub (al' := [(0, aR 603), (1, aI p0), (2, aI 0)]) [1, 2, 0] rfl h
theorem eX12_keepAll {E : EN} {k : Nat} {mem : Mm} {Q : Mm → Prop} {p0 : Int} (hr_p0 : R32 p0) (h : VM E mX12_keepAll k mem 0 [(0, aR 603), (1, aI p0)] [] (retV Q)) : CV E mX12_keepAll k mem [aR 603, aI p0] Q := CV_of rfl (Nat.le_of_ble_eq_true rfl) h (aNs_c (aNr_R _) (aNs_c (aNr_I hr_p0) (fun _ q => nomatch q)))
set_option maxRecDepth 20000 in
theorem rX12_keepAll_2 {E : EN} (hE : Ep E) {k : Nat} {mem : Mm} {Q : Mm → Prop} {p0 x2 : Int}
    (h : ((77 ≤ x2 → Q mem) ∧ (x2 < 77 → (R32 (77 * p0)) ∧ (R32 ((77 * p0) + x2)) ∧ (R32 (3 + x2)) ∧ (0 ≤ (3 + x2) ∧ (3 + x2) < 5570) ∧ (0 ≤ ((77 * p0) + x2) ∧ ((77 * p0) + x2) < 1386) ∧ (R32 (x2 + 1)) ∧ VM E mX12_keepAll k (aUp mem 608 ((77 * p0) + x2) (mem 605 (3 + x2))) 2 [(0, aR 603), (1, aI p0), (2, aI (x2 + 1))] [] (retV Q)))) :
    VM E mX12_keepAll k mem 2 [(0, aR 603), (1, aI p0), (2, aI x2)] [] (retV Q) := by
  refine v_iload_n (pc := 2) dX12_keepAll_2 2 rfl ?_
  refine v_bipush (pc := 3) dX12_keepAll_3 (by decide) ?_
  refine v_icmpge (pc := 5) (tgt := 33) dX12_keepAll_5 (by decide) (fun c1 => ?_) (fun c1 => ?_)
  · have h := h.1 c1
    exact m_retV (pc := 33) dX12_keepAll_33 rfl h
  · have h := h.2 c1
    refine v_aload_n (pc := 8) dX12_keepAll_8 0 rfl ?_
    refine m_getfin (pc := 9) (v := 608) hE dX12_keepAll_9 flX12_23 rfl at603 rfl ?_
    refine v_bipush (pc := 12) dX12_keepAll_12 (by decide) ?_
    refine v_iload_n (pc := 14) dX12_keepAll_14 1 rfl ?_
    obtain ⟨o1, h⟩ := h
    refine m_imul (pc := 15) dX12_keepAll_15 o1 ?_
    refine v_iload_n (pc := 16) dX12_keepAll_16 2 rfl ?_
    obtain ⟨o2, h⟩ := h
    refine m_iadd (pc := 17) dX12_keepAll_17 o2 ?_
    refine v_aload_n (pc := 18) dX12_keepAll_18 0 rfl ?_
    refine m_getfin (pc := 19) (v := 605) hE dX12_keepAll_19 flX12_13 rfl at603 rfl ?_
    refine v_iconst (pc := 22) dX12_keepAll_22 (by decide) ?_
    refine v_iload_n (pc := 23) dX12_keepAll_23 2 rfl ?_
    obtain ⟨o3, h⟩ := h
    refine m_iadd (pc := 24) dX12_keepAll_24 o3 ?_
    obtain ⟨o4, h⟩ := h
    refine m_iald (pc := 25) (v := (mem 605 (3 + x2))) dX12_keepAll_25 at605 o4.1 o4.2 rfl ?_
    obtain ⟨o5, h⟩ := h
    refine v_iast (pc := 26) dX12_keepAll_26 at608 o5.1 o5.2 ?_
    obtain ⟨o6, h⟩ := h
    refine m_iinc (pc := 27) (al2 := [(2, aI (x2 + 1)), (0, aR 603), (1, aI p0)]) dX12_keepAll_27 2 rfl (by decide) o6 rfl ?_
    refine v_goto (pc := 30) (tgt := 2) dX12_keepAll_30 (by decide) ?_
    exact VG_sub (al' := [(0, aR 603), (1, aI p0), (2, aI (x2 + 1))]) [1, 2, 0] rfl h

theorem dX12_putBack_0 : decode cX12_putBack 0 = .ok (.iconst 0, 1) := by decide +kernel
theorem dX12_putBack_1 : decode cX12_putBack 1 = .ok (.istore_n 2, 1) := by decide +kernel
theorem dX12_putBack_2 : decode cX12_putBack 2 = .ok (.iload_n 2, 1) := by decide +kernel
theorem dX12_putBack_3 : decode cX12_putBack 3 = .ok (.bipush 77, 2) := by decide +kernel
theorem dX12_putBack_5 : decode cX12_putBack 5 = .ok (.if_icmp .ge 28, 3) := by decide +kernel
theorem dX12_putBack_8 : decode cX12_putBack 8 = .ok (.aload_n 0, 1) := by decide +kernel
theorem dX12_putBack_9 : decode cX12_putBack 9 = .ok (.getfield 13, 3) := by decide +kernel
theorem dX12_putBack_12 : decode cX12_putBack 12 = .ok (.iconst 3, 1) := by decide +kernel
theorem dX12_putBack_13 : decode cX12_putBack 13 = .ok (.iload_n 2, 1) := by decide +kernel
theorem dX12_putBack_14 : decode cX12_putBack 14 = .ok (.iadd, 1) := by decide +kernel
theorem dX12_putBack_15 : decode cX12_putBack 15 = .ok (.aload_n 0, 1) := by decide +kernel
theorem dX12_putBack_16 : decode cX12_putBack 16 = .ok (.getfield 23, 3) := by decide +kernel
theorem dX12_putBack_19 : decode cX12_putBack 19 = .ok (.bipush 77, 2) := by decide +kernel
theorem dX12_putBack_21 : decode cX12_putBack 21 = .ok (.iload_n 1, 1) := by decide +kernel
theorem dX12_putBack_22 : decode cX12_putBack 22 = .ok (.imul, 1) := by decide +kernel
theorem dX12_putBack_23 : decode cX12_putBack 23 = .ok (.iload_n 2, 1) := by decide +kernel
theorem dX12_putBack_24 : decode cX12_putBack 24 = .ok (.iadd, 1) := by decide +kernel
theorem dX12_putBack_25 : decode cX12_putBack 25 = .ok (.iaload, 1) := by decide +kernel
theorem dX12_putBack_26 : decode cX12_putBack 26 = .ok (.iastore, 1) := by decide +kernel
theorem dX12_putBack_27 : decode cX12_putBack 27 = .ok (.iinc 2 1, 3) := by decide +kernel
theorem dX12_putBack_30 : decode cX12_putBack 30 = .ok (.goto (-28), 3) := by decide +kernel
theorem dX12_putBack_33 : decode cX12_putBack 33 = .ok (.return_, 1) := by decide +kernel
set_option maxRecDepth 20000 in
theorem rX12_putBack_0 {E : EN} (hE : Ep E) {k : Nat} {mem : Mm} {Q : Mm → Prop} {p0 : Int}
    (h : VM E mX12_putBack k mem 2 [(0, aR 603), (1, aI p0), (2, aI 0)] [] (retV Q)) :
    VM E mX12_putBack k mem 0 [(0, aR 603), (1, aI p0)] [] (retV Q) := by
  refine v_iconst (pc := 0) dX12_putBack_0 (by decide) ?_
  refine v_istore_n (pc := 1) (al2 := [(2, aI 0), (0, aR 603), (1, aI p0)]) dX12_putBack_1 (by decide) rfl ?_
  exact VG_sub (al' := [(0, aR 603), (1, aI p0), (2, aI 0)]) [1, 2, 0] rfl h
theorem eX12_putBack {E : EN} {k : Nat} {mem : Mm} {Q : Mm → Prop} {p0 : Int} (hr_p0 : R32 p0) (h : VM E mX12_putBack k mem 0 [(0, aR 603), (1, aI p0)] [] (retV Q)) : CV E mX12_putBack k mem [aR 603, aI p0] Q := CV_of rfl (Nat.le_of_ble_eq_true rfl) h (aNs_c (aNr_R _) (aNs_c (aNr_I hr_p0) (fun _ q => nomatch q)))
set_option maxRecDepth 20000 in
theorem rX12_putBack_2 {E : EN} (hE : Ep E) {k : Nat} {mem : Mm} {Q : Mm → Prop} {p0 x2 : Int}
    (h : ((77 ≤ x2 → Q mem) ∧ (x2 < 77 → (R32 (3 + x2)) ∧ (R32 (77 * p0)) ∧ (R32 ((77 * p0) + x2)) ∧ (0 ≤ ((77 * p0) + x2) ∧ ((77 * p0) + x2) < 1386) ∧ (0 ≤ (3 + x2) ∧ (3 + x2) < 5570) ∧ (R32 (x2 + 1)) ∧ VM E mX12_putBack k (aUp mem 605 (3 + x2) (mem 608 ((77 * p0) + x2))) 2 [(0, aR 603), (1, aI p0), (2, aI (x2 + 1))] [] (retV Q)))) :
    VM E mX12_putBack k mem 2 [(0, aR 603), (1, aI p0), (2, aI x2)] [] (retV Q) := by
  refine v_iload_n (pc := 2) dX12_putBack_2 2 rfl ?_
  refine v_bipush (pc := 3) dX12_putBack_3 (by decide) ?_
  refine v_icmpge (pc := 5) (tgt := 33) dX12_putBack_5 (by decide) (fun c1 => ?_) (fun c1 => ?_)
  · have h := h.1 c1
    exact m_retV (pc := 33) dX12_putBack_33 rfl h
  · have h := h.2 c1
    refine v_aload_n (pc := 8) dX12_putBack_8 0 rfl ?_
    refine m_getfin (pc := 9) (v := 605) hE dX12_putBack_9 flX12_13 rfl at603 rfl ?_
    refine v_iconst (pc := 12) dX12_putBack_12 (by decide) ?_
    refine v_iload_n (pc := 13) dX12_putBack_13 2 rfl ?_
    obtain ⟨o1, h⟩ := h
    refine m_iadd (pc := 14) dX12_putBack_14 o1 ?_
    refine v_aload_n (pc := 15) dX12_putBack_15 0 rfl ?_
    refine m_getfin (pc := 16) (v := 608) hE dX12_putBack_16 flX12_23 rfl at603 rfl ?_
    refine v_bipush (pc := 19) dX12_putBack_19 (by decide) ?_
    refine v_iload_n (pc := 21) dX12_putBack_21 1 rfl ?_
    obtain ⟨o2, h⟩ := h
    refine m_imul (pc := 22) dX12_putBack_22 o2 ?_
    refine v_iload_n (pc := 23) dX12_putBack_23 2 rfl ?_
    obtain ⟨o3, h⟩ := h
    refine m_iadd (pc := 24) dX12_putBack_24 o3 ?_
    obtain ⟨o4, h⟩ := h
    refine m_iald (pc := 25) (v := (mem 608 ((77 * p0) + x2))) dX12_putBack_25 at608 o4.1 o4.2 rfl ?_
    obtain ⟨o5, h⟩ := h
    refine v_iast (pc := 26) dX12_putBack_26 at605 o5.1 o5.2 ?_
    obtain ⟨o6, h⟩ := h
    refine m_iinc (pc := 27) (al2 := [(2, aI (x2 + 1)), (0, aR 603), (1, aI p0)]) dX12_putBack_27 2 rfl (by decide) o6 rfl ?_
    refine v_goto (pc := 30) (tgt := 2) dX12_putBack_30 (by decide) ?_
    exact VG_sub (al' := [(0, aR 603), (1, aI p0), (2, aI (x2 + 1))]) [1, 2, 0] rfl h

theorem dX12_remember_0 : decode cX12_remember 0 = .ok (.aload_n 0, 1) := by decide +kernel
theorem dX12_remember_1 : decode cX12_remember 1 = .ok (.getfield 168, 3) := by decide +kernel
theorem dX12_remember_4 : decode cX12_remember 4 = .ok (.bipush 16, 2) := by decide +kernel
theorem dX12_remember_6 : decode cX12_remember 6 = .ok (.if_icmp .ne 71, 3) := by decide +kernel
theorem dX12_remember_9 : decode cX12_remember 9 = .ok (.iconst 0, 1) := by decide +kernel
theorem dX12_remember_10 : decode cX12_remember 10 = .ok (.istore_n 2, 1) := by decide +kernel
theorem dX12_remember_11 : decode cX12_remember 11 = .ok (.iload_n 2, 1) := by decide +kernel
theorem dX12_remember_12 : decode cX12_remember 12 = .ok (.sipush 1155, 3) := by decide +kernel
theorem dX12_remember_15 : decode cX12_remember 15 = .ok (.if_icmp .ge 24, 3) := by decide +kernel
theorem dX12_remember_18 : decode cX12_remember 18 = .ok (.aload_n 0, 1) := by decide +kernel
theorem dX12_remember_19 : decode cX12_remember 19 = .ok (.getfield 23, 3) := by decide +kernel
theorem dX12_remember_22 : decode cX12_remember 22 = .ok (.iload_n 2, 1) := by decide +kernel
theorem dX12_remember_23 : decode cX12_remember 23 = .ok (.aload_n 0, 1) := by decide +kernel
theorem dX12_remember_24 : decode cX12_remember 24 = .ok (.getfield 23, 3) := by decide +kernel
theorem dX12_remember_27 : decode cX12_remember 27 = .ok (.iload_n 2, 1) := by decide +kernel
theorem dX12_remember_28 : decode cX12_remember 28 = .ok (.bipush 77, 2) := by decide +kernel
theorem dX12_remember_30 : decode cX12_remember 30 = .ok (.iadd, 1) := by decide +kernel
theorem dX12_remember_31 : decode cX12_remember 31 = .ok (.iaload, 1) := by decide +kernel
theorem dX12_remember_32 : decode cX12_remember 32 = .ok (.iastore, 1) := by decide +kernel
theorem dX12_remember_33 : decode cX12_remember 33 = .ok (.iinc 2 1, 3) := by decide +kernel
theorem dX12_remember_36 : decode cX12_remember 36 = .ok (.goto (-25), 3) := by decide +kernel
theorem dX12_remember_39 : decode cX12_remember 39 = .ok (.iconst 0, 1) := by decide +kernel
theorem dX12_remember_40 : decode cX12_remember 40 = .ok (.istore_n 2, 1) := by decide +kernel
theorem dX12_remember_41 : decode cX12_remember 41 = .ok (.iload_n 2, 1) := by decide +kernel
theorem dX12_remember_42 : decode cX12_remember 42 = .ok (.bipush 15, 2) := by decide +kernel
theorem dX12_remember_44 : decode cX12_remember 44 = .ok (.if_icmp .ge 23, 3) := by decide +kernel
theorem dX12_remember_47 : decode cX12_remember 47 = .ok (.aload_n 0, 1) := by decide +kernel
theorem dX12_remember_48 : decode cX12_remember 48 = .ok (.getfield 26, 3) := by decide +kernel
theorem dX12_remember_51 : decode cX12_remember 51 = .ok (.iload_n 2, 1) := by decide +kernel
theorem dX12_remember_52 : decode cX12_remember 52 = .ok (.aload_n 0, 1) := by decide +kernel
theorem dX12_remember_53 : decode cX12_remember 53 = .ok (.getfield 26, 3) := by decide +kernel
theorem dX12_remember_56 : decode cX12_remember 56 = .ok (.iload_n 2, 1) := by decide +kernel
theorem dX12_remember_57 : decode cX12_remember 57 = .ok (.iconst 1, 1) := by decide +kernel
theorem dX12_remember_58 : decode cX12_remember 58 = .ok (.iadd, 1) := by decide +kernel
theorem dX12_remember_59 : decode cX12_remember 59 = .ok (.iaload, 1) := by decide +kernel
theorem dX12_remember_60 : decode cX12_remember 60 = .ok (.iastore, 1) := by decide +kernel
theorem dX12_remember_61 : decode cX12_remember 61 = .ok (.iinc 2 1, 3) := by decide +kernel
theorem dX12_remember_64 : decode cX12_remember 64 = .ok (.goto (-23), 3) := by decide +kernel
theorem dX12_remember_67 : decode cX12_remember 67 = .ok (.aload_n 0, 1) := by decide +kernel
theorem dX12_remember_68 : decode cX12_remember 68 = .ok (.dup, 1) := by decide +kernel
theorem dX12_remember_69 : decode cX12_remember 69 = .ok (.getfield 168, 3) := by decide +kernel
theorem dX12_remember_72 : decode cX12_remember 72 = .ok (.iconst 1, 1) := by decide +kernel
theorem dX12_remember_73 : decode cX12_remember 73 = .ok (.isub, 1) := by decide +kernel
theorem dX12_remember_74 : decode cX12_remember 74 = .ok (.putfield 168, 3) := by decide +kernel
theorem dX12_remember_77 : decode cX12_remember 77 = .ok (.aload_n 0, 1) := by decide +kernel
theorem dX12_remember_78 : decode cX12_remember 78 = .ok (.aload_n 0, 1) := by decide +kernel
theorem dX12_remember_79 : decode cX12_remember 79 = .ok (.getfield 168, 3) := by decide +kernel
theorem dX12_remember_82 : decode cX12_remember 82 = .ok (.invokevirtual 171, 3) := by decide +kernel
theorem dX12_remember_85 : decode cX12_remember 85 = .ok (.aload_n 0, 1) := by decide +kernel
theorem dX12_remember_86 : decode cX12_remember 86 = .ok (.getfield 26, 3) := by decide +kernel
theorem dX12_remember_89 : decode cX12_remember 89 = .ok (.aload_n 0, 1) := by decide +kernel
theorem dX12_remember_90 : decode cX12_remember 90 = .ok (.getfield 168, 3) := by decide +kernel
theorem dX12_remember_93 : decode cX12_remember 93 = .ok (.iload_n 1, 1) := by decide +kernel
theorem dX12_remember_94 : decode cX12_remember 94 = .ok (.iastore, 1) := by decide +kernel
theorem dX12_remember_95 : decode cX12_remember 95 = .ok (.aload_n 0, 1) := by decide +kernel
theorem dX12_remember_96 : decode cX12_remember 96 = .ok (.dup, 1) := by decide +kernel
theorem dX12_remember_97 : decode cX12_remember 97 = .ok (.getfield 168, 3) := by decide +kernel
theorem dX12_remember_100 : decode cX12_remember 100 = .ok (.iconst 1, 1) := by decide +kernel
theorem dX12_remember_101 : decode cX12_remember 101 = .ok (.iadd, 1) := by decide +kernel
theorem dX12_remember_102 : decode cX12_remember 102 = .ok (.putfield 168, 3) := by decide +kernel
theorem dX12_remember_105 : decode cX12_remember 105 = .ok (.return_, 1) := by decide +kernel
set_option maxRecDepth 20000 in
theorem rX12_remember_0 {E : EN} (hE : Ep E) {k : Nat} {mem : Mm} {Q : Mm → Prop} {p0 : Int}
    (h : ((¬ (mem 603 8) = 16 → (R32 (mem 603 8) → CV E mX12_keepAll k mem [aR 603, aI (mem 603 8)] (fun m1 => (0 ≤ (m1 603 8) ∧ (m1 603 8) < 16) ∧ (R32 ((m1 603 8) + 1)) ∧ Q (aUp (aUp m1 609 (m1 603 8) p0) 603 8 ((m1 603 8) + 1))))) ∧ ((mem 603 8) = 16 → VM E mX12_remember (k + 1) mem 11 [(0, aR 603), (1, aI p0), (2, aI 0)] [] (retV Q)))) :
    VM E mX12_remember (k + 1) mem 0 [(0, aR 603), (1, aI p0)] [] (retV Q) := by
  refine v_aload_n (pc := 0) dX12_remember_0 0 rfl ?_
  refine m_getf (pc := 1) (t := 0) (v := (mem 603 8)) dX12_remember_1 flX12_168 rfl at603 rfl ?_
  refine v_bipush (pc := 4) dX12_remember_4 (by decide) ?_
  refine v_icmpne (pc := 6) (tgt := 77) dX12_remember_6 (by decide) (fun c1 => ?_) (fun c1 => ?_)
  · have h := h.1 c1
    refine v_aload_n (pc := 77) dX12_remember_77 0 rfl ?_
    refine v_aload_n (pc := 78) dX12_remember_78 0 rfl ?_
    refine m_getf (pc := 79) (t := 0) (v := (mem 603 8)) dX12_remember_79 flX12_168 rfl at603 rfl ?_
    refine m_invV (pc := 82) (mi' := mX12_keepAll) (rest := []) [aI (mem 603 8)] dX12_remember_82 at603 (by decide) rfl msX12_keepAll mvX12_keepAll lkX12_171 rfl (Nat.le_of_ble_eq_true rfl) (fun hn => CV_mono (h (aaI hn 1 rfl)) (fun m1 h => ?_))
    refine v_aload_n (pc := 85) dX12_remember_85 0 rfl ?_
    refine m_getfin (pc := 86) (v := 609) hE dX12_remember_86 flX12_26 rfl at603 rfl ?_
    refine v_aload_n (pc := 89) dX12_remember_89 0 rfl ?_
    refine m_getf (pc := 90) (t := 0) (v := (m1 603 8)) dX12_remember_90 flX12_168 rfl at603 rfl ?_
    refine v_iload_n (pc := 93) dX12_remember_93 1 rfl ?_
    obtain ⟨o2, h⟩ := h
    refine v_iast (pc := 94) dX12_remember_94 at609 o2.1 o2.2 ?_
    refine v_aload_n (pc := 95) dX12_remember_95 0 rfl ?_
    refine v_dup (pc := 96) dX12_remember_96 rfl ?_
    refine m_getf (pc := 97) (t := 0) (v := (m1 603 8)) dX12_remember_97 flX12_168 rfl at603 (aUp_rn (by omega)) ?_
    refine v_iconst (pc := 100) dX12_remember_100 (by decide) ?_
    obtain ⟨o3, h⟩ := h
    refine m_iadd (pc := 101) dX12_remember_101 o3 ?_
    refine v_putf (pc := 102) dX12_remember_102 flX12_168 ⟨_, _, rfl, Or.inl rfl⟩ rfl (by decide) (fun q => nomatch q) (Or.inl fun _ => rfl) at603 ?_
    exact m_retV (pc := 105) dX12_remember_105 rfl h
  · have h := h.2 c1
    refine v_iconst (pc := 9) dX12_remember_9 (by decide) ?_
    refine v_istore_n (pc := 10) (al2 := [(2, aI 0), (0, aR 603), (1, aI p0)]) dX12_remember_10 (by decide) rfl ?_
    exact VG_sub (al' := [(0, aR 603), (1, aI p0), (2, aI 0)]) [1, 2, 0] rfl h
theorem eX12_remember {E : EN} {k : Nat} {mem : Mm} {Q : Mm → Prop} {p0 : Int} (hr_p0 : R32 p0) (h : VM E mX12_remember (k + 1) mem 0 [(0, aR 603), (1, aI p0)] [] (retV Q)) : CV E mX12_remember (k + 1) mem [aR 603, aI p0] Q := CV_of rfl (Nat.le_of_ble_eq_true rfl) h (aNs_c (aNr_R _) (aNs_c (aNr_I hr_p0) (fun _ q => nomatch q)))
set_option maxRecDepth 20000 in
theorem rX12_remember_11 {E : EN} (hE : Ep E) {k : Nat} {mem : Mm} {Q : Mm → Prop} {p0 x2 : Int}
    (h : ((1155 ≤ x2 → VM E mX12_remember (k + 1) mem 41 [(0, aR 603), (1, aI p0), (2, aI 0)] [] (retV Q)) ∧ (x2 < 1155 → (R32 (x2 + 77)) ∧ (0 ≤ (x2 + 77) ∧ (x2 + 77) < 1386) ∧ (0 ≤ x2 ∧ x2 < 1386) ∧ (R32 (x2 + 1)) ∧ VM E mX12_remember (k + 1) (aUp mem 608 x2 (mem 608 (x2 + 77))) 11 [(0, aR 603), (1, aI p0), (2, aI (x2 + 1))] [] (retV Q)))) :
    VM E mX12_remember (k + 1) mem 11 [(0, aR 603), (1, aI p0), (2, aI x2)] [] (retV Q) := by
  refine v_iload_n (pc := 11) dX12_remember_11 2 rfl ?_
  refine v_sipush (pc := 12) dX12_remember_12 (by decide) ?_
  refine v_icmpge (pc := 15) (tgt := 39) dX12_remember_15 (by decide) (fun c1 => ?_) (fun c1 => ?_)
  · have h := h.1 c1
    refine v_iconst (pc := 39) dX12_remember_39 (by decide) ?_
    refine v_istore_n (pc := 40) (al2 := [(2, aI 0), (0, aR 603), (1, aI p0)]) dX12_remember_40 (by decide) rfl ?_
    exact VG_sub (al' := [(0, aR 603), (1, aI p0), (2, aI 0)]) [1, 2, 0] rfl h
  · have h := h.2 c1
    refine v_aload_n (pc := 18) dX12_remember_18 0 rfl ?_
    refine m_getfin (pc := 19) (v := 608) hE dX12_remember_19 flX12_23 rfl at603 rfl ?_
    refine v_iload_n (pc := 22) dX12_remember_22 2 rfl ?_
    refine v_aload_n (pc := 23) dX12_remember_23 0 rfl ?_
    refine m_getfin (pc := 24) (v := 608) hE dX12_remember_24 flX12_23 rfl at603 rfl ?_
    refine v_iload_n (pc := 27) dX12_remember_27 2 rfl ?_
    refine v_bipush (pc := 28) dX12_remember_28 (by decide) ?_
    obtain ⟨o1, h⟩ := h
    refine m_iadd (pc := 30) dX12_remember_30 o1 ?_
    obtain ⟨o2, h⟩ := h
    refine m_iald (pc := 31) (v := (mem 608 (x2 + 77))) dX12_remember_31 at608 o2.1 o2.2 rfl ?_
    obtain ⟨o3, h⟩ := h
    refine v_iast (pc := 32) dX12_remember_32 at608 o3.1 o3.2 ?_
    obtain ⟨o4, h⟩ := h
    refine m_iinc (pc := 33) (al2 := [(2, aI (x2 + 1)), (0, aR 603), (1, aI p0)]) dX12_remember_33 2 rfl (by decide) o4 rfl ?_
    refine v_goto (pc := 36) (tgt := 11) dX12_remember_36 (by decide) ?_
    exact VG_sub (al' := [(0, aR 603), (1, aI p0), (2, aI (x2 + 1))]) [1, 2, 0] rfl h
set_option maxRecDepth 20000 in
theorem rX12_remember_41 {E : EN} (hE : Ep E) {k : Nat} {mem : Mm} {Q : Mm → Prop} {p0 x2 : Int}
    (h : ((15 ≤ x2 → (R32 ((mem 603 8) - 1)) ∧ (R32 ((mem 603 8) - 1) → CV E mX12_keepAll k (aUp mem 603 8 ((mem 603 8) - 1)) [aR 603, aI ((mem 603 8) - 1)] (fun m2 => (0 ≤ (m2 603 8) ∧ (m2 603 8) < 16) ∧ (R32 ((m2 603 8) + 1)) ∧ Q (aUp (aUp m2 609 (m2 603 8) p0) 603 8 ((m2 603 8) + 1))))) ∧ (x2 < 15 → (R32 (x2 + 1)) ∧ (0 ≤ (x2 + 1) ∧ (x2 + 1) < 16) ∧ (0 ≤ x2 ∧ x2 < 16) ∧ VM E mX12_remember (k + 1) (aUp mem 609 x2 (mem 609 (x2 + 1))) 41 [(0, aR 603), (1, aI p0), (2, aI (x2 + 1))] [] (retV Q)))) :
    VM E mX12_remember (k + 1) mem 41 [(0, aR 603), (1, aI p0), (2, aI x2)] [] (retV Q) := by
  refine v_iload_n (pc := 41) dX12_remember_41 2 rfl ?_
  refine v_bipush (pc := 42) dX12_remember_42 (by decide) ?_
  refine v_icmpge (pc := 44) (tgt := 67) dX12_remember_44 (by decide) (fun c1 => ?_) (fun c1 => ?_)
  · have h := h.1 c1
    refine v_aload_n (pc := 67) dX12_remember_67 0 rfl ?_
    refine v_dup (pc := 68) dX12_remember_68 rfl ?_
    refine m_getf (pc := 69) (t := 0) (v := (mem 603 8)) dX12_remember_69 flX12_168 rfl at603 rfl ?_
    refine v_iconst (pc := 72) dX12_remember_72 (by decide) ?_
    obtain ⟨o1, h⟩ := h
    refine m_isub (pc := 73) dX12_remember_73 o1 ?_
    refine v_putf (pc := 74) dX12_remember_74 flX12_168 ⟨_, _, rfl, Or.inl rfl⟩ rfl (by decide) (fun q => nomatch q) (Or.inl fun _ => rfl) at603 ?_
    refine v_aload_n (pc := 77) dX12_remember_77 0 rfl ?_
    refine v_aload_n (pc := 78) dX12_remember_78 0 rfl ?_
    refine m_getf (pc := 79) (t := 0) (v := ((mem 603 8) - 1)) dX12_remember_79 flX12_168 rfl at603 (aUp_re) ?_
    refine m_invV (pc := 82) (mi' := mX12_keepAll) (rest := []) [aI ((mem 603 8) - 1)] dX12_remember_82 at603 (by decide) rfl msX12_keepAll mvX12_keepAll lkX12_171 rfl (Nat.le_of_ble_eq_true rfl) (fun hn => CV_mono (h (aaI hn 1 rfl)) (fun m2 h => ?_))
    refine v_aload_n (pc := 85) dX12_remember_85 0 rfl ?_
    refine m_getfin (pc := 86) (v := 609) hE dX12_remember_86 flX12_26 rfl at603 rfl ?_
    refine v_aload_n (pc := 89) dX12_remember_89 0 rfl ?_
    refine m_getf (pc := 90) (t := 0) (v := (m2 603 8)) dX12_remember_90 flX12_168 rfl at603 rfl ?_
    refine v_iload_n (pc := 93) dX12_remember_93 1 rfl ?_
    obtain ⟨o3, h⟩ := h
    refine v_iast (pc := 94) dX12_remember_94 at609 o3.1 o3.2 ?_
    refine v_aload_n (pc := 95) dX12_remember_95 0 rfl ?_
    refine v_dup (pc := 96) dX12_remember_96 rfl ?_
    refine m_getf (pc := 97) (t := 0) (v := (m2 603 8)) dX12_remember_97 flX12_168 rfl at603 (aUp_rn (by omega)) ?_
    refine v_iconst (pc := 100) dX12_remember_100 (by decide) ?_
    obtain ⟨o4, h⟩ := h
    refine m_iadd (pc := 101) dX12_remember_101 o4 ?_
    refine v_putf (pc := 102) dX12_remember_102 flX12_168 ⟨_, _, rfl, Or.inl rfl⟩ rfl (by decide) (fun q => nomatch q) (Or.inl fun _ => rfl) at603 ?_
    exact m_retV (pc := 105) dX12_remember_105 rfl h
  · have h := h.2 c1
    refine v_aload_n (pc := 47) dX12_remember_47 0 rfl ?_
    refine m_getfin (pc := 48) (v := 609) hE dX12_remember_48 flX12_26 rfl at603 rfl ?_
    refine v_iload_n (pc := 51) dX12_remember_51 2 rfl ?_
    refine v_aload_n (pc := 52) dX12_remember_52 0 rfl ?_
    refine m_getfin (pc := 53) (v := 609) hE dX12_remember_53 flX12_26 rfl at603 rfl ?_
    refine v_iload_n (pc := 56) dX12_remember_56 2 rfl ?_
    refine v_iconst (pc := 57) dX12_remember_57 (by decide) ?_
    obtain ⟨o5, h⟩ := h
    refine m_iadd (pc := 58) dX12_remember_58 o5 ?_
    obtain ⟨o6, h⟩ := h
    refine m_iald (pc := 59) (v := (mem 609 (x2 + 1))) dX12_remember_59 at609 o6.1 o6.2 rfl ?_
    obtain ⟨o7, h⟩ := h
    refine v_iast (pc := 60) dX12_remember_60 at609 o7.1 o7.2 ?_
    refine m_iinc (pc := 61) (al2 := [(2, aI (x2 + 1)), (0, aR 603), (1, aI p0)]) dX12_remember_61 2 rfl (by decide) o5 rfl ?_
    refine v_goto (pc := 64) (tgt := 41) dX12_remember_64 (by decide) ?_
    exact VG_sub (al' := [(0, aR 603), (1, aI p0), (2, aI (x2 + 1))]) [1, 2, 0] rfl h

theorem dX12_undo_0 : decode cX12_undo 0 = .ok (.aload_n 0, 1) := by decide +kernel
theorem dX12_undo_1 : decode cX12_undo 1 = .ok (.iconst 0, 1) := by decide +kernel
theorem dX12_undo_2 : decode cX12_undo 2 = .ok (.putfield 162, 3) := by decide +kernel
theorem dX12_undo_5 : decode cX12_undo 5 = .ok (.aload_n 0, 1) := by decide +kernel
theorem dX12_undo_6 : decode cX12_undo 6 = .ok (.getfield 168, 3) := by decide +kernel
theorem dX12_undo_9 : decode cX12_undo 9 = .ok (.ifCond .ne 10, 3) := by decide +kernel
theorem dX12_undo_12 : decode cX12_undo 12 = .ok (.aload_n 0, 1) := by decide +kernel
theorem dX12_undo_13 : decode cX12_undo 13 = .ok (.bipush (-3), 2) := by decide +kernel
theorem dX12_undo_15 : decode cX12_undo 15 = .ok (.invokevirtual 175, 3) := by decide +kernel
theorem dX12_undo_18 : decode cX12_undo 18 = .ok (.ireturn, 1) := by decide +kernel
theorem dX12_undo_19 : decode cX12_undo 19 = .ok (.aload_n 0, 1) := by decide +kernel
theorem dX12_undo_20 : decode cX12_undo 20 = .ok (.dup, 1) := by decide +kernel
theorem dX12_undo_21 : decode cX12_undo 21 = .ok (.getfield 168, 3) := by decide +kernel
theorem dX12_undo_24 : decode cX12_undo 24 = .ok (.iconst 1, 1) := by decide +kernel
theorem dX12_undo_25 : decode cX12_undo 25 = .ok (.isub, 1) := by decide +kernel
theorem dX12_undo_26 : decode cX12_undo 26 = .ok (.putfield 168, 3) := by decide +kernel
theorem dX12_undo_29 : decode cX12_undo 29 = .ok (.aload_n 0, 1) := by decide +kernel
theorem dX12_undo_30 : decode cX12_undo 30 = .ok (.aload_n 0, 1) := by decide +kernel
theorem dX12_undo_31 : decode cX12_undo 31 = .ok (.getfield 168, 3) := by decide +kernel
theorem dX12_undo_34 : decode cX12_undo 34 = .ok (.invokevirtual 179, 3) := by decide +kernel
theorem dX12_undo_37 : decode cX12_undo 37 = .ok (.aload_n 0, 1) := by decide +kernel
theorem dX12_undo_38 : decode cX12_undo 38 = .ok (.aload_n 0, 1) := by decide +kernel
theorem dX12_undo_39 : decode cX12_undo 39 = .ok (.getfield 26, 3) := by decide +kernel
theorem dX12_undo_42 : decode cX12_undo 42 = .ok (.aload_n 0, 1) := by decide +kernel
theorem dX12_undo_43 : decode cX12_undo 43 = .ok (.getfield 168, 3) := by decide +kernel
theorem dX12_undo_46 : decode cX12_undo 46 = .ok (.iaload, 1) := by decide +kernel
theorem dX12_undo_47 : decode cX12_undo 47 = .ok (.invokevirtual 175, 3) := by decide +kernel
theorem dX12_undo_50 : decode cX12_undo 50 = .ok (.ireturn, 1) := by decide +kernel
set_option maxRecDepth 20000 in
theorem rX12_undo_0 {E : EN} (hE : Ep E) {k : Nat} {mem : Mm} {Q : Int → Mm → Prop}
    (h : ((¬ (mem 603 8) = 0 → (R32 ((mem 603 8) - 1)) ∧ (R32 ((mem 603 8) - 1) → CV E mX12_putBack k (aUp (aUp mem 603 0 0) 603 8 ((mem 603 8) - 1)) [aR 603, aI ((mem 603 8) - 1)] (fun m2 => (0 ≤ (m2 603 8) ∧ (m2 603 8) < 16) ∧ (R32 (m2 609 (m2 603 8)) → CI E mX12_tell k m2 [aR 603, aI (m2 609 (m2 603 8))] (fun r5 m4 => Q r5 m4))))) ∧ ((mem 603 8) = 0 → (CI E mX12_tell k (aUp mem 603 0 0) [aR 603, aI (-3)] (fun r7 m6 => Q r7 m6))))) :
    VM E mX12_undo (k + 1) mem 0 [(0, aR 603)] [] (retI Q) := by
  refine v_aload_n (pc := 0) dX12_undo_0 0 rfl ?_
  refine v_iconst (pc := 1) dX12_undo_1 (by decide) ?_
  refine v_putf (pc := 2) dX12_undo_2 flX12_162 ⟨_, _, rfl, Or.inl rfl⟩ rfl (by decide) (fun q => nomatch q) (Or.inl fun _ => rfl) at603 ?_
  refine v_aload_n (pc := 5) dX12_undo_5 0 rfl ?_
  refine m_getf (pc := 6) (t := 0) (v := (mem 603 8)) dX12_undo_6 flX12_168 rfl at603 (aUp_ri (by decide)) ?_
  refine v_ifne (pc := 9) (tgt := 19) dX12_undo_9 (by decide) (fun c1 => ?_) (fun c1 => ?_)
  · have h := h.1 c1
    refine v_aload_n (pc := 19) dX12_undo_19 0 rfl ?_
    refine v_dup (pc := 20) dX12_undo_20 rfl ?_
    refine m_getf (pc := 21) (t := 0) (v := (mem 603 8)) dX12_undo_21 flX12_168 rfl at603 (aUp_ri (by decide)) ?_
    refine v_iconst (pc := 24) dX12_undo_24 (by decide) ?_
    obtain ⟨o1, h⟩ := h
    refine m_isub (pc := 25) dX12_undo_25 o1 ?_
    refine v_putf (pc := 26) dX12_undo_26 flX12_168 ⟨_, _, rfl, Or.inl rfl⟩ rfl (by decide) (fun q => nomatch q) (Or.inl fun _ => rfl) at603 ?_
    refine v_aload_n (pc := 29) dX12_undo_29 0 rfl ?_
    refine v_aload_n (pc := 30) dX12_undo_30 0 rfl ?_
    refine m_getf (pc := 31) (t := 0) (v := ((mem 603 8) - 1)) dX12_undo_31 flX12_168 rfl at603 (aUp_re) ?_
    refine m_invV (pc := 34) (mi' := mX12_putBack) (rest := []) [aI ((mem 603 8) - 1)] dX12_undo_34 at603 (by decide) rfl msX12_putBack mvX12_putBack lkX12_179 rfl (Nat.le_of_ble_eq_true rfl) (fun hn => CV_mono (h (aaI hn 1 rfl)) (fun m2 h => ?_))
    refine v_aload_n (pc := 37) dX12_undo_37 0 rfl ?_
    refine v_aload_n (pc := 38) dX12_undo_38 0 rfl ?_
    refine m_getfin (pc := 39) (v := 609) hE dX12_undo_39 flX12_26 rfl at603 rfl ?_
    refine v_aload_n (pc := 42) dX12_undo_42 0 rfl ?_
    refine m_getf (pc := 43) (t := 0) (v := (m2 603 8)) dX12_undo_43 flX12_168 rfl at603 rfl ?_
    obtain ⟨o3, h⟩ := h
    refine m_iald (pc := 46) (v := (m2 609 (m2 603 8))) dX12_undo_46 at609 o3.1 o3.2 rfl ?_
    refine m_invI (pc := 47) (mi' := mX12_tell) (rest := []) [aI (m2 609 (m2 603 8))] dX12_undo_47 at603 (by decide) rfl msX12_tell mvX12_tell lkX12_175 rfl (Nat.le_of_ble_eq_true rfl) (fun hn => CI_mono (h (aaI hn 1 rfl)) (fun r5 m4 h => ?_))
    exact m_retI (pc := 50) dX12_undo_50 rfl h
  · have h := h.2 c1
    refine v_aload_n (pc := 12) dX12_undo_12 0 rfl ?_
    refine v_bipush (pc := 13) dX12_undo_13 (by decide) ?_
    refine m_invI (pc := 15) (mi' := mX12_tell) (rest := []) [aI (-3)] dX12_undo_15 at603 (by decide) rfl msX12_tell mvX12_tell lkX12_175 rfl (Nat.le_of_ble_eq_true rfl) (fun hn => CI_mono (h) (fun r7 m6 h => ?_))
    exact m_retI (pc := 18) dX12_undo_18 rfl h
theorem eX12_undo {E : EN} {k : Nat} {mem : Mm} {Q : Int → Mm → Prop}  (h : VM E mX12_undo (k + 1) mem 0 [(0, aR 603)] [] (retI Q)) : CI E mX12_undo (k + 1) mem [aR 603] Q := CI_of rfl (Nat.le_of_ble_eq_true rfl) h (aNs_c (aNr_R _) (fun _ q => nomatch q))

theorem dX12_image_0 : decode cX12_image 0 = .ok (.aload_n 0, 1) := by decide +kernel
theorem dX12_image_1 : decode cX12_image 1 = .ok (.iconst 0, 1) := by decide +kernel
theorem dX12_image_2 : decode cX12_image 2 = .ok (.putfield 162, 3) := by decide +kernel
theorem dX12_image_5 : decode cX12_image 5 = .ok (.iload_n 1, 1) := by decide +kernel
theorem dX12_image_6 : decode cX12_image 6 = .ok (.i2l, 1) := by decide +kernel
theorem dX12_image_7 : decode cX12_image 7 = .ok (.lconst 0, 1) := by decide +kernel
theorem dX12_image_8 : decode cX12_image 8 = .ok (.lconst 1, 1) := by decide +kernel
theorem dX12_image_9 : decode cX12_image 9 = .ok (.invokestatic 182, 3) := by decide +kernel
theorem dX12_image_12 : decode cX12_image 12 = .ok (.ifCond .ne 9, 3) := by decide +kernel
theorem dX12_image_15 : decode cX12_image 15 = .ok (.aload_n 0, 1) := by decide +kernel
theorem dX12_image_16 : decode cX12_image 16 = .ok (.iconst (-1), 1) := by decide +kernel
theorem dX12_image_17 : decode cX12_image 17 = .ok (.invokevirtual 175, 3) := by decide +kernel
theorem dX12_image_20 : decode cX12_image 20 = .ok (.ireturn, 1) := by decide +kernel
theorem dX12_image_21 : decode cX12_image 21 = .ok (.iconst 0, 1) := by decide +kernel
theorem dX12_image_22 : decode cX12_image 22 = .ok (.istore_n 2, 1) := by decide +kernel
theorem dX12_image_23 : decode cX12_image 23 = .ok (.iload_n 2, 1) := by decide +kernel
theorem dX12_image_24 : decode cX12_image 24 = .ok (.sipush 5570, 3) := by decide +kernel
theorem dX12_image_27 : decode cX12_image 27 = .ok (.if_icmp .ge 27, 3) := by decide +kernel
theorem dX12_image_30 : decode cX12_image 30 = .ok (.aload_n 0, 1) := by decide +kernel
theorem dX12_image_31 : decode cX12_image 31 = .ok (.getfield 16, 3) := by decide +kernel
theorem dX12_image_34 : decode cX12_image 34 = .ok (.sipush 5570, 3) := by decide +kernel
theorem dX12_image_37 : decode cX12_image 37 = .ok (.iload_n 1, 1) := by decide +kernel
theorem dX12_image_38 : decode cX12_image 38 = .ok (.imul, 1) := by decide +kernel
theorem dX12_image_39 : decode cX12_image 39 = .ok (.iload_n 2, 1) := by decide +kernel
theorem dX12_image_40 : decode cX12_image 40 = .ok (.iadd, 1) := by decide +kernel
theorem dX12_image_41 : decode cX12_image 41 = .ok (.aload_n 0, 1) := by decide +kernel
theorem dX12_image_42 : decode cX12_image 42 = .ok (.getfield 13, 3) := by decide +kernel
theorem dX12_image_45 : decode cX12_image 45 = .ok (.iload_n 2, 1) := by decide +kernel
theorem dX12_image_46 : decode cX12_image 46 = .ok (.iaload, 1) := by decide +kernel
theorem dX12_image_47 : decode cX12_image 47 = .ok (.iastore, 1) := by decide +kernel
theorem dX12_image_48 : decode cX12_image 48 = .ok (.iinc 2 1, 3) := by decide +kernel
theorem dX12_image_51 : decode cX12_image 51 = .ok (.goto (-28), 3) := by decide +kernel
theorem dX12_image_54 : decode cX12_image 54 = .ok (.aload_n 0, 1) := by decide +kernel
theorem dX12_image_55 : decode cX12_image 55 = .ok (.getfield 19, 3) := by decide +kernel
theorem dX12_image_58 : decode cX12_image 58 = .ok (.iload_n 1, 1) := by decide +kernel
theorem dX12_image_59 : decode cX12_image 59 = .ok (.iconst 1, 1) := by decide +kernel
theorem dX12_image_60 : decode cX12_image 60 = .ok (.bastore, 1) := by decide +kernel
theorem dX12_image_61 : decode cX12_image 61 = .ok (.aload_n 0, 1) := by decide +kernel
theorem dX12_image_62 : decode cX12_image 62 = .ok (.iconst 0, 1) := by decide +kernel
theorem dX12_image_63 : decode cX12_image 63 = .ok (.invokevirtual 175, 3) := by decide +kernel
theorem dX12_image_66 : decode cX12_image 66 = .ok (.ireturn, 1) := by decide +kernel
set_option maxRecDepth 20000 in
theorem rX12_image_0 {E : EN} (hE : Ep E) {k : Nat} {mem : Mm} {Q : Int → Mm → Prop} {p0 : Int}
    (h : (R64 p0 → CI E mX12_in k (aUp mem 603 0 0) [aL p0, aL 0, aL 1] (fun r2 m1 => ((¬ r2 = 0 → VM E mX12_image (k + 1) m1 23 [(0, aR 603), (1, aI p0), (2, aI 0)] [] (retI Q)) ∧ (r2 = 0 → (CI E mX12_tell k m1 [aR 603, aI (-1)] (fun r4 m3 => Q r4 m3))))))) :
    VM E mX12_image (k + 1) mem 0 [(0, aR 603), (1, aI p0)] [] (retI Q) := by
  refine v_aload_n (pc := 0) dX12_image_0 0 rfl ?_
  refine v_iconst (pc := 1) dX12_image_1 (by decide) ?_
  refine v_putf (pc := 2) dX12_image_2 flX12_162 ⟨_, _, rfl, Or.inl rfl⟩ rfl (by decide) (fun q => nomatch q) (Or.inl fun _ => rfl) at603 ?_
  refine v_iload_n (pc := 5) dX12_image_5 1 rfl ?_
  refine v_i2l (pc := 6) dX12_image_6 ?_
  refine v_lconst0 (pc := 7) dX12_image_7 ?_
  refine v_lconst1 (pc := 8) dX12_image_8 ?_
  refine m_invSI (pc := 9) (mi' := mX12_in) (rest := []) [aL p0, aL 0, aL 1] dX12_image_9 msX12_in stX12_in lkX12_182 rfl (Nat.le_of_ble_eq_true rfl) (fun hn => CI_mono (h (aaL hn 0 rfl)) (fun r2 m1 h => ?_))
  refine v_ifne (pc := 12) (tgt := 21) dX12_image_12 (by decide) (fun c1 => ?_) (fun c1 => ?_)
  · have h := h.1 c1
    refine v_iconst (pc := 21) dX12_image_21 (by decide) ?_
    refine v_istore_n (pc := 22) (al2 := [(2, aI 0), (0, aR 603), (1, aI p0)]) dX12_image_22 (by decide) rfl ?_
    exact VG_sub (al' := [(0, aR 603), (1, aI p0), (2, aI 0)]) [1, 2, 0] rfl h
  · have h := h.2 c1
    refine v_aload_n (pc := 15) dX12_image_15 0 rfl ?_
    refine v_iconst (pc := 16) dX12_image_16 (by decide) ?_
    refine m_invI (pc := 17) (mi' := mX12_tell) (rest := []) [aI (-1)] dX12_image_17 at603 (by decide) rfl msX12_tell mvX12_tell lkX12_175 rfl (Nat.le_of_ble_eq_true rfl) (fun hn => CI_mono (h) (fun r4 m3 h => ?_))
    exact m_retI (pc := 20) dX12_image_20 rfl h
theorem eX12_image {E : EN} {k : Nat} {mem : Mm} {Q : Int → Mm → Prop} {p0 : Int} (hr_p0 : R32 p0) (h : VM E mX12_image (k + 1) mem 0 [(0, aR 603), (1, aI p0)] [] (retI Q)) : CI E mX12_image (k + 1) mem [aR 603, aI p0] Q := CI_of rfl (Nat.le_of_ble_eq_true rfl) h (aNs_c (aNr_R _) (aNs_c (aNr_I hr_p0) (fun _ q => nomatch q)))
set_option maxRecDepth 20000 in
theorem rX12_image_23 {E : EN} (hE : Ep E) {k : Nat} {mem : Mm} {Q : Int → Mm → Prop} {p0 x2 : Int}
    (h : ((5570 ≤ x2 → (0 ≤ p0 ∧ p0 < 2) ∧ (CI E mX12_tell k (aUp mem 607 p0 1) [aR 603, aI 0] (fun r3 m2 => Q r3 m2))) ∧ (x2 < 5570 → (R32 (5570 * p0)) ∧ (R32 ((5570 * p0) + x2)) ∧ (0 ≤ x2 ∧ x2 < 5570) ∧ (0 ≤ ((5570 * p0) + x2) ∧ ((5570 * p0) + x2) < 11140) ∧ (R32 (x2 + 1)) ∧ VM E mX12_image (k + 1) (aUp mem 606 ((5570 * p0) + x2) (mem 605 x2)) 23 [(0, aR 603), (1, aI p0), (2, aI (x2 + 1))] [] (retI Q)))) :
    VM E mX12_image (k + 1) mem 23 [(0, aR 603), (1, aI p0), (2, aI x2)] [] (retI Q) := by
  refine v_iload_n (pc := 23) dX12_image_23 2 rfl ?_
  refine v_sipush (pc := 24) dX12_image_24 (by decide) ?_
  refine v_icmpge (pc := 27) (tgt := 54) dX12_image_27 (by decide) (fun c1 => ?_) (fun c1 => ?_)
  · have h := h.1 c1
    refine v_aload_n (pc := 54) dX12_image_54 0 rfl ?_
    refine m_getfin (pc := 55) (v := 607) hE dX12_image_55 flX12_19 rfl at603 rfl ?_
    refine v_iload_n (pc := 58) dX12_image_58 1 rfl ?_
    refine v_iconst (pc := 59) dX12_image_59 (by decide) ?_
    obtain ⟨o1, h⟩ := h
    refine v_zast (pc := 60) dX12_image_60 at607 o1.1 o1.2 (by decide) ?_
    refine v_aload_n (pc := 61) dX12_image_61 0 rfl ?_
    refine v_iconst (pc := 62) dX12_image_62 (by decide) ?_
    refine m_invI (pc := 63) (mi' := mX12_tell) (rest := []) [aI 0] dX12_image_63 at603 (by decide) rfl msX12_tell mvX12_tell lkX12_175 rfl (Nat.le_of_ble_eq_true rfl) (fun hn => CI_mono (h) (fun r3 m2 h => ?_))
    exact m_retI (pc := 66) dX12_image_66 rfl h
  · have h := h.2 c1
    refine v_aload_n (pc := 30) dX12_image_30 0 rfl ?_
    refine m_getfin (pc := 31) (v := 606) hE dX12_image_31 flX12_16 rfl at603 rfl ?_
    refine v_sipush (pc := 34) dX12_image_34 (by decide) ?_
    refine v_iload_n (pc := 37) dX12_image_37 1 rfl ?_
    obtain ⟨o4, h⟩ := h
    refine m_imul (pc := 38) dX12_image_38 o4 ?_
    refine v_iload_n (pc := 39) dX12_image_39 2 rfl ?_
    obtain ⟨o5, h⟩ := h
    refine m_iadd (pc := 40) dX12_image_40 o5 ?_
    refine v_aload_n (pc := 41) dX12_image_41 0 rfl ?_
    refine m_getfin (pc := 42) (v := 605) hE dX12_image_42 flX12_13 rfl at603 rfl ?_
    refine v_iload_n (pc := 45) dX12_image_45 2 rfl ?_
    obtain ⟨o6, h⟩ := h
    refine m_iald (pc := 46) (v := (mem 605 x2)) dX12_image_46 at605 o6.1 o6.2 rfl ?_
    obtain ⟨o7, h⟩ := h
    refine v_iast (pc := 47) dX12_image_47 at606 o7.1 o7.2 ?_
    obtain ⟨o8, h⟩ := h
    refine m_iinc (pc := 48) (al2 := [(2, aI (x2 + 1)), (0, aR 603), (1, aI p0)]) dX12_image_48 2 rfl (by decide) o8 rfl ?_
    refine v_goto (pc := 51) (tgt := 23) dX12_image_51 (by decide) ?_
    exact VG_sub (al' := [(0, aR 603), (1, aI p0), (2, aI (x2 + 1))]) [1, 2, 0] rfl h

theorem dX12_back_0 : decode cX12_back 0 = .ok (.aload_n 0, 1) := by decide +kernel
theorem dX12_back_1 : decode cX12_back 1 = .ok (.iconst 0, 1) := by decide +kernel
theorem dX12_back_2 : decode cX12_back 2 = .ok (.putfield 162, 3) := by decide +kernel
theorem dX12_back_5 : decode cX12_back 5 = .ok (.iload_n 1, 1) := by decide +kernel
theorem dX12_back_6 : decode cX12_back 6 = .ok (.i2l, 1) := by decide +kernel
theorem dX12_back_7 : decode cX12_back 7 = .ok (.lconst 0, 1) := by decide +kernel
theorem dX12_back_8 : decode cX12_back 8 = .ok (.lconst 1, 1) := by decide +kernel
theorem dX12_back_9 : decode cX12_back 9 = .ok (.invokestatic 182, 3) := by decide +kernel
theorem dX12_back_12 : decode cX12_back 12 = .ok (.ifCond .ne 9, 3) := by decide +kernel
theorem dX12_back_15 : decode cX12_back 15 = .ok (.aload_n 0, 1) := by decide +kernel
theorem dX12_back_16 : decode cX12_back 16 = .ok (.iconst (-1), 1) := by decide +kernel
theorem dX12_back_17 : decode cX12_back 17 = .ok (.invokevirtual 175, 3) := by decide +kernel
theorem dX12_back_20 : decode cX12_back 20 = .ok (.ireturn, 1) := by decide +kernel
theorem dX12_back_21 : decode cX12_back 21 = .ok (.aload_n 0, 1) := by decide +kernel
theorem dX12_back_22 : decode cX12_back 22 = .ok (.getfield 19, 3) := by decide +kernel
theorem dX12_back_25 : decode cX12_back 25 = .ok (.iload_n 1, 1) := by decide +kernel
theorem dX12_back_26 : decode cX12_back 26 = .ok (.baload, 1) := by decide +kernel
theorem dX12_back_27 : decode cX12_back 27 = .ok (.ifCond .ne 10, 3) := by decide +kernel
theorem dX12_back_30 : decode cX12_back 30 = .ok (.aload_n 0, 1) := by decide +kernel
theorem dX12_back_31 : decode cX12_back 31 = .ok (.bipush (-2), 2) := by decide +kernel
theorem dX12_back_33 : decode cX12_back 33 = .ok (.invokevirtual 175, 3) := by decide +kernel
theorem dX12_back_36 : decode cX12_back 36 = .ok (.ireturn, 1) := by decide +kernel
theorem dX12_back_37 : decode cX12_back 37 = .ok (.iconst 0, 1) := by decide +kernel
theorem dX12_back_38 : decode cX12_back 38 = .ok (.istore_n 2, 1) := by decide +kernel
theorem dX12_back_39 : decode cX12_back 39 = .ok (.iload_n 2, 1) := by decide +kernel
theorem dX12_back_40 : decode cX12_back 40 = .ok (.sipush 5570, 3) := by decide +kernel
theorem dX12_back_43 : decode cX12_back 43 = .ok (.if_icmp .ge 27, 3) := by decide +kernel
theorem dX12_back_46 : decode cX12_back 46 = .ok (.aload_n 0, 1) := by decide +kernel
theorem dX12_back_47 : decode cX12_back 47 = .ok (.getfield 13, 3) := by decide +kernel
theorem dX12_back_50 : decode cX12_back 50 = .ok (.iload_n 2, 1) := by decide +kernel
theorem dX12_back_51 : decode cX12_back 51 = .ok (.aload_n 0, 1) := by decide +kernel
theorem dX12_back_52 : decode cX12_back 52 = .ok (.getfield 16, 3) := by decide +kernel
theorem dX12_back_55 : decode cX12_back 55 = .ok (.sipush 5570, 3) := by decide +kernel
theorem dX12_back_58 : decode cX12_back 58 = .ok (.iload_n 1, 1) := by decide +kernel
theorem dX12_back_59 : decode cX12_back 59 = .ok (.imul, 1) := by decide +kernel
theorem dX12_back_60 : decode cX12_back 60 = .ok (.iload_n 2, 1) := by decide +kernel
theorem dX12_back_61 : decode cX12_back 61 = .ok (.iadd, 1) := by decide +kernel
theorem dX12_back_62 : decode cX12_back 62 = .ok (.iaload, 1) := by decide +kernel
theorem dX12_back_63 : decode cX12_back 63 = .ok (.iastore, 1) := by decide +kernel
theorem dX12_back_64 : decode cX12_back 64 = .ok (.iinc 2 1, 3) := by decide +kernel
theorem dX12_back_67 : decode cX12_back 67 = .ok (.goto (-28), 3) := by decide +kernel
theorem dX12_back_70 : decode cX12_back 70 = .ok (.aload_n 0, 1) := by decide +kernel
theorem dX12_back_71 : decode cX12_back 71 = .ok (.iconst 0, 1) := by decide +kernel
theorem dX12_back_72 : decode cX12_back 72 = .ok (.putfield 168, 3) := by decide +kernel
theorem dX12_back_75 : decode cX12_back 75 = .ok (.aload_n 0, 1) := by decide +kernel
theorem dX12_back_76 : decode cX12_back 76 = .ok (.iconst 0, 1) := by decide +kernel
theorem dX12_back_77 : decode cX12_back 77 = .ok (.invokevirtual 175, 3) := by decide +kernel
theorem dX12_back_80 : decode cX12_back 80 = .ok (.ireturn, 1) := by decide +kernel
set_option maxRecDepth 20000 in
theorem rX12_back_0 {E : EN} (hE : Ep E) {k : Nat} {mem : Mm} {Q : Int → Mm → Prop} {p0 : Int}
    (h : (R64 p0 → CI E mX12_in k (aUp mem 603 0 0) [aL p0, aL 0, aL 1] (fun r2 m1 => ((¬ r2 = 0 → (0 ≤ p0 ∧ p0 < 2) ∧ ((¬ (m1 607 p0) = 0 → VM E mX12_back (k + 1) m1 39 [(0, aR 603), (1, aI p0), (2, aI 0)] [] (retI Q)) ∧ ((m1 607 p0) = 0 → (CI E mX12_tell k m1 [aR 603, aI (-2)] (fun r5 m4 => Q r5 m4))))) ∧ (r2 = 0 → (CI E mX12_tell k m1 [aR 603, aI (-1)] (fun r7 m6 => Q r7 m6))))))) :
    VM E mX12_back (k + 1) mem 0 [(0, aR 603), (1, aI p0)] [] (retI Q) := by
  refine v_aload_n (pc := 0) dX12_back_0 0 rfl ?_
  refine v_iconst (pc := 1) dX12_back_1 (by decide) ?_
  refine v_putf (pc := 2) dX12_back_2 flX12_162 ⟨_, _, rfl, Or.inl rfl⟩ rfl (by decide) (fun q => nomatch q) (Or.inl fun _ => rfl) at603 ?_
  refine v_iload_n (pc := 5) dX12_back_5 1 rfl ?_
  refine v_i2l (pc := 6) dX12_back_6 ?_
  refine v_lconst0 (pc := 7) dX12_back_7 ?_
  refine v_lconst1 (pc := 8) dX12_back_8 ?_
  refine m_invSI (pc := 9) (mi' := mX12_in) (rest := []) [aL p0, aL 0, aL 1] dX12_back_9 msX12_in stX12_in lkX12_182 rfl (Nat.le_of_ble_eq_true rfl) (fun hn => CI_mono (h (aaL hn 0 rfl)) (fun r2 m1 h => ?_))
  refine v_ifne (pc := 12) (tgt := 21) dX12_back_12 (by decide) (fun c1 => ?_) (fun c1 => ?_)
  · have h := h.1 c1
    refine v_aload_n (pc := 21) dX12_back_21 0 rfl ?_
    refine m_getfin (pc := 22) (v := 607) hE dX12_back_22 flX12_19 rfl at603 rfl ?_
    refine v_iload_n (pc := 25) dX12_back_25 1 rfl ?_
    obtain ⟨o3, h⟩ := h
    refine m_zald (pc := 26) (v := (m1 607 p0)) dX12_back_26 at607 o3.1 o3.2 rfl ?_
    refine v_ifne (pc := 27) (tgt := 37) dX12_back_27 (by decide) (fun c1 => ?_) (fun c1 => ?_)
    · have h := h.1 c1
      refine v_iconst (pc := 37) dX12_back_37 (by decide) ?_
      refine v_istore_n (pc := 38) (al2 := [(2, aI 0), (0, aR 603), (1, aI p0)]) dX12_back_38 (by decide) rfl ?_
      exact VG_sub (al' := [(0, aR 603), (1, aI p0), (2, aI 0)]) [1, 2, 0] rfl h
    · have h := h.2 c1
      refine v_aload_n (pc := 30) dX12_back_30 0 rfl ?_
      refine v_bipush (pc := 31) dX12_back_31 (by decide) ?_
      refine m_invI (pc := 33) (mi' := mX12_tell) (rest := []) [aI (-2)] dX12_back_33 at603 (by decide) rfl msX12_tell mvX12_tell lkX12_175 rfl (Nat.le_of_ble_eq_true rfl) (fun hn => CI_mono (h) (fun r5 m4 h => ?_))
      exact m_retI (pc := 36) dX12_back_36 rfl h
  · have h := h.2 c1
    refine v_aload_n (pc := 15) dX12_back_15 0 rfl ?_
    refine v_iconst (pc := 16) dX12_back_16 (by decide) ?_
    refine m_invI (pc := 17) (mi' := mX12_tell) (rest := []) [aI (-1)] dX12_back_17 at603 (by decide) rfl msX12_tell mvX12_tell lkX12_175 rfl (Nat.le_of_ble_eq_true rfl) (fun hn => CI_mono (h) (fun r7 m6 h => ?_))
    exact m_retI (pc := 20) dX12_back_20 rfl h
theorem eX12_back {E : EN} {k : Nat} {mem : Mm} {Q : Int → Mm → Prop} {p0 : Int} (hr_p0 : R32 p0) (h : VM E mX12_back (k + 1) mem 0 [(0, aR 603), (1, aI p0)] [] (retI Q)) : CI E mX12_back (k + 1) mem [aR 603, aI p0] Q := CI_of rfl (Nat.le_of_ble_eq_true rfl) h (aNs_c (aNr_R _) (aNs_c (aNr_I hr_p0) (fun _ q => nomatch q)))
set_option maxRecDepth 20000 in
theorem rX12_back_39 {E : EN} (hE : Ep E) {k : Nat} {mem : Mm} {Q : Int → Mm → Prop} {p0 x2 : Int}
    (h : ((5570 ≤ x2 → (CI E mX12_tell k (aUp mem 603 8 0) [aR 603, aI 0] (fun r2 m1 => Q r2 m1))) ∧ (x2 < 5570 → (R32 (5570 * p0)) ∧ (R32 ((5570 * p0) + x2)) ∧ (0 ≤ ((5570 * p0) + x2) ∧ ((5570 * p0) + x2) < 11140) ∧ (0 ≤ x2 ∧ x2 < 5570) ∧ (R32 (x2 + 1)) ∧ VM E mX12_back (k + 1) (aUp mem 605 x2 (mem 606 ((5570 * p0) + x2))) 39 [(0, aR 603), (1, aI p0), (2, aI (x2 + 1))] [] (retI Q)))) :
    VM E mX12_back (k + 1) mem 39 [(0, aR 603), (1, aI p0), (2, aI x2)] [] (retI Q) := by
  refine v_iload_n (pc := 39) dX12_back_39 2 rfl ?_
  refine v_sipush (pc := 40) dX12_back_40 (by decide) ?_
  refine v_icmpge (pc := 43) (tgt := 70) dX12_back_43 (by decide) (fun c1 => ?_) (fun c1 => ?_)
  · have h := h.1 c1
    refine v_aload_n (pc := 70) dX12_back_70 0 rfl ?_
    refine v_iconst (pc := 71) dX12_back_71 (by decide) ?_
    refine v_putf (pc := 72) dX12_back_72 flX12_168 ⟨_, _, rfl, Or.inl rfl⟩ rfl (by decide) (fun q => nomatch q) (Or.inl fun _ => rfl) at603 ?_
    refine v_aload_n (pc := 75) dX12_back_75 0 rfl ?_
    refine v_iconst (pc := 76) dX12_back_76 (by decide) ?_
    refine m_invI (pc := 77) (mi' := mX12_tell) (rest := []) [aI 0] dX12_back_77 at603 (by decide) rfl msX12_tell mvX12_tell lkX12_175 rfl (Nat.le_of_ble_eq_true rfl) (fun hn => CI_mono (h) (fun r2 m1 h => ?_))
    exact m_retI (pc := 80) dX12_back_80 rfl h
  · have h := h.2 c1
    refine v_aload_n (pc := 46) dX12_back_46 0 rfl ?_
    refine m_getfin (pc := 47) (v := 605) hE dX12_back_47 flX12_13 rfl at603 rfl ?_
    refine v_iload_n (pc := 50) dX12_back_50 2 rfl ?_
    refine v_aload_n (pc := 51) dX12_back_51 0 rfl ?_
    refine m_getfin (pc := 52) (v := 606) hE dX12_back_52 flX12_16 rfl at603 rfl ?_
    refine v_sipush (pc := 55) dX12_back_55 (by decide) ?_
    refine v_iload_n (pc := 58) dX12_back_58 1 rfl ?_
    obtain ⟨o3, h⟩ := h
    refine m_imul (pc := 59) dX12_back_59 o3 ?_
    refine v_iload_n (pc := 60) dX12_back_60 2 rfl ?_
    obtain ⟨o4, h⟩ := h
    refine m_iadd (pc := 61) dX12_back_61 o4 ?_
    obtain ⟨o5, h⟩ := h
    refine m_iald (pc := 62) (v := (mem 606 ((5570 * p0) + x2))) dX12_back_62 at606 o5.1 o5.2 rfl ?_
    obtain ⟨o6, h⟩ := h
    refine v_iast (pc := 63) dX12_back_63 at605 o6.1 o6.2 ?_
    obtain ⟨o7, h⟩ := h
    refine m_iinc (pc := 64) (al2 := [(2, aI (x2 + 1)), (0, aR 603), (1, aI p0)]) dX12_back_64 2 rfl (by decide) o7 rfl ?_
    refine v_goto (pc := 67) (tgt := 39) dX12_back_67 (by decide) ?_
    exact VG_sub (al' := [(0, aR 603), (1, aI p0), (2, aI (x2 + 1))]) [1, 2, 0] rfl h

theorem dX12_term_0 : decode cX12_term 0 = .ok (.aload_n 0, 1) := by decide +kernel
theorem dX12_term_1 : decode cX12_term 1 = .ok (.getfield 13, 3) := by decide +kernel
theorem dX12_term_4 : decode cX12_term 4 = .ok (.iconst 3, 1) := by decide +kernel
theorem dX12_term_5 : decode cX12_term 5 = .ok (.iload_n 1, 1) := by decide +kernel
theorem dX12_term_6 : decode cX12_term 6 = .ok (.iadd, 1) := by decide +kernel
theorem dX12_term_7 : decode cX12_term 7 = .ok (.iaload, 1) := by decide +kernel
theorem dX12_term_8 : decode cX12_term 8 = .ok (.ireturn, 1) := by decide +kernel
set_option maxRecDepth 20000 in
theorem rX12_term_0 {E : EN} (hE : Ep E) {k : Nat} {mem : Mm} {Q : Int → Mm → Prop} {p0 : Int}
    (h : (R32 (3 + p0)) ∧ (0 ≤ (3 + p0) ∧ (3 + p0) < 5570) ∧ Q (mem 605 (3 + p0)) mem) :
    VM E mX12_term k mem 0 [(0, aR 603), (1, aI p0)] [] (retI Q) := by
  refine v_aload_n (pc := 0) dX12_term_0 0 rfl ?_
  refine m_getfin (pc := 1) (v := 605) hE dX12_term_1 flX12_13 rfl at603 rfl ?_
  refine v_iconst (pc := 4) dX12_term_4 (by decide) ?_
  refine v_iload_n (pc := 5) dX12_term_5 1 rfl ?_
  obtain ⟨o1, h⟩ := h
  refine m_iadd (pc := 6) dX12_term_6 o1 ?_
  obtain ⟨o2, h⟩ := h
  refine m_iald (pc := 7) (v := (mem 605 (3 + p0))) dX12_term_7 at605 o2.1 o2.2 rfl ?_
  exact m_retI (pc := 8) dX12_term_8 rfl h
theorem eX12_term {E : EN} {k : Nat} {mem : Mm} {Q : Int → Mm → Prop} {p0 : Int} (hr_p0 : R32 p0) (h : VM E mX12_term k mem 0 [(0, aR 603), (1, aI p0)] [] (retI Q)) : CI E mX12_term k mem [aR 603, aI p0] Q := CI_of rfl (Nat.le_of_ble_eq_true rfl) h (aNs_c (aNr_R _) (aNs_c (aNr_I hr_p0) (fun _ q => nomatch q)))

theorem dX12_isCell_0 : decode cX12_isCell 0 = .ok (.iload_n 0, 1) := by decide +kernel
theorem dX12_isCell_1 : decode cX12_isCell 1 = .ok (.i2l, 1) := by decide +kernel
theorem dX12_isCell_2 : decode cX12_isCell 2 = .ok (.lconst 0, 1) := by decide +kernel
theorem dX12_isCell_3 : decode cX12_isCell 3 = .ok (.ldc2_w 186, 3) := by decide +kernel
theorem dX12_isCell_6 : decode cX12_isCell 6 = .ok (.invokestatic 182, 3) := by decide +kernel
theorem dX12_isCell_9 : decode cX12_isCell 9 = .ok (.ireturn, 1) := by decide +kernel
set_option maxRecDepth 20000 in
theorem rX12_isCell_0 {E : EN} (hE : Ep E) {k : Nat} {mem : Mm} {Q : Int → Mm → Prop} {p0 : Int}
    (h : (R64 p0 → CI E mX12_in k mem [aL p0, aL 0, aL 31] (fun r2 m1 => (r2 = 0 ∨ r2 = 1) ∧ Q r2 m1))) :
    VM E mX12_isCell (k + 1) mem 0 [(0, aI p0)] [] (retI Q) := by
  refine v_iload_n (pc := 0) dX12_isCell_0 0 rfl ?_
  refine v_i2l (pc := 1) dX12_isCell_1 ?_
  refine v_lconst0 (pc := 2) dX12_isCell_2 ?_
  refine v_ldc2 (pc := 3) (n := 31) dX12_isCell_3 cnX12_186 (by decide) ?_
  refine m_invSI (pc := 6) (mi' := mX12_in) (rest := []) [aL p0, aL 0, aL 31] dX12_isCell_6 msX12_in stX12_in lkX12_182 rfl (Nat.le_of_ble_eq_true rfl) (fun hn => CI_mono (h (aaL hn 0 rfl)) (fun r2 m1 h => ?_))
  obtain ⟨o3, h⟩ := h
  exact m_retZ (pc := 9) dX12_isCell_9 rfl o3 h
theorem eX12_isCell {E : EN} {k : Nat} {mem : Mm} {Q : Int → Mm → Prop} {p0 : Int} (hr_p0 : R32 p0) (h : VM E mX12_isCell (k + 1) mem 0 [(0, aI p0)] [] (retI Q)) : CI E mX12_isCell (k + 1) mem [aI p0] Q := CI_of rfl (Nat.le_of_ble_eq_true rfl) h (aNs_c (aNr_I hr_p0) (fun _ q => nomatch q))

theorem dX12_isPlot_0 : decode cX12_isPlot 0 = .ok (.iload_n 1, 1) := by decide +kernel
theorem dX12_isPlot_1 : decode cX12_isPlot 1 = .ok (.i2l, 1) := by decide +kernel
theorem dX12_isPlot_2 : decode cX12_isPlot 2 = .ok (.lconst 0, 1) := by decide +kernel
theorem dX12_isPlot_3 : decode cX12_isPlot 3 = .ok (.aload_n 0, 1) := by decide +kernel
theorem dX12_isPlot_4 : decode cX12_isPlot 4 = .ok (.getfield 13, 3) := by decide +kernel
theorem dX12_isPlot_7 : decode cX12_isPlot 7 = .ok (.bipush 7, 2) := by decide +kernel
theorem dX12_isPlot_9 : decode cX12_isPlot 9 = .ok (.iaload, 1) := by decide +kernel
theorem dX12_isPlot_10 : decode cX12_isPlot 10 = .ok (.i2l, 1) := by decide +kernel
theorem dX12_isPlot_11 : decode cX12_isPlot 11 = .ok (.lconst 1, 1) := by decide +kernel
theorem dX12_isPlot_12 : decode cX12_isPlot 12 = .ok (.lsub, 1) := by decide +kernel
theorem dX12_isPlot_13 : decode cX12_isPlot 13 = .ok (.invokestatic 182, 3) := by decide +kernel
theorem dX12_isPlot_16 : decode cX12_isPlot 16 = .ok (.ireturn, 1) := by decide +kernel
set_option maxRecDepth 20000 in
theorem rX12_isPlot_0 {E : EN} (hE : Ep E) {k : Nat} {mem : Mm} {Q : Int → Mm → Prop} {p0 : Int}
    (h : (R64 ((mem 605 7) - 1)) ∧ (R64 p0 → R64 ((mem 605 7) - 1) → CI E mX12_in k mem [aL p0, aL 0, aL ((mem 605 7) - 1)] (fun r3 m2 => (r3 = 0 ∨ r3 = 1) ∧ Q r3 m2))) :
    VM E mX12_isPlot (k + 1) mem 0 [(0, aR 603), (1, aI p0)] [] (retI Q) := by
  refine v_iload_n (pc := 0) dX12_isPlot_0 1 rfl ?_
  refine v_i2l (pc := 1) dX12_isPlot_1 ?_
  refine v_lconst0 (pc := 2) dX12_isPlot_2 ?_
  refine v_aload_n (pc := 3) dX12_isPlot_3 0 rfl ?_
  refine m_getfin (pc := 4) (v := 605) hE dX12_isPlot_4 flX12_13 rfl at603 rfl ?_
  refine v_bipush (pc := 7) dX12_isPlot_7 (by decide) ?_
  refine m_iald (pc := 9) (v := (mem 605 7)) dX12_isPlot_9 at605 (by omega) (by omega) rfl ?_
  refine v_i2l (pc := 10) dX12_isPlot_10 ?_
  refine v_lconst1 (pc := 11) dX12_isPlot_11 ?_
  obtain ⟨o1, h⟩ := h
  refine m_lsub (pc := 12) dX12_isPlot_12 o1 ?_
  refine m_invSI (pc := 13) (mi' := mX12_in) (rest := []) [aL p0, aL 0, aL ((mem 605 7) - 1)] dX12_isPlot_13 msX12_in stX12_in lkX12_182 rfl (Nat.le_of_ble_eq_true rfl) (fun hn => CI_mono (h (aaL hn 0 rfl) (aaL hn 2 rfl)) (fun r3 m2 h => ?_))
  obtain ⟨o4, h⟩ := h
  exact m_retZ (pc := 16) dX12_isPlot_16 rfl o4 h
theorem eX12_isPlot {E : EN} {k : Nat} {mem : Mm} {Q : Int → Mm → Prop} {p0 : Int} (hr_p0 : R32 p0) (h : VM E mX12_isPlot (k + 1) mem 0 [(0, aR 603), (1, aI p0)] [] (retI Q)) : CI E mX12_isPlot (k + 1) mem [aR 603, aI p0] Q := CI_of rfl (Nat.le_of_ble_eq_true rfl) h (aNs_c (aNr_R _) (aNs_c (aNr_I hr_p0) (fun _ q => nomatch q)))

theorem dX12_plotIn_0 : decode cX12_plotIn 0 = .ok (.iconst (-1), 1) := by decide +kernel
theorem dX12_plotIn_1 : decode cX12_plotIn 1 = .ok (.istore_n 2, 1) := by decide +kernel
theorem dX12_plotIn_2 : decode cX12_plotIn 2 = .ok (.iconst 0, 1) := by decide +kernel
theorem dX12_plotIn_3 : decode cX12_plotIn 3 = .ok (.istore_n 3, 1) := by decide +kernel
theorem dX12_plotIn_4 : decode cX12_plotIn 4 = .ok (.iload_n 3, 1) := by decide +kernel
theorem dX12_plotIn_5 : decode cX12_plotIn 5 = .ok (.aload_n 0, 1) := by decide +kernel
theorem dX12_plotIn_6 : decode cX12_plotIn 6 = .ok (.getfield 13, 3) := by decide +kernel
theorem dX12_plotIn_9 : decode cX12_plotIn 9 = .ok (.bipush 7, 2) := by decide +kernel
theorem dX12_plotIn_11 : decode cX12_plotIn 11 = .ok (.iaload, 1) := by decide +kernel
theorem dX12_plotIn_12 : decode cX12_plotIn 12 = .ok (.if_icmp .ge 28, 3) := by decide +kernel
theorem dX12_plotIn_15 : decode cX12_plotIn 15 = .ok (.aload_n 0, 1) := by decide +kernel
theorem dX12_plotIn_16 : decode cX12_plotIn 16 = .ok (.getfield 13, 3) := by decide +kernel
theorem dX12_plotIn_19 : decode cX12_plotIn 19 = .ok (.bipush 8, 2) := by decide +kernel
theorem dX12_plotIn_21 : decode cX12_plotIn 21 = .ok (.iload_n 3, 1) := by decide +kernel
theorem dX12_plotIn_22 : decode cX12_plotIn 22 = .ok (.iadd, 1) := by decide +kernel
theorem dX12_plotIn_23 : decode cX12_plotIn 23 = .ok (.iaload, 1) := by decide +kernel
theorem dX12_plotIn_24 : decode cX12_plotIn 24 = .ok (.iload_n 1, 1) := by decide +kernel
theorem dX12_plotIn_25 : decode cX12_plotIn 25 = .ok (.if_icmp .ne 7, 3) := by decide +kernel
theorem dX12_plotIn_28 : decode cX12_plotIn 28 = .ok (.iload_n 3, 1) := by decide +kernel
theorem dX12_plotIn_29 : decode cX12_plotIn 29 = .ok (.goto 4, 3) := by decide +kernel
theorem dX12_plotIn_32 : decode cX12_plotIn 32 = .ok (.iload_n 2, 1) := by decide +kernel
theorem dX12_plotIn_33 : decode cX12_plotIn 33 = .ok (.istore_n 2, 1) := by decide +kernel
theorem dX12_plotIn_34 : decode cX12_plotIn 34 = .ok (.iinc 3 1, 3) := by decide +kernel
theorem dX12_plotIn_37 : decode cX12_plotIn 37 = .ok (.goto (-33), 3) := by decide +kernel
theorem dX12_plotIn_40 : decode cX12_plotIn 40 = .ok (.iload_n 2, 1) := by decide +kernel
theorem dX12_plotIn_41 : decode cX12_plotIn 41 = .ok (.ireturn, 1) := by decide +kernel
set_option maxRecDepth 20000 in
theorem rX12_plotIn_0 {E : EN} (hE : Ep E) {k : Nat} {mem : Mm} {Q : Int → Mm → Prop} {p0 : Int}
    (h : VM E mX12_plotIn k mem 4 [(0, aR 603), (1, aI p0), (2, aI (-1)), (3, aI 0)] [] (retI Q)) :
    VM E mX12_plotIn k mem 0 [(0, aR 603), (1, aI p0)] [] (retI Q) := by
  refine v_iconst (pc := 0) dX12_plotIn_0 (by decide) ?_
  refine v_istore_n (pc := 1) (al2 := [(2, aI (-1)), (0, aR 603), (1, aI p0)]) dX12_plotIn_1 (by decide) rfl ?_
  refine v_iconst (pc := 2) dX12_plotIn_2 (by decide) ?_
  refine v_istore_n (pc := 3) (al2 := [(3, aI 0), (2, aI (-1)), (0, aR 603), (1, aI p0)]) dX12_plotIn_3 (by decide) rfl ?_
  exact VG_sub (al' := [(0, aR 603), (1, aI p0), (2, aI (-1)), (3, aI 0)]) [2, 3, 1, 0] rfl h
theorem eX12_plotIn {E : EN} {k : Nat} {mem : Mm} {Q : Int → Mm → Prop} {p0 : Int} (hr_p0 : R32 p0) (h : VM E mX12_plotIn k mem 0 [(0, aR 603), (1, aI p0)] [] (retI Q)) : CI E mX12_plotIn k mem [aR 603, aI p0] Q := CI_of rfl (Nat.le_of_ble_eq_true rfl) h (aNs_c (aNr_R _) (aNs_c (aNr_I hr_p0) (fun _ q => nomatch q)))
set_option maxRecDepth 20000 in
theorem rX12_plotIn_4 {E : EN} (hE : Ep E) {k : Nat} {mem : Mm} {Q : Int → Mm → Prop} {p0 x2 x3 : Int}
    (h : (((mem 605 7) ≤ x3 → Q x2 mem) ∧ (x3 < (mem 605 7) → (R32 (8 + x3)) ∧ (0 ≤ (8 + x3) ∧ (8 + x3) < 5570) ∧ ((¬ (mem 605 (8 + x3)) = p0 → (R32 (x3 + 1)) ∧ VM E mX12_plotIn k mem 4 [(0, aR 603), (1, aI p0), (2, aI x2), (3, aI (x3 + 1))] [] (retI Q)) ∧ ((mem 605 (8 + x3)) = p0 → (R32 (x3 + 1)) ∧ VM E mX12_plotIn k mem 4 [(0, aR 603), (1, aI p0), (2, aI x3), (3, aI (x3 + 1))] [] (retI Q)))))) :
    VM E mX12_plotIn k mem 4 [(0, aR 603), (1, aI p0), (2, aI x2), (3, aI x3)] [] (retI Q) := by
  refine v_iload_n (pc := 4) dX12_plotIn_4 3 rfl ?_
  refine v_aload_n (pc := 5) dX12_plotIn_5 0 rfl ?_
  refine m_getfin (pc := 6) (v := 605) hE dX12_plotIn_6 flX12_13 rfl at603 rfl ?_
  refine v_bipush (pc := 9) dX12_plotIn_9 (by decide) ?_
  refine m_iald (pc := 11) (v := (mem 605 7)) dX12_plotIn_11 at605 (by omega) (by omega) rfl ?_
  refine v_icmpge (pc := 12) (tgt := 40) dX12_plotIn_12 (by decide) (fun c1 => ?_) (fun c1 => ?_)
  · have h := h.1 c1
    refine v_iload_n (pc := 40) dX12_plotIn_40 2 rfl ?_
    exact m_retI (pc := 41) dX12_plotIn_41 rfl h
  · have h := h.2 c1
    refine v_aload_n (pc := 15) dX12_plotIn_15 0 rfl ?_
    refine m_getfin (pc := 16) (v := 605) hE dX12_plotIn_16 flX12_13 rfl at603 rfl ?_
    refine v_bipush (pc := 19) dX12_plotIn_19 (by decide) ?_
    refine v_iload_n (pc := 21) dX12_plotIn_21 3 rfl ?_
    obtain ⟨o1, h⟩ := h
    refine m_iadd (pc := 22) dX12_plotIn_22 o1 ?_
    obtain ⟨o2, h⟩ := h
    refine m_iald (pc := 23) (v := (mem 605 (8 + x3))) dX12_plotIn_23 at605 o2.1 o2.2 rfl ?_
    refine v_iload_n (pc := 24) dX12_plotIn_24 1 rfl ?_
    refine v_icmpne (pc := 25) (tgt := 32) dX12_plotIn_25 (by decide) (fun c1 => ?_) (fun c1 => ?_)
    · have h := h.1 c1
      refine v_iload_n (pc := 32) dX12_plotIn_32 2 rfl ?_
      refine v_istore_n (pc := 33) (al2 := [(2, aI x2), (0, aR 603), (1, aI p0), (3, aI x3)]) dX12_plotIn_33 (by decide) rfl ?_
      obtain ⟨o3, h⟩ := h
      refine m_iinc (pc := 34) (al2 := [(3, aI (x3 + 1)), (2, aI x2), (0, aR 603), (1, aI p0)]) dX12_plotIn_34 3 rfl (by decide) o3 rfl ?_
      refine v_goto (pc := 37) (tgt := 4) dX12_plotIn_37 (by decide) ?_
      exact VG_sub (al' := [(0, aR 603), (1, aI p0), (2, aI x2), (3, aI (x3 + 1))]) [2, 3, 1, 0] rfl h
    · have h := h.2 c1
      refine v_iload_n (pc := 28) dX12_plotIn_28 3 rfl ?_
      refine v_goto (pc := 29) (tgt := 33) dX12_plotIn_29 (by decide) ?_
      refine v_istore_n (pc := 33) (al2 := [(2, aI x3), (0, aR 603), (1, aI p0), (3, aI x3)]) dX12_plotIn_33 (by decide) rfl ?_
      obtain ⟨o4, h⟩ := h
      refine m_iinc (pc := 34) (al2 := [(3, aI (x3 + 1)), (2, aI x3), (0, aR 603), (1, aI p0)]) dX12_plotIn_34 3 rfl (by decide) o4 rfl ?_
      refine v_goto (pc := 37) (tgt := 4) dX12_plotIn_37 (by decide) ?_
      exact VG_sub (al' := [(0, aR 603), (1, aI p0), (2, aI x3), (3, aI (x3 + 1))]) [2, 3, 1, 0] rfl h

theorem dX12_isSolid_0 : decode cX12_isSolid 0 = .ok (.iload_n 0, 1) := by decide +kernel
theorem dX12_isSolid_1 : decode cX12_isSolid 1 = .ok (.iconst 1, 1) := by decide +kernel
theorem dX12_isSolid_2 : decode cX12_isSolid 2 = .ok (.if_icmp .eq 8, 3) := by decide +kernel
theorem dX12_isSolid_5 : decode cX12_isSolid 5 = .ok (.iload_n 0, 1) := by decide +kernel
theorem dX12_isSolid_6 : decode cX12_isSolid 6 = .ok (.iconst 3, 1) := by decide +kernel
theorem dX12_isSolid_7 : decode cX12_isSolid 7 = .ok (.if_icmp .ne 7, 3) := by decide +kernel
theorem dX12_isSolid_10 : decode cX12_isSolid 10 = .ok (.iconst 1, 1) := by decide +kernel
theorem dX12_isSolid_11 : decode cX12_isSolid 11 = .ok (.goto 4, 3) := by decide +kernel
theorem dX12_isSolid_14 : decode cX12_isSolid 14 = .ok (.iconst 0, 1) := by decide +kernel
theorem dX12_isSolid_15 : decode cX12_isSolid 15 = .ok (.ireturn, 1) := by decide +kernel
set_option maxRecDepth 20000 in
theorem rX12_isSolid_0 {E : EN} (hE : Ep E) {k : Nat} {mem : Mm} {Q : Int → Mm → Prop} {p0 : Int}
    (h : ((p0 = 1 → Q 1 mem) ∧ (¬ p0 = 1 → ((¬ p0 = 3 → Q 0 mem) ∧ (p0 = 3 → Q 1 mem))))) :
    VM E mX12_isSolid k mem 0 [(0, aI p0)] [] (retI Q) := by
  refine v_iload_n (pc := 0) dX12_isSolid_0 0 rfl ?_
  refine v_iconst (pc := 1) dX12_isSolid_1 (by decide) ?_
  refine v_icmpeq (pc := 2) (tgt := 10) dX12_isSolid_2 (by decide) (fun c1 => ?_) (fun c1 => ?_)
  · have h := h.1 c1
    refine v_iconst (pc := 10) dX12_isSolid_10 (by decide) ?_
    refine v_goto (pc := 11) (tgt := 15) dX12_isSolid_11 (by decide) ?_
    exact m_retZ (pc := 15) dX12_isSolid_15 rfl (by decide) h
  · have h := h.2 c1
    refine v_iload_n (pc := 5) dX12_isSolid_5 0 rfl ?_
    refine v_iconst (pc := 6) dX12_isSolid_6 (by decide) ?_
    refine v_icmpne (pc := 7) (tgt := 14) dX12_isSolid_7 (by decide) (fun c1 => ?_) (fun c1 => ?_)
    · have h := h.1 c1
      refine v_iconst (pc := 14) dX12_isSolid_14 (by decide) ?_
      exact m_retZ (pc := 15) dX12_isSolid_15 rfl (by decide) h
    · have h := h.2 c1
      refine v_iconst (pc := 10) dX12_isSolid_10 (by decide) ?_
      refine v_goto (pc := 11) (tgt := 15) dX12_isSolid_11 (by decide) ?_
      exact m_retZ (pc := 15) dX12_isSolid_15 rfl (by decide) h
theorem eX12_isSolid {E : EN} {k : Nat} {mem : Mm} {Q : Int → Mm → Prop} {p0 : Int} (hr_p0 : R32 p0) (h : VM E mX12_isSolid k mem 0 [(0, aI p0)] [] (retI Q)) : CI E mX12_isSolid k mem [aI p0] Q := CI_of rfl (Nat.le_of_ble_eq_true rfl) h (aNs_c (aNr_I hr_p0) (fun _ q => nomatch q))

theorem dX12_canBe_0 : decode cX12_canBe 0 = .ok (.iload_n 0, 1) := by decide +kernel
theorem dX12_canBe_1 : decode cX12_canBe 1 = .ok (.ifCond .ne 15, 3) := by decide +kernel
theorem dX12_canBe_4 : decode cX12_canBe 4 = .ok (.iload_n 1, 1) := by decide +kernel
theorem dX12_canBe_5 : decode cX12_canBe 5 = .ok (.i2l, 1) := by decide +kernel
theorem dX12_canBe_6 : decode cX12_canBe 6 = .ok (.lconst 0, 1) := by decide +kernel
theorem dX12_canBe_7 : decode cX12_canBe 7 = .ok (.ldc2_w 188, 3) := by decide +kernel
theorem dX12_canBe_10 : decode cX12_canBe 10 = .ok (.invokestatic 182, 3) := by decide +kernel
theorem dX12_canBe_13 : decode cX12_canBe 13 = .ok (.goto 40, 3) := by decide +kernel
theorem dX12_canBe_16 : decode cX12_canBe 16 = .ok (.iload_n 0, 1) := by decide +kernel
theorem dX12_canBe_17 : decode cX12_canBe 17 = .ok (.iconst 1, 1) := by decide +kernel
theorem dX12_canBe_18 : decode cX12_canBe 18 = .ok (.if_icmp .ne 15, 3) := by decide +kernel
theorem dX12_canBe_21 : decode cX12_canBe 21 = .ok (.iload_n 1, 1) := by decide +kernel
theorem dX12_canBe_22 : decode cX12_canBe 22 = .ok (.i2l, 1) := by decide +kernel
theorem dX12_canBe_23 : decode cX12_canBe 23 = .ok (.lconst 0, 1) := by decide +kernel
theorem dX12_canBe_24 : decode cX12_canBe 24 = .ok (.ldc2_w 190, 3) := by decide +kernel
theorem dX12_canBe_27 : decode cX12_canBe 27 = .ok (.invokestatic 182, 3) := by decide +kernel
theorem dX12_canBe_30 : decode cX12_canBe 30 = .ok (.goto 23, 3) := by decide +kernel
theorem dX12_canBe_33 : decode cX12_canBe 33 = .ok (.iload_n 0, 1) := by decide +kernel
theorem dX12_canBe_34 : decode cX12_canBe 34 = .ok (.iconst 2, 1) := by decide +kernel
theorem dX12_canBe_35 : decode cX12_canBe 35 = .ok (.if_icmp .ne 17, 3) := by decide +kernel
theorem dX12_canBe_38 : decode cX12_canBe 38 = .ok (.iload_n 1, 1) := by decide +kernel
theorem dX12_canBe_39 : decode cX12_canBe 39 = .ok (.i2l, 1) := by decide +kernel
theorem dX12_canBe_40 : decode cX12_canBe 40 = .ok (.lconst 0, 1) := by decide +kernel
theorem dX12_canBe_41 : decode cX12_canBe 41 = .ok (.lconst 1, 1) := by decide +kernel
theorem dX12_canBe_42 : decode cX12_canBe 42 = .ok (.invokestatic 182, 3) := by decide +kernel
theorem dX12_canBe_45 : decode cX12_canBe 45 = .ok (.ifCond .eq 7, 3) := by decide +kernel
theorem dX12_canBe_48 : decode cX12_canBe 48 = .ok (.iconst 1, 1) := by decide +kernel
theorem dX12_canBe_49 : decode cX12_canBe 49 = .ok (.goto 4, 3) := by decide +kernel
theorem dX12_canBe_52 : decode cX12_canBe 52 = .ok (.iconst 0, 1) := by decide +kernel
theorem dX12_canBe_53 : decode cX12_canBe 53 = .ok (.ireturn, 1) := by decide +kernel
set_option maxRecDepth 20000 in
theorem rX12_canBe_0 {E : EN} (hE : Ep E) {k : Nat} {mem : Mm} {Q : Int → Mm → Prop} {p0 p1 : Int}
    (h : ((¬ p0 = 0 → ((¬ p0 = 1 → ((¬ p0 = 2 → Q 0 mem) ∧ (p0 = 2 → (R64 p1 → CI E mX12_in k mem [aL p1, aL 0, aL 1] (fun r2 m1 => ((r2 = 0 → Q 0 m1) ∧ (¬ r2 = 0 → Q 1 m1))))))) ∧ (p0 = 1 → (R64 p1 → CI E mX12_in k mem [aL p1, aL 0, aL 99] (fun r4 m3 => (r4 = 0 ∨ r4 = 1) ∧ Q r4 m3))))) ∧ (p0 = 0 → (R64 p1 → CI E mX12_in k mem [aL p1, aL 0, aL 3] (fun r7 m6 => (r7 = 0 ∨ r7 = 1) ∧ Q r7 m6))))) :
    VM E mX12_canBe (k + 1) mem 0 [(0, aI p0), (1, aI p1)] [] (retI Q) := by
  refine v_iload_n (pc := 0) dX12_canBe_0 0 rfl ?_
  refine v_ifne (pc := 1) (tgt := 16) dX12_canBe_1 (by decide) (fun c1 => ?_) (fun c1 => ?_)
  · have h := h.1 c1
    refine v_iload_n (pc := 16) dX12_canBe_16 0 rfl ?_
    refine v_iconst (pc := 17) dX12_canBe_17 (by decide) ?_
    refine v_icmpne (pc := 18) (tgt := 33) dX12_canBe_18 (by decide) (fun c1 => ?_) (fun c1 => ?_)
    · have h := h.1 c1
      refine v_iload_n (pc := 33) dX12_canBe_33 0 rfl ?_
      refine v_iconst (pc := 34) dX12_canBe_34 (by decide) ?_
      refine v_icmpne (pc := 35) (tgt := 52) dX12_canBe_35 (by decide) (fun c1 => ?_) (fun c1 => ?_)
      · have h := h.1 c1
        refine v_iconst (pc := 52) dX12_canBe_52 (by decide) ?_
        exact m_retZ (pc := 53) dX12_canBe_53 rfl (by decide) h
      · have h := h.2 c1
        refine v_iload_n (pc := 38) dX12_canBe_38 1 rfl ?_
        refine v_i2l (pc := 39) dX12_canBe_39 ?_
        refine v_lconst0 (pc := 40) dX12_canBe_40 ?_
        refine v_lconst1 (pc := 41) dX12_canBe_41 ?_
        refine m_invSI (pc := 42) (mi' := mX12_in) (rest := []) [aL p1, aL 0, aL 1] dX12_canBe_42 msX12_in stX12_in lkX12_182 rfl (Nat.le_of_ble_eq_true rfl) (fun hn => CI_mono (h (aaL hn 0 rfl)) (fun r2 m1 h => ?_))
        refine v_ifeq (pc := 45) (tgt := 52) dX12_canBe_45 (by decide) (fun c1 => ?_) (fun c1 => ?_)
        · have h := h.1 c1
          refine v_iconst (pc := 52) dX12_canBe_52 (by decide) ?_
          exact m_retZ (pc := 53) dX12_canBe_53 rfl (by decide) h
        · have h := h.2 c1
          refine v_iconst (pc := 48) dX12_canBe_48 (by decide) ?_
          refine v_goto (pc := 49) (tgt := 53) dX12_canBe_49 (by decide) ?_
          exact m_retZ (pc := 53) dX12_canBe_53 rfl (by decide) h
    · have h := h.2 c1
      refine v_iload_n (pc := 21) dX12_canBe_21 1 rfl ?_
      refine v_i2l (pc := 22) dX12_canBe_22 ?_
      refine v_lconst0 (pc := 23) dX12_canBe_23 ?_
      refine v_ldc2 (pc := 24) (n := 99) dX12_canBe_24 cnX12_190 (by decide) ?_
      refine m_invSI (pc := 27) (mi' := mX12_in) (rest := []) [aL p1, aL 0, aL 99] dX12_canBe_27 msX12_in stX12_in lkX12_182 rfl (Nat.le_of_ble_eq_true rfl) (fun hn => CI_mono (h (aaL hn 0 rfl)) (fun r4 m3 h => ?_))
      refine v_goto (pc := 30) (tgt := 53) dX12_canBe_30 (by decide) ?_
      obtain ⟨o5, h⟩ := h
      exact m_retZ (pc := 53) dX12_canBe_53 rfl o5 h
  · have h := h.2 c1
    refine v_iload_n (pc := 4) dX12_canBe_4 1 rfl ?_
    refine v_i2l (pc := 5) dX12_canBe_5 ?_
    refine v_lconst0 (pc := 6) dX12_canBe_6 ?_
    refine v_ldc2 (pc := 7) (n := 3) dX12_canBe_7 cnX12_188 (by decide) ?_
    refine m_invSI (pc := 10) (mi' := mX12_in) (rest := []) [aL p1, aL 0, aL 3] dX12_canBe_10 msX12_in stX12_in lkX12_182 rfl (Nat.le_of_ble_eq_true rfl) (fun hn => CI_mono (h (aaL hn 0 rfl)) (fun r7 m6 h => ?_))
    refine v_goto (pc := 13) (tgt := 53) dX12_canBe_13 (by decide) ?_
    obtain ⟨o8, h⟩ := h
    exact m_retZ (pc := 53) dX12_canBe_53 rfl o8 h
theorem eX12_canBe {E : EN} {k : Nat} {mem : Mm} {Q : Int → Mm → Prop} {p0 p1 : Int} (hr_p0 : R32 p0) (hr_p1 : R32 p1) (h : VM E mX12_canBe (k + 1) mem 0 [(0, aI p0), (1, aI p1)] [] (retI Q)) : CI E mX12_canBe (k + 1) mem [aI p0, aI p1] Q := CI_of rfl (Nat.le_of_ble_eq_true rfl) h (aNs_c (aNr_I hr_p0) (aNs_c (aNr_I hr_p1) (fun _ q => nomatch q)))

theorem dX12_setKind_0 : decode cX12_setKind 0 = .ok (.aload_n 0, 1) := by decide +kernel
theorem dX12_setKind_1 : decode cX12_setKind 1 = .ok (.getfield 13, 3) := by decide +kernel
theorem dX12_setKind_4 : decode cX12_setKind 4 = .ok (.bipush 80, 2) := by decide +kernel
theorem dX12_setKind_6 : decode cX12_setKind 6 = .ok (.iload_n 1, 1) := by decide +kernel
theorem dX12_setKind_7 : decode cX12_setKind 7 = .ok (.iadd, 1) := by decide +kernel
theorem dX12_setKind_8 : decode cX12_setKind 8 = .ok (.iload_n 2, 1) := by decide +kernel
theorem dX12_setKind_9 : decode cX12_setKind 9 = .ok (.iastore, 1) := by decide +kernel
theorem dX12_setKind_10 : decode cX12_setKind 10 = .ok (.aload_n 0, 1) := by decide +kernel
theorem dX12_setKind_11 : decode cX12_setKind 11 = .ok (.getfield 13, 3) := by decide +kernel
theorem dX12_setKind_14 : decode cX12_setKind 14 = .ok (.bipush 48, 2) := by decide +kernel
theorem dX12_setKind_16 : decode cX12_setKind 16 = .ok (.iload_n 1, 1) := by decide +kernel
theorem dX12_setKind_17 : decode cX12_setKind 17 = .ok (.iadd, 1) := by decide +kernel
theorem dX12_setKind_18 : decode cX12_setKind 18 = .ok (.iload_n 2, 1) := by decide +kernel
theorem dX12_setKind_19 : decode cX12_setKind 19 = .ok (.iconst 1, 1) := by decide +kernel
theorem dX12_setKind_20 : decode cX12_setKind 20 = .ok (.if_icmp .ne 15, 3) := by decide +kernel
theorem dX12_setKind_23 : decode cX12_setKind 23 = .ok (.aload_n 0, 1) := by decide +kernel
theorem dX12_setKind_24 : decode cX12_setKind 24 = .ok (.getfield 13, 3) := by decide +kernel
theorem dX12_setKind_27 : decode cX12_setKind 27 = .ok (.bipush 48, 2) := by decide +kernel
theorem dX12_setKind_29 : decode cX12_setKind 29 = .ok (.iload_n 1, 1) := by decide +kernel
theorem dX12_setKind_30 : decode cX12_setKind 30 = .ok (.iadd, 1) := by decide +kernel
theorem dX12_setKind_31 : decode cX12_setKind 31 = .ok (.iaload, 1) := by decide +kernel
theorem dX12_setKind_32 : decode cX12_setKind 32 = .ok (.goto 4, 3) := by decide +kernel
theorem dX12_setKind_35 : decode cX12_setKind 35 = .ok (.iconst 0, 1) := by decide +kernel
theorem dX12_setKind_36 : decode cX12_setKind 36 = .ok (.iastore, 1) := by decide +kernel
theorem dX12_setKind_37 : decode cX12_setKind 37 = .ok (.return_, 1) := by decide +kernel
set_option maxRecDepth 20000 in
theorem rX12_setKind_0 {E : EN} (hE : Ep E) {k : Nat} {mem : Mm} {Q : Mm → Prop} {p0 p1 : Int}
    (h : (R32 (80 + p0)) ∧ (0 ≤ (80 + p0) ∧ (80 + p0) < 5570) ∧ (R32 (48 + p0)) ∧ ((¬ p1 = 1 → (0 ≤ (48 + p0) ∧ (48 + p0) < 5570) ∧ Q (aUp (aUp mem 605 (80 + p0) p1) 605 (48 + p0) 0)) ∧ (p1 = 1 → (0 ≤ (48 + p0) ∧ (48 + p0) < 5570) ∧ Q (aUp (aUp mem 605 (80 + p0) p1) 605 (48 + p0) ((aUp mem 605 (80 + p0) p1) 605 (48 + p0)))))) :
    VM E mX12_setKind k mem 0 [(0, aR 603), (1, aI p0), (2, aI p1)] [] (retV Q) := by
  refine v_aload_n (pc := 0) dX12_setKind_0 0 rfl ?_
  refine m_getfin (pc := 1) (v := 605) hE dX12_setKind_1 flX12_13 rfl at603 rfl ?_
  refine v_bipush (pc := 4) dX12_setKind_4 (by decide) ?_
  refine v_iload_n (pc := 6) dX12_setKind_6 1 rfl ?_
  obtain ⟨o1, h⟩ := h
  refine m_iadd (pc := 7) dX12_setKind_7 o1 ?_
  refine v_iload_n (pc := 8) dX12_setKind_8 2 rfl ?_
  obtain ⟨o2, h⟩ := h
  refine v_iast (pc := 9) dX12_setKind_9 at605 o2.1 o2.2 ?_
  refine v_aload_n (pc := 10) dX12_setKind_10 0 rfl ?_
  refine m_getfin (pc := 11) (v := 605) hE dX12_setKind_11 flX12_13 rfl at603 rfl ?_
  refine v_bipush (pc := 14) dX12_setKind_14 (by decide) ?_
  refine v_iload_n (pc := 16) dX12_setKind_16 1 rfl ?_
  obtain ⟨o3, h⟩ := h
  refine m_iadd (pc := 17) dX12_setKind_17 o3 ?_
  refine v_iload_n (pc := 18) dX12_setKind_18 2 rfl ?_
  refine v_iconst (pc := 19) dX12_setKind_19 (by decide) ?_
  refine v_icmpne (pc := 20) (tgt := 35) dX12_setKind_20 (by decide) (fun c1 => ?_) (fun c1 => ?_)
  · have h := h.1 c1
    refine v_iconst (pc := 35) dX12_setKind_35 (by decide) ?_
    obtain ⟨o4, h⟩ := h
    refine v_iast (pc := 36) dX12_setKind_36 at605 o4.1 o4.2 ?_
    exact m_retV (pc := 37) dX12_setKind_37 rfl h
  · have h := h.2 c1
    refine v_aload_n (pc := 23) dX12_setKind_23 0 rfl ?_
    refine m_getfin (pc := 24) (v := 605) hE dX12_setKind_24 flX12_13 rfl at603 rfl ?_
    refine v_bipush (pc := 27) dX12_setKind_27 (by decide) ?_
    refine v_iload_n (pc := 29) dX12_setKind_29 1 rfl ?_
    refine m_iadd (pc := 30) dX12_setKind_30 o3 ?_
    obtain ⟨o5, h⟩ := h
    refine m_iald (pc := 31) (v := ((aUp mem 605 (80 + p0) p1) 605 (48 + p0))) dX12_setKind_31 at605 o5.1 o5.2 rfl ?_
    refine v_goto (pc := 32) (tgt := 36) dX12_setKind_32 (by decide) ?_
    refine v_iast (pc := 36) dX12_setKind_36 at605 o5.1 o5.2 ?_
    exact m_retV (pc := 37) dX12_setKind_37 rfl h
theorem eX12_setKind {E : EN} {k : Nat} {mem : Mm} {Q : Mm → Prop} {p0 p1 : Int} (hr_p0 : R32 p0) (hr_p1 : R32 p1) (h : VM E mX12_setKind k mem 0 [(0, aR 603), (1, aI p0), (2, aI p1)] [] (retV Q)) : CV E mX12_setKind k mem [aR 603, aI p0, aI p1] Q := CV_of rfl (Nat.le_of_ble_eq_true rfl) h (aNs_c (aNr_R _) (aNs_c (aNr_I hr_p0) (aNs_c (aNr_I hr_p1) (fun _ q => nomatch q))))

theorem dX12_put_0 : decode cX12_put 0 = .ok (.aload_n 0, 1) := by decide +kernel
theorem dX12_put_1 : decode cX12_put 1 = .ok (.iconst 0, 1) := by decide +kernel
theorem dX12_put_2 : decode cX12_put 2 = .ok (.putfield 162, 3) := by decide +kernel
theorem dX12_put_5 : decode cX12_put 5 = .ok (.iload_n 1, 1) := by decide +kernel
theorem dX12_put_6 : decode cX12_put 6 = .ok (.invokestatic 192, 3) := by decide +kernel
theorem dX12_put_9 : decode cX12_put 9 = .ok (.ifCond .eq 11, 3) := by decide +kernel
theorem dX12_put_12 : decode cX12_put 12 = .ok (.iload_n 2, 1) := by decide +kernel
theorem dX12_put_13 : decode cX12_put 13 = .ok (.iload_n 3, 1) := by decide +kernel
theorem dX12_put_14 : decode cX12_put 14 = .ok (.invokestatic 196, 3) := by decide +kernel
theorem dX12_put_17 : decode cX12_put 17 = .ok (.ifCond .ne 9, 3) := by decide +kernel
theorem dX12_put_20 : decode cX12_put 20 = .ok (.aload_n 0, 1) := by decide +kernel
theorem dX12_put_21 : decode cX12_put 21 = .ok (.iconst (-1), 1) := by decide +kernel
theorem dX12_put_22 : decode cX12_put 22 = .ok (.invokevirtual 175, 3) := by decide +kernel
theorem dX12_put_25 : decode cX12_put 25 = .ok (.ireturn, 1) := by decide +kernel
theorem dX12_put_26 : decode cX12_put 26 = .ok (.iload_n 2, 1) := by decide +kernel
theorem dX12_put_27 : decode cX12_put 27 = .ok (.ifCond .ne 19, 3) := by decide +kernel
theorem dX12_put_30 : decode cX12_put 30 = .ok (.iload_n 3, 1) := by decide +kernel
theorem dX12_put_31 : decode cX12_put 31 = .ok (.invokestatic 200, 3) := by decide +kernel
theorem dX12_put_34 : decode cX12_put 34 = .ok (.ifCond .eq 12, 3) := by decide +kernel
theorem dX12_put_37 : decode cX12_put 37 = .ok (.aload_n 0, 1) := by decide +kernel
theorem dX12_put_38 : decode cX12_put 38 = .ok (.iload_n 1, 1) := by decide +kernel
theorem dX12_put_39 : decode cX12_put 39 = .ok (.invokevirtual 203, 3) := by decide +kernel
theorem dX12_put_42 : decode cX12_put 42 = .ok (.iconst (-1), 1) := by decide +kernel
theorem dX12_put_43 : decode cX12_put 43 = .ok (.if_icmp .ne 26, 3) := by decide +kernel
theorem dX12_put_46 : decode cX12_put 46 = .ok (.iload_n 2, 1) := by decide +kernel
theorem dX12_put_47 : decode cX12_put 47 = .ok (.iconst 2, 1) := by decide +kernel
theorem dX12_put_48 : decode cX12_put 48 = .ok (.if_icmp .ne 28, 3) := by decide +kernel
theorem dX12_put_51 : decode cX12_put 51 = .ok (.iload_n 3, 1) := by decide +kernel
theorem dX12_put_52 : decode cX12_put 52 = .ok (.iconst 1, 1) := by decide +kernel
theorem dX12_put_53 : decode cX12_put 53 = .ok (.if_icmp .ne 23, 3) := by decide +kernel
theorem dX12_put_56 : decode cX12_put 56 = .ok (.aload_n 0, 1) := by decide +kernel
theorem dX12_put_57 : decode cX12_put 57 = .ok (.getfield 13, 3) := by decide +kernel
theorem dX12_put_60 : decode cX12_put 60 = .ok (.bipush 80, 2) := by decide +kernel
theorem dX12_put_62 : decode cX12_put 62 = .ok (.iload_n 1, 1) := by decide +kernel
theorem dX12_put_63 : decode cX12_put 63 = .ok (.iadd, 1) := by decide +kernel
theorem dX12_put_64 : decode cX12_put 64 = .ok (.iaload, 1) := by decide +kernel
theorem dX12_put_65 : decode cX12_put 65 = .ok (.iconst 1, 1) := by decide +kernel
theorem dX12_put_66 : decode cX12_put 66 = .ok (.if_icmp .eq 10, 3) := by decide +kernel
theorem dX12_put_69 : decode cX12_put 69 = .ok (.aload_n 0, 1) := by decide +kernel
theorem dX12_put_70 : decode cX12_put 70 = .ok (.bipush (-3), 2) := by decide +kernel
theorem dX12_put_72 : decode cX12_put 72 = .ok (.invokevirtual 175, 3) := by decide +kernel
theorem dX12_put_75 : decode cX12_put 75 = .ok (.ireturn, 1) := by decide +kernel
theorem dX12_put_76 : decode cX12_put 76 = .ok (.aload_n 0, 1) := by decide +kernel
theorem dX12_put_77 : decode cX12_put 77 = .ok (.iconst 0, 1) := by decide +kernel
theorem dX12_put_78 : decode cX12_put 78 = .ok (.putfield 168, 3) := by decide +kernel
theorem dX12_put_81 : decode cX12_put 81 = .ok (.iload_n 2, 1) := by decide +kernel
theorem dX12_put_82 : decode cX12_put 82 = .ok (.ifCond .ne 27, 3) := by decide +kernel
theorem dX12_put_85 : decode cX12_put 85 = .ok (.aload_n 0, 1) := by decide +kernel
theorem dX12_put_86 : decode cX12_put 86 = .ok (.getfield 13, 3) := by decide +kernel
theorem dX12_put_89 : decode cX12_put 89 = .ok (.bipush 80, 2) := by decide +kernel
theorem dX12_put_91 : decode cX12_put 91 = .ok (.iload_n 1, 1) := by decide +kernel
theorem dX12_put_92 : decode cX12_put 92 = .ok (.iadd, 1) := by decide +kernel
theorem dX12_put_93 : decode cX12_put 93 = .ok (.iaload, 1) := by decide +kernel
theorem dX12_put_94 : decode cX12_put 94 = .ok (.istore 4, 2) := by decide +kernel
theorem dX12_put_96 : decode cX12_put 96 = .ok (.aload_n 0, 1) := by decide +kernel
theorem dX12_put_97 : decode cX12_put 97 = .ok (.iload_n 1, 1) := by decide +kernel
theorem dX12_put_98 : decode cX12_put 98 = .ok (.iload_n 3, 1) := by decide +kernel
theorem dX12_put_99 : decode cX12_put 99 = .ok (.invokevirtual 206, 3) := by decide +kernel
theorem dX12_put_102 : decode cX12_put 102 = .ok (.aload_n 0, 1) := by decide +kernel
theorem dX12_put_103 : decode cX12_put 103 = .ok (.iload 4, 2) := by decide +kernel
theorem dX12_put_105 : decode cX12_put 105 = .ok (.invokevirtual 175, 3) := by decide +kernel
theorem dX12_put_108 : decode cX12_put 108 = .ok (.ireturn, 1) := by decide +kernel
theorem dX12_put_109 : decode cX12_put 109 = .ok (.aload_n 0, 1) := by decide +kernel
theorem dX12_put_110 : decode cX12_put 110 = .ok (.iload_n 2, 1) := by decide +kernel
theorem dX12_put_111 : decode cX12_put 111 = .ok (.iconst 1, 1) := by decide +kernel
theorem dX12_put_112 : decode cX12_put 112 = .ok (.if_icmp .ne 8, 3) := by decide +kernel
theorem dX12_put_115 : decode cX12_put 115 = .ok (.bipush 112, 2) := by decide +kernel
theorem dX12_put_117 : decode cX12_put 117 = .ok (.goto 5, 3) := by decide +kernel
theorem dX12_put_120 : decode cX12_put 120 = .ok (.bipush 48, 2) := by decide +kernel
theorem dX12_put_122 : decode cX12_put 122 = .ok (.iload_n 1, 1) := by decide +kernel
theorem dX12_put_123 : decode cX12_put 123 = .ok (.iadd, 1) := by decide +kernel
theorem dX12_put_124 : decode cX12_put 124 = .ok (.iload_n 3, 1) := by decide +kernel
theorem dX12_put_125 : decode cX12_put 125 = .ok (.invokevirtual 210, 3) := by decide +kernel
theorem dX12_put_128 : decode cX12_put 128 = .ok (.ireturn, 1) := by decide +kernel
set_option maxRecDepth 20000 in
theorem rX12_put_0 {E : EN} (hE : Ep E) {k : Nat} {mem : Mm} {Q : Int → Mm → Prop} {p0 p1 p2 : Int}
    (h : (R32 p0 → CI E mX12_isCell k (aUp mem 603 0 0) [aI p0] (fun r2 m1 => ((r2 = 0 → VM E mX12_put (k + 1) m1 20 [(0, aR 603)] [] (retI Q)) ∧ (¬ r2 = 0 → (R32 p1 → R32 p2 → CI E mX12_canBe k m1 [aI p1, aI p2] (fun r4 m3 => ((¬ r4 = 0 → ((¬ p1 = 0 → VM E mX12_put (k + 1) m3 46 [(0, aR 603), (1, aI p0), (2, aI p1), (3, aI p2)] [] (retI Q)) ∧ (p1 = 0 → (R32 p2 → CI E mX12_isSolid k m3 [aI p2] (fun r6 m5 => ((r6 = 0 → VM E mX12_put (k + 1) m5 46 [(0, aR 603), (1, aI p0), (2, aI p1), (3, aI p2)] [] (retI Q)) ∧ (¬ r6 = 0 → (R32 p0 → CI E mX12_plotIn k m5 [aR 603, aI p0] (fun r8 m7 => ((¬ r8 = (-1) → VM E mX12_put (k + 1) m7 69 [(0, aR 603)] [] (retI Q)) ∧ (r8 = (-1) → VM E mX12_put (k + 1) m7 46 [(0, aR 603), (1, aI p0), (2, aI p1), (3, aI p2)] [] (retI Q)))))))))))) ∧ (r4 = 0 → VM E mX12_put (k + 1) m3 20 [(0, aR 603)] [] (retI Q)))))))))) :
    VM E mX12_put (k + 1) mem 0 [(0, aR 603), (1, aI p0), (2, aI p1), (3, aI p2)] [] (retI Q) := by
  refine v_aload_n (pc := 0) dX12_put_0 0 rfl ?_
  refine v_iconst (pc := 1) dX12_put_1 (by decide) ?_
  refine v_putf (pc := 2) dX12_put_2 flX12_162 ⟨_, _, rfl, Or.inl rfl⟩ rfl (by decide) (fun q => nomatch q) (Or.inl fun _ => rfl) at603 ?_
  refine v_iload_n (pc := 5) dX12_put_5 1 rfl ?_
  refine m_invSI (pc := 6) (mi' := mX12_isCell) (rest := []) [aI p0] dX12_put_6 msX12_isCell stX12_isCell lkX12_192 rfl (Nat.le_of_ble_eq_true rfl) (fun hn => CI_mono (h (aaI hn 0 rfl)) (fun r2 m1 h => ?_))
  refine v_ifeq (pc := 9) (tgt := 20) dX12_put_9 (by decide) (fun c1 => ?_) (fun c1 => ?_)
  · have h := h.1 c1
    exact VG_sub (al' := [(0, aR 603)]) [0] rfl h
  · have h := h.2 c1
    refine v_iload_n (pc := 12) dX12_put_12 2 rfl ?_
    refine v_iload_n (pc := 13) dX12_put_13 3 rfl ?_
    refine m_invSI (pc := 14) (mi' := mX12_canBe) (rest := []) [aI p1, aI p2] dX12_put_14 msX12_canBe stX12_canBe lkX12_196 rfl (Nat.le_of_ble_eq_true rfl) (fun hn => CI_mono (h (aaI hn 0 rfl) (aaI hn 1 rfl)) (fun r4 m3 h => ?_))
    refine v_ifne (pc := 17) (tgt := 26) dX12_put_17 (by decide) (fun c1 => ?_) (fun c1 => ?_)
    · have h := h.1 c1
      refine v_iload_n (pc := 26) dX12_put_26 2 rfl ?_
      refine v_ifne (pc := 27) (tgt := 46) dX12_put_27 (by decide) (fun c1 => ?_) (fun c1 => ?_)
      · have h := h.1 c1
        exact VG_sub (al' := [(0, aR 603), (1, aI p0), (2, aI p1), (3, aI p2)]) [0, 1, 2, 3] rfl h
      · have h := h.2 c1
        refine v_iload_n (pc := 30) dX12_put_30 3 rfl ?_
        refine m_invSI (pc := 31) (mi' := mX12_isSolid) (rest := []) [aI p2] dX12_put_31 msX12_isSolid stX12_isSolid lkX12_200 rfl (Nat.le_of_ble_eq_true rfl) (fun hn => CI_mono (h (aaI hn 0 rfl)) (fun r6 m5 h => ?_))
        refine v_ifeq (pc := 34) (tgt := 46) dX12_put_34 (by decide) (fun c1 => ?_) (fun c1 => ?_)
        · have h := h.1 c1
          exact VG_sub (al' := [(0, aR 603), (1, aI p0), (2, aI p1), (3, aI p2)]) [0, 1, 2, 3] rfl h
        · have h := h.2 c1
          refine v_aload_n (pc := 37) dX12_put_37 0 rfl ?_
          refine v_iload_n (pc := 38) dX12_put_38 1 rfl ?_
          refine m_invI (pc := 39) (mi' := mX12_plotIn) (rest := []) [aI p0] dX12_put_39 at603 (by decide) rfl msX12_plotIn mvX12_plotIn lkX12_203 rfl (Nat.le_of_ble_eq_true rfl) (fun hn => CI_mono (h (aaI hn 1 rfl)) (fun r8 m7 h => ?_))
          refine v_iconst (pc := 42) dX12_put_42 (by decide) ?_
          refine v_icmpne (pc := 43) (tgt := 69) dX12_put_43 (by decide) (fun c1 => ?_) (fun c1 => ?_)
          · have h := h.1 c1
            exact VG_sub (al' := [(0, aR 603)]) [0] rfl h
          · have h := h.2 c1
            exact VG_sub (al' := [(0, aR 603), (1, aI p0), (2, aI p1), (3, aI p2)]) [0, 1, 2, 3] rfl h
    · have h := h.2 c1
      exact VG_sub (al' := [(0, aR 603)]) [0] rfl h
theorem eX12_put {E : EN} {k : Nat} {mem : Mm} {Q : Int → Mm → Prop} {p0 p1 p2 : Int} (hr_p0 : R32 p0) (hr_p1 : R32 p1) (hr_p2 : R32 p2) (h : VM E mX12_put (k + 1) mem 0 [(0, aR 603), (1, aI p0), (2, aI p1), (3, aI p2)] [] (retI Q)) : CI E mX12_put (k + 1) mem [aR 603, aI p0, aI p1, aI p2] Q := CI_of rfl (Nat.le_of_ble_eq_true rfl) h (aNs_c (aNr_R _) (aNs_c (aNr_I hr_p0) (aNs_c (aNr_I hr_p1) (aNs_c (aNr_I hr_p2) (fun _ q => nomatch q)))))
set_option maxRecDepth 20000 in
theorem rX12_put_20 {E : EN} (hE : Ep E) {k : Nat} {mem : Mm} {Q : Int → Mm → Prop} {p0 p1 p2 : Int}
    (h : (CI E mX12_tell k mem [aR 603, aI (-1)] (fun r2 m1 => Q r2 m1))) :
    VM E mX12_put (k + 1) mem 20 [(0, aR 603)] [] (retI Q) := by
  refine v_aload_n (pc := 20) dX12_put_20 0 rfl ?_
  refine v_iconst (pc := 21) dX12_put_21 (by decide) ?_
  refine m_invI (pc := 22) (mi' := mX12_tell) (rest := []) [aI (-1)] dX12_put_22 at603 (by decide) rfl msX12_tell mvX12_tell lkX12_175 rfl (Nat.le_of_ble_eq_true rfl) (fun hn => CI_mono (h) (fun r2 m1 h => ?_))
  exact m_retI (pc := 25) dX12_put_25 rfl h
set_option maxRecDepth 20000 in
theorem rX12_put_46 {E : EN} (hE : Ep E) {k : Nat} {mem : Mm} {Q : Int → Mm → Prop} {p0 p1 p2 : Int}
    (h : ((¬ p1 = 2 → VM E mX12_put (k + 1) mem 76 [(0, aR 603), (1, aI p0), (2, aI p1), (3, aI p2)] [] (retI Q)) ∧ (p1 = 2 → ((¬ p2 = 1 → VM E mX12_put (k + 1) mem 76 [(0, aR 603), (1, aI p0), (2, aI p1), (3, aI p2)] [] (retI Q)) ∧ (p2 = 1 → (R32 (80 + p0)) ∧ (0 ≤ (80 + p0) ∧ (80 + p0) < 5570) ∧ (((mem 605 (80 + p0)) = 1 → VM E mX12_put (k + 1) mem 76 [(0, aR 603), (1, aI p0), (2, aI p1), (3, aI p2)] [] (retI Q)) ∧ (¬ (mem 605 (80 + p0)) = 1 → VM E mX12_put (k + 1) mem 69 [(0, aR 603)] [] (retI Q)))))))) :
    VM E mX12_put (k + 1) mem 46 [(0, aR 603), (1, aI p0), (2, aI p1), (3, aI p2)] [] (retI Q) := by
  refine v_iload_n (pc := 46) dX12_put_46 2 rfl ?_
  refine v_iconst (pc := 47) dX12_put_47 (by decide) ?_
  refine v_icmpne (pc := 48) (tgt := 76) dX12_put_48 (by decide) (fun c1 => ?_) (fun c1 => ?_)
  · have h := h.1 c1
    exact VG_sub (al' := [(0, aR 603), (1, aI p0), (2, aI p1), (3, aI p2)]) [0, 1, 2, 3] rfl h
  · have h := h.2 c1
    refine v_iload_n (pc := 51) dX12_put_51 3 rfl ?_
    refine v_iconst (pc := 52) dX12_put_52 (by decide) ?_
    refine v_icmpne (pc := 53) (tgt := 76) dX12_put_53 (by decide) (fun c1 => ?_) (fun c1 => ?_)
    · have h := h.1 c1
      exact VG_sub (al' := [(0, aR 603), (1, aI p0), (2, aI p1), (3, aI p2)]) [0, 1, 2, 3] rfl h
    · have h := h.2 c1
      refine v_aload_n (pc := 56) dX12_put_56 0 rfl ?_
      refine m_getfin (pc := 57) (v := 605) hE dX12_put_57 flX12_13 rfl at603 rfl ?_
      refine v_bipush (pc := 60) dX12_put_60 (by decide) ?_
      refine v_iload_n (pc := 62) dX12_put_62 1 rfl ?_
      obtain ⟨o1, h⟩ := h
      refine m_iadd (pc := 63) dX12_put_63 o1 ?_
      obtain ⟨o2, h⟩ := h
      refine m_iald (pc := 64) (v := (mem 605 (80 + p0))) dX12_put_64 at605 o2.1 o2.2 rfl ?_
      refine v_iconst (pc := 65) dX12_put_65 (by decide) ?_
      refine v_icmpeq (pc := 66) (tgt := 76) dX12_put_66 (by decide) (fun c1 => ?_) (fun c1 => ?_)
      · have h := h.1 c1
        exact VG_sub (al' := [(0, aR 603), (1, aI p0), (2, aI p1), (3, aI p2)]) [0, 1, 2, 3] rfl h
      · have h := h.2 c1
        exact VG_sub (al' := [(0, aR 603)]) [0] rfl h
set_option maxRecDepth 20000 in
theorem rX12_put_69 {E : EN} (hE : Ep E) {k : Nat} {mem : Mm} {Q : Int → Mm → Prop} {p0 p1 p2 : Int}
    (h : (CI E mX12_tell k mem [aR 603, aI (-3)] (fun r2 m1 => Q r2 m1))) :
    VM E mX12_put (k + 1) mem 69 [(0, aR 603)] [] (retI Q) := by
  refine v_aload_n (pc := 69) dX12_put_69 0 rfl ?_
  refine v_bipush (pc := 70) dX12_put_70 (by decide) ?_
  refine m_invI (pc := 72) (mi' := mX12_tell) (rest := []) [aI (-3)] dX12_put_72 at603 (by decide) rfl msX12_tell mvX12_tell lkX12_175 rfl (Nat.le_of_ble_eq_true rfl) (fun hn => CI_mono (h) (fun r2 m1 h => ?_))
  exact m_retI (pc := 75) dX12_put_75 rfl h
set_option maxRecDepth 20000 in
theorem rX12_put_76 {E : EN} (hE : Ep E) {k : Nat} {mem : Mm} {Q : Int → Mm → Prop} {p0 p1 p2 : Int}
    (h : ((¬ p1 = 0 → ((¬ p1 = 1 → (R32 (48 + p0)) ∧ (R32 (48 + p0) → R32 p2 → CI E mX12_change k (aUp mem 603 8 0) [aR 603, aI (48 + p0), aI p2] (fun r3 m2 => Q r3 m2))) ∧ (p1 = 1 → (R32 (112 + p0)) ∧ (R32 (112 + p0) → R32 p2 → CI E mX12_change k (aUp mem 603 8 0) [aR 603, aI (112 + p0), aI p2] (fun r6 m5 => Q r6 m5))))) ∧ (p1 = 0 → (R32 (80 + p0)) ∧ (0 ≤ (80 + p0) ∧ (80 + p0) < 5570) ∧ (R32 p0 → R32 p2 → CV E mX12_setKind k (aUp mem 603 8 0) [aR 603, aI p0, aI p2] (fun m9 => (R32 (mem 605 (80 + p0)) → CI E mX12_tell k m9 [aR 603, aI (mem 605 (80 + p0))] (fun r11 m10 => Q r11 m10))))))) :
    VM E mX12_put (k + 1) mem 76 [(0, aR 603), (1, aI p0), (2, aI p1), (3, aI p2)] [] (retI Q) := by
  refine v_aload_n (pc := 76) dX12_put_76 0 rfl ?_
  refine v_iconst (pc := 77) dX12_put_77 (by decide) ?_
  refine v_putf (pc := 78) dX12_put_78 flX12_168 ⟨_, _, rfl, Or.inl rfl⟩ rfl (by decide) (fun q => nomatch q) (Or.inl fun _ => rfl) at603 ?_
  refine v_iload_n (pc := 81) dX12_put_81 2 rfl ?_
  refine v_ifne (pc := 82) (tgt := 109) dX12_put_82 (by decide) (fun c1 => ?_) (fun c1 => ?_)
  · have h := h.1 c1
    refine v_aload_n (pc := 109) dX12_put_109 0 rfl ?_
    refine v_iload_n (pc := 110) dX12_put_110 2 rfl ?_
    refine v_iconst (pc := 111) dX12_put_111 (by decide) ?_
    refine v_icmpne (pc := 112) (tgt := 120) dX12_put_112 (by decide) (fun c1 => ?_) (fun c1 => ?_)
    · have h := h.1 c1
      refine v_bipush (pc := 120) dX12_put_120 (by decide) ?_
      refine v_iload_n (pc := 122) dX12_put_122 1 rfl ?_
      obtain ⟨o1, h⟩ := h
      refine m_iadd (pc := 123) dX12_put_123 o1 ?_
      refine v_iload_n (pc := 124) dX12_put_124 3 rfl ?_
      refine m_invI (pc := 125) (mi' := mX12_change) (rest := []) [aI (48 + p0), aI p2] dX12_put_125 at603 (by decide) rfl msX12_change mvX12_change lkX12_210 rfl (Nat.le_of_ble_eq_true rfl) (fun hn => CI_mono (h (aaI hn 1 rfl) (aaI hn 2 rfl)) (fun r3 m2 h => ?_))
      exact m_retI (pc := 128) dX12_put_128 rfl h
    · have h := h.2 c1
      refine v_bipush (pc := 115) dX12_put_115 (by decide) ?_
      refine v_goto (pc := 117) (tgt := 122) dX12_put_117 (by decide) ?_
      refine v_iload_n (pc := 122) dX12_put_122 1 rfl ?_
      obtain ⟨o4, h⟩ := h
      refine m_iadd (pc := 123) dX12_put_123 o4 ?_
      refine v_iload_n (pc := 124) dX12_put_124 3 rfl ?_
      refine m_invI (pc := 125) (mi' := mX12_change) (rest := []) [aI (112 + p0), aI p2] dX12_put_125 at603 (by decide) rfl msX12_change mvX12_change lkX12_210 rfl (Nat.le_of_ble_eq_true rfl) (fun hn => CI_mono (h (aaI hn 1 rfl) (aaI hn 2 rfl)) (fun r6 m5 h => ?_))
      exact m_retI (pc := 128) dX12_put_128 rfl h
  · have h := h.2 c1
    refine v_aload_n (pc := 85) dX12_put_85 0 rfl ?_
    refine m_getfin (pc := 86) (v := 605) hE dX12_put_86 flX12_13 rfl at603 rfl ?_
    refine v_bipush (pc := 89) dX12_put_89 (by decide) ?_
    refine v_iload_n (pc := 91) dX12_put_91 1 rfl ?_
    obtain ⟨o7, h⟩ := h
    refine m_iadd (pc := 92) dX12_put_92 o7 ?_
    obtain ⟨o8, h⟩ := h
    refine m_iald (pc := 93) (v := (mem 605 (80 + p0))) dX12_put_93 at605 o8.1 o8.2 (aUp_rn (by omega)) ?_
    refine v_istore (pc := 94) (al2 := [(4, aI (mem 605 (80 + p0))), (0, aR 603), (1, aI p0), (2, aI p1), (3, aI p2)]) dX12_put_94 (by decide) rfl ?_
    refine v_aload_n (pc := 96) dX12_put_96 1 rfl ?_
    refine v_iload_n (pc := 97) dX12_put_97 2 rfl ?_
    refine v_iload_n (pc := 98) dX12_put_98 4 rfl ?_
    refine m_invV (pc := 99) (mi' := mX12_setKind) (rest := []) [aI p0, aI p2] dX12_put_99 at603 (by decide) rfl msX12_setKind mvX12_setKind lkX12_206 rfl (Nat.le_of_ble_eq_true rfl) (fun hn => CV_mono (h (aaI hn 1 rfl) (aaI hn 2 rfl)) (fun m9 h => ?_))
    refine v_aload_n (pc := 102) dX12_put_102 1 rfl ?_
    refine v_iload (pc := 103) dX12_put_103 0 rfl ?_
    refine m_invI (pc := 105) (mi' := mX12_tell) (rest := []) [aI (mem 605 (80 + p0))] dX12_put_105 at603 (by decide) rfl msX12_tell mvX12_tell lkX12_175 rfl (Nat.le_of_ble_eq_true rfl) (fun hn => CI_mono (h (aaI hn 1 rfl)) (fun r11 m10 h => ?_))
    exact m_retI (pc := 108) dX12_put_108 rfl h

theorem dX12_at_0 : decode cX12_at 0 = .ok (.aload_n 0, 1) := by decide +kernel
theorem dX12_at_1 : decode cX12_at 1 = .ok (.iconst 0, 1) := by decide +kernel
theorem dX12_at_2 : decode cX12_at 2 = .ok (.putfield 162, 3) := by decide +kernel
theorem dX12_at_5 : decode cX12_at 5 = .ok (.iload_n 1, 1) := by decide +kernel
theorem dX12_at_6 : decode cX12_at 6 = .ok (.invokestatic 192, 3) := by decide +kernel
theorem dX12_at_9 : decode cX12_at 9 = .ok (.ifCond .ne 5, 3) := by decide +kernel
theorem dX12_at_12 : decode cX12_at 12 = .ok (.iconst (-1), 1) := by decide +kernel
theorem dX12_at_13 : decode cX12_at 13 = .ok (.ireturn, 1) := by decide +kernel
theorem dX12_at_14 : decode cX12_at 14 = .ok (.iload_n 2, 1) := by decide +kernel
theorem dX12_at_15 : decode cX12_at 15 = .ok (.tableswitch 65 0 3 #[29, 39, 49, 59], 29) := by decide +kernel
theorem dX12_at_44 : decode cX12_at 44 = .ok (.aload_n 0, 1) := by decide +kernel
theorem dX12_at_45 : decode cX12_at 45 = .ok (.getfield 13, 3) := by decide +kernel
theorem dX12_at_48 : decode cX12_at 48 = .ok (.bipush 80, 2) := by decide +kernel
theorem dX12_at_50 : decode cX12_at 50 = .ok (.iload_n 1, 1) := by decide +kernel
theorem dX12_at_51 : decode cX12_at 51 = .ok (.iadd, 1) := by decide +kernel
theorem dX12_at_52 : decode cX12_at 52 = .ok (.iaload, 1) := by decide +kernel
theorem dX12_at_53 : decode cX12_at 53 = .ok (.ireturn, 1) := by decide +kernel
theorem dX12_at_54 : decode cX12_at 54 = .ok (.aload_n 0, 1) := by decide +kernel
theorem dX12_at_55 : decode cX12_at 55 = .ok (.getfield 13, 3) := by decide +kernel
theorem dX12_at_58 : decode cX12_at 58 = .ok (.bipush 112, 2) := by decide +kernel
theorem dX12_at_60 : decode cX12_at 60 = .ok (.iload_n 1, 1) := by decide +kernel
theorem dX12_at_61 : decode cX12_at 61 = .ok (.iadd, 1) := by decide +kernel
theorem dX12_at_62 : decode cX12_at 62 = .ok (.iaload, 1) := by decide +kernel
theorem dX12_at_63 : decode cX12_at 63 = .ok (.ireturn, 1) := by decide +kernel
theorem dX12_at_64 : decode cX12_at 64 = .ok (.aload_n 0, 1) := by decide +kernel
theorem dX12_at_65 : decode cX12_at 65 = .ok (.getfield 13, 3) := by decide +kernel
theorem dX12_at_68 : decode cX12_at 68 = .ok (.bipush 48, 2) := by decide +kernel
theorem dX12_at_70 : decode cX12_at 70 = .ok (.iload_n 1, 1) := by decide +kernel
theorem dX12_at_71 : decode cX12_at 71 = .ok (.iadd, 1) := by decide +kernel
theorem dX12_at_72 : decode cX12_at 72 = .ok (.iaload, 1) := by decide +kernel
theorem dX12_at_73 : decode cX12_at 73 = .ok (.ireturn, 1) := by decide +kernel
theorem dX12_at_74 : decode cX12_at 74 = .ok (.aload_n 0, 1) := by decide +kernel
theorem dX12_at_75 : decode cX12_at 75 = .ok (.iload_n 1, 1) := by decide +kernel
theorem dX12_at_76 : decode cX12_at 76 = .ok (.invokevirtual 203, 3) := by decide +kernel
theorem dX12_at_79 : decode cX12_at 79 = .ok (.ireturn, 1) := by decide +kernel
theorem dX12_at_80 : decode cX12_at 80 = .ok (.iconst (-1), 1) := by decide +kernel
theorem dX12_at_81 : decode cX12_at 81 = .ok (.ireturn, 1) := by decide +kernel
set_option maxRecDepth 20000 in
theorem rX12_at_0 {E : EN} (hE : Ep E) {k : Nat} {mem : Mm} {Q : Int → Mm → Prop} {p0 p1 : Int}
    (h : (R32 p0 → CI E mX12_isCell k (aUp mem 603 0 0) [aI p0] (fun r2 m1 => ((¬ r2 = 0 → ((p1 = 0 → (R32 (80 + p0)) ∧ (0 ≤ (80 + p0) ∧ (80 + p0) < 5570) ∧ Q (m1 605 (80 + p0)) m1) ∧ (p1 = 1 → (R32 (112 + p0)) ∧ (0 ≤ (112 + p0) ∧ (112 + p0) < 5570) ∧ Q (m1 605 (112 + p0)) m1) ∧ (p1 = 2 → (R32 (48 + p0)) ∧ (0 ≤ (48 + p0) ∧ (48 + p0) < 5570) ∧ Q (m1 605 (48 + p0)) m1) ∧ (p1 = 3 → (R32 p0 → CI E mX12_plotIn k m1 [aR 603, aI p0] (fun r10 m9 => Q r10 m9))) ∧ (p1 < 0 ∨ 3 < p1 → Q (-1) m1))) ∧ (r2 = 0 → Q (-1) m1))))) :
    VM E mX12_at (k + 1) mem 0 [(0, aR 603), (1, aI p0), (2, aI p1)] [] (retI Q) := by
  refine v_aload_n (pc := 0) dX12_at_0 0 rfl ?_
  refine v_iconst (pc := 1) dX12_at_1 (by decide) ?_
  refine v_putf (pc := 2) dX12_at_2 flX12_162 ⟨_, _, rfl, Or.inl rfl⟩ rfl (by decide) (fun q => nomatch q) (Or.inl fun _ => rfl) at603 ?_
  refine v_iload_n (pc := 5) dX12_at_5 1 rfl ?_
  refine m_invSI (pc := 6) (mi' := mX12_isCell) (rest := []) [aI p0] dX12_at_6 msX12_isCell stX12_isCell lkX12_192 rfl (Nat.le_of_ble_eq_true rfl) (fun hn => CI_mono (h (aaI hn 0 rfl)) (fun r2 m1 h => ?_))
  refine v_ifne (pc := 9) (tgt := 14) dX12_at_9 (by decide) (fun c1 => ?_) (fun c1 => ?_)
  · have h := h.1 c1
    refine v_iload_n (pc := 14) dX12_at_14 2 rfl ?_
    rcases (show p1 = 0 ∨ p1 = 1 ∨ p1 = 2 ∨ p1 = 3 ∨ (p1 < 0 ∨ 3 < p1) by omega) with c1 | c1 | c1 | c1 | c1
    · have h := h.1 c1
      refine v_tabIn (pc := 15) (tgt := 44) dX12_at_15 (by omega) (by omega) (by rw [c1] <;> rfl) (by decide) ?_
      refine v_aload_n (pc := 44) dX12_at_44 0 rfl ?_
      refine m_getfin (pc := 45) (v := 605) hE dX12_at_45 flX12_13 rfl at603 rfl ?_
      refine v_bipush (pc := 48) dX12_at_48 (by decide) ?_
      refine v_iload_n (pc := 50) dX12_at_50 1 rfl ?_
      obtain ⟨o3, h⟩ := h
      refine m_iadd (pc := 51) dX12_at_51 o3 ?_
      obtain ⟨o4, h⟩ := h
      refine m_iald (pc := 52) (v := (m1 605 (80 + p0))) dX12_at_52 at605 o4.1 o4.2 rfl ?_
      exact m_retI (pc := 53) dX12_at_53 rfl h
    · have h := h.2.1 c1
      refine v_tabIn (pc := 15) (tgt := 54) dX12_at_15 (by omega) (by omega) (by rw [c1] <;> rfl) (by decide) ?_
      refine v_aload_n (pc := 54) dX12_at_54 0 rfl ?_
      refine m_getfin (pc := 55) (v := 605) hE dX12_at_55 flX12_13 rfl at603 rfl ?_
      refine v_bipush (pc := 58) dX12_at_58 (by decide) ?_
      refine v_iload_n (pc := 60) dX12_at_60 1 rfl ?_
      obtain ⟨o5, h⟩ := h
      refine m_iadd (pc := 61) dX12_at_61 o5 ?_
      obtain ⟨o6, h⟩ := h
      refine m_iald (pc := 62) (v := (m1 605 (112 + p0))) dX12_at_62 at605 o6.1 o6.2 rfl ?_
      exact m_retI (pc := 63) dX12_at_63 rfl h
    · have h := h.2.2.1 c1
      refine v_tabIn (pc := 15) (tgt := 64) dX12_at_15 (by omega) (by omega) (by rw [c1] <;> rfl) (by decide) ?_
      refine v_aload_n (pc := 64) dX12_at_64 0 rfl ?_
      refine m_getfin (pc := 65) (v := 605) hE dX12_at_65 flX12_13 rfl at603 rfl ?_
      refine v_bipush (pc := 68) dX12_at_68 (by decide) ?_
      refine v_iload_n (pc := 70) dX12_at_70 1 rfl ?_
      obtain ⟨o7, h⟩ := h
      refine m_iadd (pc := 71) dX12_at_71 o7 ?_
      obtain ⟨o8, h⟩ := h
      refine m_iald (pc := 72) (v := (m1 605 (48 + p0))) dX12_at_72 at605 o8.1 o8.2 rfl ?_
      exact m_retI (pc := 73) dX12_at_73 rfl h
    · have h := h.2.2.2.1 c1
      refine v_tabIn (pc := 15) (tgt := 74) dX12_at_15 (by omega) (by omega) (by rw [c1] <;> rfl) (by decide) ?_
      refine v_aload_n (pc := 74) dX12_at_74 0 rfl ?_
      refine v_iload_n (pc := 75) dX12_at_75 1 rfl ?_
      refine m_invI (pc := 76) (mi' := mX12_plotIn) (rest := []) [aI p0] dX12_at_76 at603 (by decide) rfl msX12_plotIn mvX12_plotIn lkX12_203 rfl (Nat.le_of_ble_eq_true rfl) (fun hn => CI_mono (h (aaI hn 1 rfl)) (fun r10 m9 h => ?_))
      exact m_retI (pc := 79) dX12_at_79 rfl h
    · have h := h.2.2.2.2 c1
      refine v_tabOut (pc := 15) (tgt := 80) dX12_at_15 c1 (by decide) ?_
      refine v_iconst (pc := 80) dX12_at_80 (by decide) ?_
      exact m_retI (pc := 81) dX12_at_81 rfl h
  · have h := h.2 c1
    refine v_iconst (pc := 12) dX12_at_12 (by decide) ?_
    exact m_retI (pc := 13) dX12_at_13 rfl h
theorem eX12_at {E : EN} {k : Nat} {mem : Mm} {Q : Int → Mm → Prop} {p0 p1 : Int} (hr_p0 : R32 p0) (hr_p1 : R32 p1) (h : VM E mX12_at (k + 1) mem 0 [(0, aR 603), (1, aI p0), (2, aI p1)] [] (retI Q)) : CI E mX12_at (k + 1) mem [aR 603, aI p0, aI p1] Q := CI_of rfl (Nat.le_of_ble_eq_true rfl) h (aNs_c (aNr_R _) (aNs_c (aNr_I hr_p0) (aNs_c (aNr_I hr_p1) (fun _ q => nomatch q))))

theorem dX12_of_0 : decode cX12_of 0 = .ok (.aload_n 0, 1) := by decide +kernel
theorem dX12_of_1 : decode cX12_of 1 = .ok (.iconst 0, 1) := by decide +kernel
theorem dX12_of_2 : decode cX12_of 2 = .ok (.putfield 162, 3) := by decide +kernel
theorem dX12_of_5 : decode cX12_of 5 = .ok (.aload_n 0, 1) := by decide +kernel
theorem dX12_of_6 : decode cX12_of 6 = .ok (.iload_n 1, 1) := by decide +kernel
theorem dX12_of_7 : decode cX12_of 7 = .ok (.invokevirtual 214, 3) := by decide +kernel
theorem dX12_of_10 : decode cX12_of 10 = .ok (.ifCond .ne 5, 3) := by decide +kernel
theorem dX12_of_13 : decode cX12_of 13 = .ok (.iconst (-1), 1) := by decide +kernel
theorem dX12_of_14 : decode cX12_of 14 = .ok (.ireturn, 1) := by decide +kernel
theorem dX12_of_15 : decode cX12_of 15 = .ok (.iload_n 2, 1) := by decide +kernel
theorem dX12_of_16 : decode cX12_of 16 = .ok (.tableswitch 92 0 5 #[40, 50, 60, 70, 80, 86], 40) := by decide +kernel
theorem dX12_of_56 : decode cX12_of 56 = .ok (.aload_n 0, 1) := by decide +kernel
theorem dX12_of_57 : decode cX12_of 57 = .ok (.getfield 13, 3) := by decide +kernel
theorem dX12_of_60 : decode cX12_of 60 = .ok (.bipush 8, 2) := by decide +kernel
theorem dX12_of_62 : decode cX12_of 62 = .ok (.iload_n 1, 1) := by decide +kernel
theorem dX12_of_63 : decode cX12_of 63 = .ok (.iadd, 1) := by decide +kernel
theorem dX12_of_64 : decode cX12_of 64 = .ok (.iaload, 1) := by decide +kernel
theorem dX12_of_65 : decode cX12_of 65 = .ok (.ireturn, 1) := by decide +kernel
theorem dX12_of_66 : decode cX12_of 66 = .ok (.aload_n 0, 1) := by decide +kernel
theorem dX12_of_67 : decode cX12_of 67 = .ok (.getfield 13, 3) := by decide +kernel
theorem dX12_of_70 : decode cX12_of 70 = .ok (.bipush 18, 2) := by decide +kernel
theorem dX12_of_72 : decode cX12_of 72 = .ok (.iload_n 1, 1) := by decide +kernel
theorem dX12_of_73 : decode cX12_of 73 = .ok (.iadd, 1) := by decide +kernel
theorem dX12_of_74 : decode cX12_of 74 = .ok (.iaload, 1) := by decide +kernel
theorem dX12_of_75 : decode cX12_of 75 = .ok (.ireturn, 1) := by decide +kernel
theorem dX12_of_76 : decode cX12_of 76 = .ok (.aload_n 0, 1) := by decide +kernel
theorem dX12_of_77 : decode cX12_of 77 = .ok (.getfield 13, 3) := by decide +kernel
theorem dX12_of_80 : decode cX12_of 80 = .ok (.bipush 28, 2) := by decide +kernel
theorem dX12_of_82 : decode cX12_of 82 = .ok (.iload_n 1, 1) := by decide +kernel
theorem dX12_of_83 : decode cX12_of 83 = .ok (.iadd, 1) := by decide +kernel
theorem dX12_of_84 : decode cX12_of 84 = .ok (.iaload, 1) := by decide +kernel
theorem dX12_of_85 : decode cX12_of 85 = .ok (.ireturn, 1) := by decide +kernel
theorem dX12_of_86 : decode cX12_of 86 = .ok (.aload_n 0, 1) := by decide +kernel
theorem dX12_of_87 : decode cX12_of 87 = .ok (.getfield 13, 3) := by decide +kernel
theorem dX12_of_90 : decode cX12_of 90 = .ok (.bipush 38, 2) := by decide +kernel
theorem dX12_of_92 : decode cX12_of 92 = .ok (.iload_n 1, 1) := by decide +kernel
theorem dX12_of_93 : decode cX12_of 93 = .ok (.iadd, 1) := by decide +kernel
theorem dX12_of_94 : decode cX12_of 94 = .ok (.iaload, 1) := by decide +kernel
theorem dX12_of_95 : decode cX12_of 95 = .ok (.ireturn, 1) := by decide +kernel
theorem dX12_of_96 : decode cX12_of 96 = .ok (.aload_n 0, 1) := by decide +kernel
theorem dX12_of_97 : decode cX12_of 97 = .ok (.iload_n 1, 1) := by decide +kernel
theorem dX12_of_98 : decode cX12_of 98 = .ok (.invokevirtual 217, 3) := by decide +kernel
theorem dX12_of_101 : decode cX12_of 101 = .ok (.ireturn, 1) := by decide +kernel
theorem dX12_of_102 : decode cX12_of 102 = .ok (.aload_n 0, 1) := by decide +kernel
theorem dX12_of_103 : decode cX12_of 103 = .ok (.iload_n 1, 1) := by decide +kernel
theorem dX12_of_104 : decode cX12_of 104 = .ok (.invokevirtual 220, 3) := by decide +kernel
theorem dX12_of_107 : decode cX12_of 107 = .ok (.ireturn, 1) := by decide +kernel
theorem dX12_of_108 : decode cX12_of 108 = .ok (.iconst (-1), 1) := by decide +kernel
theorem dX12_of_109 : decode cX12_of 109 = .ok (.ireturn, 1) := by decide +kernel
set_option maxRecDepth 20000 in
theorem rX12_of_0 {E : EN} (hE : Ep E) {k : Nat} {mem : Mm} {Q : Int → Mm → Prop} {p0 p1 : Int}
    (h : (R32 p0 → CI E mX12_isPlot k (aUp mem 603 0 0) [aR 603, aI p0] (fun r2 m1 => ((¬ r2 = 0 → ((p1 = 0 → (R32 (8 + p0)) ∧ (0 ≤ (8 + p0) ∧ (8 + p0) < 5570) ∧ Q (m1 605 (8 + p0)) m1) ∧ (p1 = 1 → (R32 (18 + p0)) ∧ (0 ≤ (18 + p0) ∧ (18 + p0) < 5570) ∧ Q (m1 605 (18 + p0)) m1) ∧ (p1 = 2 → (R32 (28 + p0)) ∧ (0 ≤ (28 + p0) ∧ (28 + p0) < 5570) ∧ Q (m1 605 (28 + p0)) m1) ∧ (p1 = 3 → (R32 (38 + p0)) ∧ (0 ≤ (38 + p0) ∧ (38 + p0) < 5570) ∧ Q (m1 605 (38 + p0)) m1) ∧ (p1 = 4 → (R32 p0 → CI E mX12_movesOf k m1 [aR 603, aI p0] (fun r12 m11 => Q r12 m11))) ∧ (p1 = 5 → (R32 p0 → CI E mX12_digsOf k m1 [aR 603, aI p0] (fun r14 m13 => Q r14 m13))) ∧ (p1 < 0 ∨ 5 < p1 → Q (-1) m1))) ∧ (r2 = 0 → Q (-1) m1))))) :
    VM E mX12_of (k + 1) mem 0 [(0, aR 603), (1, aI p0), (2, aI p1)] [] (retI Q) := by
  refine v_aload_n (pc := 0) dX12_of_0 0 rfl ?_
  refine v_iconst (pc := 1) dX12_of_1 (by decide) ?_
  refine v_putf (pc := 2) dX12_of_2 flX12_162 ⟨_, _, rfl, Or.inl rfl⟩ rfl (by decide) (fun q => nomatch q) (Or.inl fun _ => rfl) at603 ?_
  refine v_aload_n (pc := 5) dX12_of_5 0 rfl ?_
  refine v_iload_n (pc := 6) dX12_of_6 1 rfl ?_
  refine m_invI (pc := 7) (mi' := mX12_isPlot) (rest := []) [aI p0] dX12_of_7 at603 (by decide) rfl msX12_isPlot mvX12_isPlot lkX12_214 rfl (Nat.le_of_ble_eq_true rfl) (fun hn => CI_mono (h (aaI hn 1 rfl)) (fun r2 m1 h => ?_))
  refine v_ifne (pc := 10) (tgt := 15) dX12_of_10 (by decide) (fun c1 => ?_) (fun c1 => ?_)
  · have h := h.1 c1
    refine v_iload_n (pc := 15) dX12_of_15 2 rfl ?_
    rcases (show p1 = 0 ∨ p1 = 1 ∨ p1 = 2 ∨ p1 = 3 ∨ p1 = 4 ∨ p1 = 5 ∨ (p1 < 0 ∨ 5 < p1) by omega) with c1 | c1 | c1 | c1 | c1 | c1 | c1
    · have h := h.1 c1
      refine v_tabIn (pc := 16) (tgt := 56) dX12_of_16 (by omega) (by omega) (by rw [c1] <;> rfl) (by decide) ?_
      refine v_aload_n (pc := 56) dX12_of_56 0 rfl ?_
      refine m_getfin (pc := 57) (v := 605) hE dX12_of_57 flX12_13 rfl at603 rfl ?_
      refine v_bipush (pc := 60) dX12_of_60 (by decide) ?_
      refine v_iload_n (pc := 62) dX12_of_62 1 rfl ?_
      obtain ⟨o3, h⟩ := h
      refine m_iadd (pc := 63) dX12_of_63 o3 ?_
      obtain ⟨o4, h⟩ := h
      refine m_iald (pc := 64) (v := (m1 605 (8 + p0))) dX12_of_64 at605 o4.1 o4.2 rfl ?_
      exact m_retI (pc := 65) dX12_of_65 rfl h
    · have h := h.2.1 c1
      refine v_tabIn (pc := 16) (tgt := 66) dX12_of_16 (by omega) (by omega) (by rw [c1] <;> rfl) (by decide) ?_
      refine v_aload_n (pc := 66) dX12_of_66 0 rfl ?_
      refine m_getfin (pc := 67) (v := 605) hE dX12_of_67 flX12_13 rfl at603 rfl ?_
      refine v_bipush (pc := 70) dX12_of_70 (by decide) ?_
      refine v_iload_n (pc := 72) dX12_of_72 1 rfl ?_
      obtain ⟨o5, h⟩ := h
      refine m_iadd (pc := 73) dX12_of_73 o5 ?_
      obtain ⟨o6, h⟩ := h
      refine m_iald (pc := 74) (v := (m1 605 (18 + p0))) dX12_of_74 at605 o6.1 o6.2 rfl ?_
      exact m_retI (pc := 75) dX12_of_75 rfl h
    · have h := h.2.2.1 c1
      refine v_tabIn (pc := 16) (tgt := 76) dX12_of_16 (by omega) (by omega) (by rw [c1] <;> rfl) (by decide) ?_
      refine v_aload_n (pc := 76) dX12_of_76 0 rfl ?_
      refine m_getfin (pc := 77) (v := 605) hE dX12_of_77 flX12_13 rfl at603 rfl ?_
      refine v_bipush (pc := 80) dX12_of_80 (by decide) ?_
      refine v_iload_n (pc := 82) dX12_of_82 1 rfl ?_
      obtain ⟨o7, h⟩ := h
      refine m_iadd (pc := 83) dX12_of_83 o7 ?_
      obtain ⟨o8, h⟩ := h
      refine m_iald (pc := 84) (v := (m1 605 (28 + p0))) dX12_of_84 at605 o8.1 o8.2 rfl ?_
      exact m_retI (pc := 85) dX12_of_85 rfl h
    · have h := h.2.2.2.1 c1
      refine v_tabIn (pc := 16) (tgt := 86) dX12_of_16 (by omega) (by omega) (by rw [c1] <;> rfl) (by decide) ?_
      refine v_aload_n (pc := 86) dX12_of_86 0 rfl ?_
      refine m_getfin (pc := 87) (v := 605) hE dX12_of_87 flX12_13 rfl at603 rfl ?_
      refine v_bipush (pc := 90) dX12_of_90 (by decide) ?_
      refine v_iload_n (pc := 92) dX12_of_92 1 rfl ?_
      obtain ⟨o9, h⟩ := h
      refine m_iadd (pc := 93) dX12_of_93 o9 ?_
      obtain ⟨o10, h⟩ := h
      refine m_iald (pc := 94) (v := (m1 605 (38 + p0))) dX12_of_94 at605 o10.1 o10.2 rfl ?_
      exact m_retI (pc := 95) dX12_of_95 rfl h
    · have h := h.2.2.2.2.1 c1
      refine v_tabIn (pc := 16) (tgt := 96) dX12_of_16 (by omega) (by omega) (by rw [c1] <;> rfl) (by decide) ?_
      refine v_aload_n (pc := 96) dX12_of_96 0 rfl ?_
      refine v_iload_n (pc := 97) dX12_of_97 1 rfl ?_
      refine m_invI (pc := 98) (mi' := mX12_movesOf) (rest := []) [aI p0] dX12_of_98 at603 (by decide) rfl msX12_movesOf mvX12_movesOf lkX12_217 rfl (Nat.le_of_ble_eq_true rfl) (fun hn => CI_mono (h (aaI hn 1 rfl)) (fun r12 m11 h => ?_))
      exact m_retI (pc := 101) dX12_of_101 rfl h
    · have h := h.2.2.2.2.2.1 c1
      refine v_tabIn (pc := 16) (tgt := 102) dX12_of_16 (by omega) (by omega) (by rw [c1] <;> rfl) (by decide) ?_
      refine v_aload_n (pc := 102) dX12_of_102 0 rfl ?_
      refine v_iload_n (pc := 103) dX12_of_103 1 rfl ?_
      refine m_invI (pc := 104) (mi' := mX12_digsOf) (rest := []) [aI p0] dX12_of_104 at603 (by decide) rfl msX12_digsOf mvX12_digsOf lkX12_220 rfl (Nat.le_of_ble_eq_true rfl) (fun hn => CI_mono (h (aaI hn 1 rfl)) (fun r14 m13 h => ?_))
      exact m_retI (pc := 107) dX12_of_107 rfl h
    · have h := h.2.2.2.2.2.2 c1
      refine v_tabOut (pc := 16) (tgt := 108) dX12_of_16 c1 (by decide) ?_
      refine v_iconst (pc := 108) dX12_of_108 (by decide) ?_
      exact m_retI (pc := 109) dX12_of_109 rfl h
  · have h := h.2 c1
    refine v_iconst (pc := 13) dX12_of_13 (by decide) ?_
    exact m_retI (pc := 14) dX12_of_14 rfl h
theorem eX12_of {E : EN} {k : Nat} {mem : Mm} {Q : Int → Mm → Prop} {p0 p1 : Int} (hr_p0 : R32 p0) (hr_p1 : R32 p1) (h : VM E mX12_of (k + 1) mem 0 [(0, aR 603), (1, aI p0), (2, aI p1)] [] (retI Q)) : CI E mX12_of (k + 1) mem [aR 603, aI p0, aI p1] Q := CI_of rfl (Nat.le_of_ble_eq_true rfl) h (aNs_c (aNr_R _) (aNs_c (aNr_I hr_p0) (aNs_c (aNr_I hr_p1) (fun _ q => nomatch q))))

theorem dX12_terms_0 : decode cX12_terms 0 = .ok (.aload_n 0, 1) := by decide +kernel
theorem dX12_terms_1 : decode cX12_terms 1 = .ok (.iconst 0, 1) := by decide +kernel
theorem dX12_terms_2 : decode cX12_terms 2 = .ok (.putfield 162, 3) := by decide +kernel
theorem dX12_terms_5 : decode cX12_terms 5 = .ok (.iload_n 1, 1) := by decide +kernel
theorem dX12_terms_6 : decode cX12_terms 6 = .ok (.ifCond .ne 15, 3) := by decide +kernel
theorem dX12_terms_9 : decode cX12_terms 9 = .ok (.iload_n 2, 1) := by decide +kernel
theorem dX12_terms_10 : decode cX12_terms 10 = .ok (.i2l, 1) := by decide +kernel
theorem dX12_terms_11 : decode cX12_terms 11 = .ok (.lconst 0, 1) := by decide +kernel
theorem dX12_terms_12 : decode cX12_terms 12 = .ok (.ldc2_w 223, 3) := by decide +kernel
theorem dX12_terms_15 : decode cX12_terms 15 = .ok (.invokestatic 182, 3) := by decide +kernel
theorem dX12_terms_18 : decode cX12_terms 18 = .ok (.goto 59, 3) := by decide +kernel
theorem dX12_terms_21 : decode cX12_terms 21 = .ok (.iload_n 1, 1) := by decide +kernel
theorem dX12_terms_22 : decode cX12_terms 22 = .ok (.iconst 1, 1) := by decide +kernel
theorem dX12_terms_23 : decode cX12_terms 23 = .ok (.if_icmp .ne 15, 3) := by decide +kernel
theorem dX12_terms_26 : decode cX12_terms 26 = .ok (.iload_n 2, 1) := by decide +kernel
theorem dX12_terms_27 : decode cX12_terms 27 = .ok (.i2l, 1) := by decide +kernel
theorem dX12_terms_28 : decode cX12_terms 28 = .ok (.lconst 1, 1) := by decide +kernel
theorem dX12_terms_29 : decode cX12_terms 29 = .ok (.ldc2_w 190, 3) := by decide +kernel
theorem dX12_terms_32 : decode cX12_terms 32 = .ok (.invokestatic 182, 3) := by decide +kernel
theorem dX12_terms_35 : decode cX12_terms 35 = .ok (.goto 42, 3) := by decide +kernel
theorem dX12_terms_38 : decode cX12_terms 38 = .ok (.iload_n 1, 1) := by decide +kernel
theorem dX12_terms_39 : decode cX12_terms 39 = .ok (.iconst 2, 1) := by decide +kernel
theorem dX12_terms_40 : decode cX12_terms 40 = .ok (.if_icmp .ne 15, 3) := by decide +kernel
theorem dX12_terms_43 : decode cX12_terms 43 = .ok (.iload_n 2, 1) := by decide +kernel
theorem dX12_terms_44 : decode cX12_terms 44 = .ok (.i2l, 1) := by decide +kernel
theorem dX12_terms_45 : decode cX12_terms 45 = .ok (.lconst 0, 1) := by decide +kernel
theorem dX12_terms_46 : decode cX12_terms 46 = .ok (.ldc2_w 225, 3) := by decide +kernel
theorem dX12_terms_49 : decode cX12_terms 49 = .ok (.invokestatic 182, 3) := by decide +kernel
theorem dX12_terms_52 : decode cX12_terms 52 = .ok (.goto 25, 3) := by decide +kernel
theorem dX12_terms_55 : decode cX12_terms 55 = .ok (.iload_n 1, 1) := by decide +kernel
theorem dX12_terms_56 : decode cX12_terms 56 = .ok (.iconst 3, 1) := by decide +kernel
theorem dX12_terms_57 : decode cX12_terms 57 = .ok (.if_icmp .ne 19, 3) := by decide +kernel
theorem dX12_terms_60 : decode cX12_terms 60 = .ok (.iload_n 2, 1) := by decide +kernel
theorem dX12_terms_61 : decode cX12_terms 61 = .ok (.i2l, 1) := by decide +kernel
theorem dX12_terms_62 : decode cX12_terms 62 = .ok (.lconst 0, 1) := by decide +kernel
theorem dX12_terms_63 : decode cX12_terms 63 = .ok (.ldc2_w 227, 3) := by decide +kernel
theorem dX12_terms_66 : decode cX12_terms 66 = .ok (.invokestatic 182, 3) := by decide +kernel
theorem dX12_terms_69 : decode cX12_terms 69 = .ok (.ifCond .eq 7, 3) := by decide +kernel
theorem dX12_terms_72 : decode cX12_terms 72 = .ok (.iconst 1, 1) := by decide +kernel
theorem dX12_terms_73 : decode cX12_terms 73 = .ok (.goto 4, 3) := by decide +kernel
theorem dX12_terms_76 : decode cX12_terms 76 = .ok (.iconst 0, 1) := by decide +kernel
theorem dX12_terms_77 : decode cX12_terms 77 = .ok (.istore_n 3, 1) := by decide +kernel
theorem dX12_terms_78 : decode cX12_terms 78 = .ok (.iload_n 3, 1) := by decide +kernel
theorem dX12_terms_79 : decode cX12_terms 79 = .ok (.ifCond .ne 9, 3) := by decide +kernel
theorem dX12_terms_82 : decode cX12_terms 82 = .ok (.aload_n 0, 1) := by decide +kernel
theorem dX12_terms_83 : decode cX12_terms 83 = .ok (.iconst (-1), 1) := by decide +kernel
theorem dX12_terms_84 : decode cX12_terms 84 = .ok (.invokevirtual 175, 3) := by decide +kernel
theorem dX12_terms_87 : decode cX12_terms 87 = .ok (.ireturn, 1) := by decide +kernel
theorem dX12_terms_88 : decode cX12_terms 88 = .ok (.aload_n 0, 1) := by decide +kernel
theorem dX12_terms_89 : decode cX12_terms 89 = .ok (.iconst 0, 1) := by decide +kernel
theorem dX12_terms_90 : decode cX12_terms 90 = .ok (.putfield 168, 3) := by decide +kernel
theorem dX12_terms_93 : decode cX12_terms 93 = .ok (.aload_n 0, 1) := by decide +kernel
theorem dX12_terms_94 : decode cX12_terms 94 = .ok (.iconst 3, 1) := by decide +kernel
theorem dX12_terms_95 : decode cX12_terms 95 = .ok (.iload_n 1, 1) := by decide +kernel
theorem dX12_terms_96 : decode cX12_terms 96 = .ok (.iadd, 1) := by decide +kernel
theorem dX12_terms_97 : decode cX12_terms 97 = .ok (.iload_n 2, 1) := by decide +kernel
theorem dX12_terms_98 : decode cX12_terms 98 = .ok (.invokevirtual 210, 3) := by decide +kernel
theorem dX12_terms_101 : decode cX12_terms 101 = .ok (.ireturn, 1) := by decide +kernel
set_option maxRecDepth 20000 in
theorem rX12_terms_0 {E : EN} (hE : Ep E) {k : Nat} {mem : Mm} {Q : Int → Mm → Prop} {p0 p1 : Int}
    (h : ((¬ p0 = 0 → ((¬ p0 = 1 → ((¬ p0 = 2 → ((¬ p0 = 3 → (CI E mX12_tell k (aUp mem 603 0 0) [aR 603, aI (-1)] (fun r2 m1 => Q r2 m1))) ∧ (p0 = 3 → (R64 p1 → CI E mX12_in k (aUp mem 603 0 0) [aL p1, aL 0, aL 9] (fun r4 m3 => ((r4 = 0 → (CI E mX12_tell k m3 [aR 603, aI (-1)] (fun r6 m5 => Q r6 m5))) ∧ (¬ r4 = 0 → (R32 (3 + p0)) ∧ (R32 (3 + p0) → R32 p1 → CI E mX12_change k (aUp m3 603 8 0) [aR 603, aI (3 + p0), aI p1] (fun r9 m8 => Q r9 m8))))))))) ∧ (p0 = 2 → (R64 p1 → CI E mX12_in k (aUp mem 603 0 0) [aL p1, aL 0, aL 10] (fun r11 m10 => ((¬ r11 = 0 → (R32 (3 + p0)) ∧ (R32 (3 + p0) → R32 p1 → CI E mX12_change k (aUp m10 603 8 0) [aR 603, aI (3 + p0), aI p1] (fun r14 m13 => Q r14 m13))) ∧ (r11 = 0 → (CI E mX12_tell k m10 [aR 603, aI (-1)] (fun r16 m15 => Q r16 m15))))))))) ∧ (p0 = 1 → (R64 p1 → CI E mX12_in k (aUp mem 603 0 0) [aL p1, aL 1, aL 99] (fun r18 m17 => ((¬ r18 = 0 → (R32 (3 + p0)) ∧ (R32 (3 + p0) → R32 p1 → CI E mX12_change k (aUp m17 603 8 0) [aR 603, aI (3 + p0), aI p1] (fun r21 m20 => Q r21 m20))) ∧ (r18 = 0 → (CI E mX12_tell k m17 [aR 603, aI (-1)] (fun r23 m22 => Q r23 m22))))))))) ∧ (p0 = 0 → (R64 p1 → CI E mX12_in k (aUp mem 603 0 0) [aL p1, aL 0, aL 999] (fun r25 m24 => ((¬ r25 = 0 → (R32 (3 + p0)) ∧ (R32 (3 + p0) → R32 p1 → CI E mX12_change k (aUp m24 603 8 0) [aR 603, aI (3 + p0), aI p1] (fun r28 m27 => Q r28 m27))) ∧ (r25 = 0 → (CI E mX12_tell k m24 [aR 603, aI (-1)] (fun r30 m29 => Q r30 m29))))))))) :
    VM E mX12_terms (k + 1) mem 0 [(0, aR 603), (1, aI p0), (2, aI p1)] [] (retI Q) := by
  refine v_aload_n (pc := 0) dX12_terms_0 0 rfl ?_
  refine v_iconst (pc := 1) dX12_terms_1 (by decide) ?_
  refine v_putf (pc := 2) dX12_terms_2 flX12_162 ⟨_, _, rfl, Or.inl rfl⟩ rfl (by decide) (fun q => nomatch q) (Or.inl fun _ => rfl) at603 ?_
  refine v_iload_n (pc := 5) dX12_terms_5 1 rfl ?_
  refine v_ifne (pc := 6) (tgt := 21) dX12_terms_6 (by decide) (fun c1 => ?_) (fun c1 => ?_)
  · have h := h.1 c1
    refine v_iload_n (pc := 21) dX12_terms_21 1 rfl ?_
    refine v_iconst (pc := 22) dX12_terms_22 (by decide) ?_
    refine v_icmpne (pc := 23) (tgt := 38) dX12_terms_23 (by decide) (fun c1 => ?_) (fun c1 => ?_)
    · have h := h.1 c1
      refine v_iload_n (pc := 38) dX12_terms_38 1 rfl ?_
      refine v_iconst (pc := 39) dX12_terms_39 (by decide) ?_
      refine v_icmpne (pc := 40) (tgt := 55) dX12_terms_40 (by decide) (fun c1 => ?_) (fun c1 => ?_)
      · have h := h.1 c1
        refine v_iload_n (pc := 55) dX12_terms_55 1 rfl ?_
        refine v_iconst (pc := 56) dX12_terms_56 (by decide) ?_
        refine v_icmpne (pc := 57) (tgt := 76) dX12_terms_57 (by decide) (fun c1 => ?_) (fun c1 => ?_)
        · have h := h.1 c1
          refine v_iconst (pc := 76) dX12_terms_76 (by decide) ?_
          refine v_istore_n (pc := 77) (al2 := [(3, aI 0), (0, aR 603), (1, aI p0), (2, aI p1)]) dX12_terms_77 (by decide) rfl ?_
          refine v_iload_n (pc := 78) dX12_terms_78 0 rfl ?_
          refine v_ifne (pc := 79) (tgt := 88) dX12_terms_79 (by decide) (fun c1 => absurd c1 (by decide)) (fun c1 => ?_)
          refine v_aload_n (pc := 82) dX12_terms_82 1 rfl ?_
          refine v_iconst (pc := 83) dX12_terms_83 (by decide) ?_
          refine m_invI (pc := 84) (mi' := mX12_tell) (rest := []) [aI (-1)] dX12_terms_84 at603 (by decide) rfl msX12_tell mvX12_tell lkX12_175 rfl (Nat.le_of_ble_eq_true rfl) (fun hn => CI_mono (h) (fun r2 m1 h => ?_))
          exact m_retI (pc := 87) dX12_terms_87 rfl h
        · have h := h.2 c1
          refine v_iload_n (pc := 60) dX12_terms_60 2 rfl ?_
          refine v_i2l (pc := 61) dX12_terms_61 ?_
          refine v_lconst0 (pc := 62) dX12_terms_62 ?_
          refine v_ldc2 (pc := 63) (n := 9) dX12_terms_63 cnX12_227 (by decide) ?_
          refine m_invSI (pc := 66) (mi' := mX12_in) (rest := []) [aL p1, aL 0, aL 9] dX12_terms_66 msX12_in stX12_in lkX12_182 rfl (Nat.le_of_ble_eq_true rfl) (fun hn => CI_mono (h (aaL hn 0 rfl)) (fun r4 m3 h => ?_))
          refine v_ifeq (pc := 69) (tgt := 76) dX12_terms_69 (by decide) (fun c1 => ?_) (fun c1 => ?_)
          · have h := h.1 c1
            refine v_iconst (pc := 76) dX12_terms_76 (by decide) ?_
            refine v_istore_n (pc := 77) (al2 := [(3, aI 0), (0, aR 603), (1, aI p0), (2, aI p1)]) dX12_terms_77 (by decide) rfl ?_
            refine v_iload_n (pc := 78) dX12_terms_78 0 rfl ?_
            refine v_ifne (pc := 79) (tgt := 88) dX12_terms_79 (by decide) (fun c1 => absurd c1 (by decide)) (fun c1 => ?_)
            refine v_aload_n (pc := 82) dX12_terms_82 1 rfl ?_
            refine v_iconst (pc := 83) dX12_terms_83 (by decide) ?_
            refine m_invI (pc := 84) (mi' := mX12_tell) (rest := []) [aI (-1)] dX12_terms_84 at603 (by decide) rfl msX12_tell mvX12_tell lkX12_175 rfl (Nat.le_of_ble_eq_true rfl) (fun hn => CI_mono (h) (fun r6 m5 h => ?_))
            exact m_retI (pc := 87) dX12_terms_87 rfl h
          · have h := h.2 c1
            refine v_iconst (pc := 72) dX12_terms_72 (by decide) ?_
            refine v_goto (pc := 73) (tgt := 77) dX12_terms_73 (by decide) ?_
            refine v_istore_n (pc := 77) (al2 := [(3, aI 1), (0, aR 603), (1, aI p0), (2, aI p1)]) dX12_terms_77 (by decide) rfl ?_
            refine v_iload_n (pc := 78) dX12_terms_78 0 rfl ?_
            refine v_ifne (pc := 79) (tgt := 88) dX12_terms_79 (by decide) (fun c1 => ?_) (fun c1 => absurd c1 (by decide))
            refine v_aload_n (pc := 88) dX12_terms_88 1 rfl ?_
            refine v_iconst (pc := 89) dX12_terms_89 (by decide) ?_
            refine v_putf (pc := 90) dX12_terms_90 flX12_168 ⟨_, _, rfl, Or.inl rfl⟩ rfl (by decide) (fun q => nomatch q) (Or.inl fun _ => rfl) at603 ?_
            refine v_aload_n (pc := 93) dX12_terms_93 1 rfl ?_
            refine v_iconst (pc := 94) dX12_terms_94 (by decide) ?_
            refine v_iload_n (pc := 95) dX12_terms_95 2 rfl ?_
            obtain ⟨o7, h⟩ := h
            refine m_iadd (pc := 96) dX12_terms_96 o7 ?_
            refine v_iload_n (pc := 97) dX12_terms_97 3 rfl ?_
            refine m_invI (pc := 98) (mi' := mX12_change) (rest := []) [aI (3 + p0), aI p1] dX12_terms_98 at603 (by decide) rfl msX12_change mvX12_change lkX12_210 rfl (Nat.le_of_ble_eq_true rfl) (fun hn => CI_mono (h (aaI hn 1 rfl) (aaI hn 2 rfl)) (fun r9 m8 h => ?_))
            exact m_retI (pc := 101) dX12_terms_101 rfl h
      · have h := h.2 c1
        refine v_iload_n (pc := 43) dX12_terms_43 2 rfl ?_
        refine v_i2l (pc := 44) dX12_terms_44 ?_
        refine v_lconst0 (pc := 45) dX12_terms_45 ?_
        refine v_ldc2 (pc := 46) (n := 10) dX12_terms_46 cnX12_225 (by decide) ?_
        refine m_invSI (pc := 49) (mi' := mX12_in) (rest := []) [aL p1, aL 0, aL 10] dX12_terms_49 msX12_in stX12_in lkX12_182 rfl (Nat.le_of_ble_eq_true rfl) (fun hn => CI_mono (h (aaL hn 0 rfl)) (fun r11 m10 h => ?_))
        refine v_goto (pc := 52) (tgt := 77) dX12_terms_52 (by decide) ?_
        refine v_istore_n (pc := 77) (al2 := [(3, aI r11), (0, aR 603), (1, aI p0), (2, aI p1)]) dX12_terms_77 (by decide) rfl ?_
        refine v_iload_n (pc := 78) dX12_terms_78 0 rfl ?_
        refine v_ifne (pc := 79) (tgt := 88) dX12_terms_79 (by decide) (fun c1 => ?_) (fun c1 => ?_)
        · have h := h.1 c1
          refine v_aload_n (pc := 88) dX12_terms_88 1 rfl ?_
          refine v_iconst (pc := 89) dX12_terms_89 (by decide) ?_
          refine v_putf (pc := 90) dX12_terms_90 flX12_168 ⟨_, _, rfl, Or.inl rfl⟩ rfl (by decide) (fun q => nomatch q) (Or.inl fun _ => rfl) at603 ?_
          refine v_aload_n (pc := 93) dX12_terms_93 1 rfl ?_
          refine v_iconst (pc := 94) dX12_terms_94 (by decide) ?_
          refine v_iload_n (pc := 95) dX12_terms_95 2 rfl ?_
          obtain ⟨o12, h⟩ := h
          refine m_iadd (pc := 96) dX12_terms_96 o12 ?_
          refine v_iload_n (pc := 97) dX12_terms_97 3 rfl ?_
          refine m_invI (pc := 98) (mi' := mX12_change) (rest := []) [aI (3 + p0), aI p1] dX12_terms_98 at603 (by decide) rfl msX12_change mvX12_change lkX12_210 rfl (Nat.le_of_ble_eq_true rfl) (fun hn => CI_mono (h (aaI hn 1 rfl) (aaI hn 2 rfl)) (fun r14 m13 h => ?_))
          exact m_retI (pc := 101) dX12_terms_101 rfl h
        · have h := h.2 c1
          refine v_aload_n (pc := 82) dX12_terms_82 1 rfl ?_
          refine v_iconst (pc := 83) dX12_terms_83 (by decide) ?_
          refine m_invI (pc := 84) (mi' := mX12_tell) (rest := []) [aI (-1)] dX12_terms_84 at603 (by decide) rfl msX12_tell mvX12_tell lkX12_175 rfl (Nat.le_of_ble_eq_true rfl) (fun hn => CI_mono (h) (fun r16 m15 h => ?_))
          exact m_retI (pc := 87) dX12_terms_87 rfl h
    · have h := h.2 c1
      refine v_iload_n (pc := 26) dX12_terms_26 2 rfl ?_
      refine v_i2l (pc := 27) dX12_terms_27 ?_
      refine v_lconst1 (pc := 28) dX12_terms_28 ?_
      refine v_ldc2 (pc := 29) (n := 99) dX12_terms_29 cnX12_190 (by decide) ?_
      refine m_invSI (pc := 32) (mi' := mX12_in) (rest := []) [aL p1, aL 1, aL 99] dX12_terms_32 msX12_in stX12_in lkX12_182 rfl (Nat.le_of_ble_eq_true rfl) (fun hn => CI_mono (h (aaL hn 0 rfl)) (fun r18 m17 h => ?_))
      refine v_goto (pc := 35) (tgt := 77) dX12_terms_35 (by decide) ?_
      refine v_istore_n (pc := 77) (al2 := [(3, aI r18), (0, aR 603), (1, aI p0), (2, aI p1)]) dX12_terms_77 (by decide) rfl ?_
      refine v_iload_n (pc := 78) dX12_terms_78 0 rfl ?_
      refine v_ifne (pc := 79) (tgt := 88) dX12_terms_79 (by decide) (fun c1 => ?_) (fun c1 => ?_)
      · have h := h.1 c1
        refine v_aload_n (pc := 88) dX12_terms_88 1 rfl ?_
        refine v_iconst (pc := 89) dX12_terms_89 (by decide) ?_
        refine v_putf (pc := 90) dX12_terms_90 flX12_168 ⟨_, _, rfl, Or.inl rfl⟩ rfl (by decide) (fun q => nomatch q) (Or.inl fun _ => rfl) at603 ?_
        refine v_aload_n (pc := 93) dX12_terms_93 1 rfl ?_
        refine v_iconst (pc := 94) dX12_terms_94 (by decide) ?_
        refine v_iload_n (pc := 95) dX12_terms_95 2 rfl ?_
        obtain ⟨o19, h⟩ := h
        refine m_iadd (pc := 96) dX12_terms_96 o19 ?_
        refine v_iload_n (pc := 97) dX12_terms_97 3 rfl ?_
        refine m_invI (pc := 98) (mi' := mX12_change) (rest := []) [aI (3 + p0), aI p1] dX12_terms_98 at603 (by decide) rfl msX12_change mvX12_change lkX12_210 rfl (Nat.le_of_ble_eq_true rfl) (fun hn => CI_mono (h (aaI hn 1 rfl) (aaI hn 2 rfl)) (fun r21 m20 h => ?_))
        exact m_retI (pc := 101) dX12_terms_101 rfl h
      · have h := h.2 c1
        refine v_aload_n (pc := 82) dX12_terms_82 1 rfl ?_
        refine v_iconst (pc := 83) dX12_terms_83 (by decide) ?_
        refine m_invI (pc := 84) (mi' := mX12_tell) (rest := []) [aI (-1)] dX12_terms_84 at603 (by decide) rfl msX12_tell mvX12_tell lkX12_175 rfl (Nat.le_of_ble_eq_true rfl) (fun hn => CI_mono (h) (fun r23 m22 h => ?_))
        exact m_retI (pc := 87) dX12_terms_87 rfl h
  · have h := h.2 c1
    refine v_iload_n (pc := 9) dX12_terms_9 2 rfl ?_
    refine v_i2l (pc := 10) dX12_terms_10 ?_
    refine v_lconst0 (pc := 11) dX12_terms_11 ?_
    refine v_ldc2 (pc := 12) (n := 999) dX12_terms_12 cnX12_223 (by decide) ?_
    refine m_invSI (pc := 15) (mi' := mX12_in) (rest := []) [aL p1, aL 0, aL 999] dX12_terms_15 msX12_in stX12_in lkX12_182 rfl (Nat.le_of_ble_eq_true rfl) (fun hn => CI_mono (h (aaL hn 0 rfl)) (fun r25 m24 h => ?_))
    refine v_goto (pc := 18) (tgt := 77) dX12_terms_18 (by decide) ?_
    refine v_istore_n (pc := 77) (al2 := [(3, aI r25), (0, aR 603), (1, aI p0), (2, aI p1)]) dX12_terms_77 (by decide) rfl ?_
    refine v_iload_n (pc := 78) dX12_terms_78 0 rfl ?_
    refine v_ifne (pc := 79) (tgt := 88) dX12_terms_79 (by decide) (fun c1 => ?_) (fun c1 => ?_)
    · have h := h.1 c1
      refine v_aload_n (pc := 88) dX12_terms_88 1 rfl ?_
      refine v_iconst (pc := 89) dX12_terms_89 (by decide) ?_
      refine v_putf (pc := 90) dX12_terms_90 flX12_168 ⟨_, _, rfl, Or.inl rfl⟩ rfl (by decide) (fun q => nomatch q) (Or.inl fun _ => rfl) at603 ?_
      refine v_aload_n (pc := 93) dX12_terms_93 1 rfl ?_
      refine v_iconst (pc := 94) dX12_terms_94 (by decide) ?_
      refine v_iload_n (pc := 95) dX12_terms_95 2 rfl ?_
      obtain ⟨o26, h⟩ := h
      refine m_iadd (pc := 96) dX12_terms_96 o26 ?_
      refine v_iload_n (pc := 97) dX12_terms_97 3 rfl ?_
      refine m_invI (pc := 98) (mi' := mX12_change) (rest := []) [aI (3 + p0), aI p1] dX12_terms_98 at603 (by decide) rfl msX12_change mvX12_change lkX12_210 rfl (Nat.le_of_ble_eq_true rfl) (fun hn => CI_mono (h (aaI hn 1 rfl) (aaI hn 2 rfl)) (fun r28 m27 h => ?_))
      exact m_retI (pc := 101) dX12_terms_101 rfl h
    · have h := h.2 c1
      refine v_aload_n (pc := 82) dX12_terms_82 1 rfl ?_
      refine v_iconst (pc := 83) dX12_terms_83 (by decide) ?_
      refine m_invI (pc := 84) (mi' := mX12_tell) (rest := []) [aI (-1)] dX12_terms_84 at603 (by decide) rfl msX12_tell mvX12_tell lkX12_175 rfl (Nat.le_of_ble_eq_true rfl) (fun hn => CI_mono (h) (fun r30 m29 h => ?_))
      exact m_retI (pc := 87) dX12_terms_87 rfl h
theorem eX12_terms {E : EN} {k : Nat} {mem : Mm} {Q : Int → Mm → Prop} {p0 p1 : Int} (hr_p0 : R32 p0) (hr_p1 : R32 p1) (h : VM E mX12_terms (k + 1) mem 0 [(0, aR 603), (1, aI p0), (2, aI p1)] [] (retI Q)) : CI E mX12_terms (k + 1) mem [aR 603, aI p0, aI p1] Q := CI_of rfl (Nat.le_of_ble_eq_true rfl) h (aNs_c (aNr_R _) (aNs_c (aNr_I hr_p0) (aNs_c (aNr_I hr_p1) (fun _ q => nomatch q))))

theorem dX12_row_0 : decode cX12_row 0 = .ok (.aload_n 0, 1) := by decide +kernel
theorem dX12_row_1 : decode cX12_row 1 = .ok (.iconst 0, 1) := by decide +kernel
theorem dX12_row_2 : decode cX12_row 2 = .ok (.putfield 162, 3) := by decide +kernel
theorem dX12_row_5 : decode cX12_row 5 = .ok (.aload_n 0, 1) := by decide +kernel
theorem dX12_row_6 : decode cX12_row 6 = .ok (.getfield 229, 3) := by decide +kernel
theorem dX12_row_9 : decode cX12_row 9 = .ok (.istore_n 1, 1) := by decide +kernel
theorem dX12_row_10 : decode cX12_row 10 = .ok (.aload_n 0, 1) := by decide +kernel
theorem dX12_row_11 : decode cX12_row 11 = .ok (.iconst 0, 1) := by decide +kernel
theorem dX12_row_12 : decode cX12_row 12 = .ok (.putfield 229, 3) := by decide +kernel
theorem dX12_row_15 : decode cX12_row 15 = .ok (.iload_n 1, 1) := by decide +kernel
theorem dX12_row_16 : decode cX12_row 16 = .ok (.ifCond .ne 10, 3) := by decide +kernel
theorem dX12_row_19 : decode cX12_row 19 = .ok (.aload_n 0, 1) := by decide +kernel
theorem dX12_row_20 : decode cX12_row 20 = .ok (.bipush (-6), 2) := by decide +kernel
theorem dX12_row_22 : decode cX12_row 22 = .ok (.invokevirtual 175, 3) := by decide +kernel
theorem dX12_row_25 : decode cX12_row 25 = .ok (.ireturn, 1) := by decide +kernel
theorem dX12_row_26 : decode cX12_row 26 = .ok (.aload_n 0, 1) := by decide +kernel
theorem dX12_row_27 : decode cX12_row 27 = .ok (.iconst 0, 1) := by decide +kernel
theorem dX12_row_28 : decode cX12_row 28 = .ok (.putfield 232, 3) := by decide +kernel
theorem dX12_row_31 : decode cX12_row 31 = .ok (.iconst 0, 1) := by decide +kernel
theorem dX12_row_32 : decode cX12_row 32 = .ok (.istore_n 2, 1) := by decide +kernel
theorem dX12_row_33 : decode cX12_row 33 = .ok (.iconst 0, 1) := by decide +kernel
theorem dX12_row_34 : decode cX12_row 34 = .ok (.istore_n 3, 1) := by decide +kernel
theorem dX12_row_35 : decode cX12_row 35 = .ok (.iload_n 3, 1) := by decide +kernel
theorem dX12_row_36 : decode cX12_row 36 = .ok (.iload_n 1, 1) := by decide +kernel
theorem dX12_row_37 : decode cX12_row 37 = .ok (.if_icmp .ge 125, 3) := by decide +kernel
theorem dX12_row_40 : decode cX12_row 40 = .ok (.iload_n 3, 1) := by decide +kernel
theorem dX12_row_41 : decode cX12_row 41 = .ok (.iconst 2, 1) := by decide +kernel
theorem dX12_row_42 : decode cX12_row 42 = .ok (.idiv, 1) := by decide +kernel
theorem dX12_row_43 : decode cX12_row 43 = .ok (.istore 4, 2) := by decide +kernel
theorem dX12_row_45 : decode cX12_row 45 = .ok (.iload_n 3, 1) := by decide +kernel
theorem dX12_row_46 : decode cX12_row 46 = .ok (.iconst 1, 1) := by decide +kernel
theorem dX12_row_47 : decode cX12_row 47 = .ok (.iadd, 1) := by decide +kernel
theorem dX12_row_48 : decode cX12_row 48 = .ok (.iload_n 1, 1) := by decide +kernel
theorem dX12_row_49 : decode cX12_row 49 = .ok (.if_icmp .ge 97, 3) := by decide +kernel
theorem dX12_row_52 : decode cX12_row 52 = .ok (.iload 4, 2) := by decide +kernel
theorem dX12_row_54 : decode cX12_row 54 = .ok (.invokestatic 192, 3) := by decide +kernel
theorem dX12_row_57 : decode cX12_row 57 = .ok (.ifCond .eq 89, 3) := by decide +kernel
theorem dX12_row_60 : decode cX12_row 60 = .ok (.iconst 0, 1) := by decide +kernel
theorem dX12_row_61 : decode cX12_row 61 = .ok (.aload_n 0, 1) := by decide +kernel
theorem dX12_row_62 : decode cX12_row 62 = .ok (.getfield 35, 3) := by decide +kernel
theorem dX12_row_65 : decode cX12_row 65 = .ok (.iload_n 3, 1) := by decide +kernel
theorem dX12_row_66 : decode cX12_row 66 = .ok (.iaload, 1) := by decide +kernel
theorem dX12_row_67 : decode cX12_row 67 = .ok (.invokestatic 196, 3) := by decide +kernel
theorem dX12_row_70 : decode cX12_row 70 = .ok (.ifCond .eq 76, 3) := by decide +kernel
theorem dX12_row_73 : decode cX12_row 73 = .ok (.iconst 1, 1) := by decide +kernel
theorem dX12_row_74 : decode cX12_row 74 = .ok (.aload_n 0, 1) := by decide +kernel
theorem dX12_row_75 : decode cX12_row 75 = .ok (.getfield 35, 3) := by decide +kernel
theorem dX12_row_78 : decode cX12_row 78 = .ok (.iload_n 3, 1) := by decide +kernel
theorem dX12_row_79 : decode cX12_row 79 = .ok (.iconst 1, 1) := by decide +kernel
theorem dX12_row_80 : decode cX12_row 80 = .ok (.iadd, 1) := by decide +kernel
theorem dX12_row_81 : decode cX12_row 81 = .ok (.iaload, 1) := by decide +kernel
theorem dX12_row_82 : decode cX12_row 82 = .ok (.invokestatic 196, 3) := by decide +kernel
theorem dX12_row_85 : decode cX12_row 85 = .ok (.ifCond .eq 61, 3) := by decide +kernel
theorem dX12_row_88 : decode cX12_row 88 = .ok (.aload_n 0, 1) := by decide +kernel
theorem dX12_row_89 : decode cX12_row 89 = .ok (.getfield 35, 3) := by decide +kernel
theorem dX12_row_92 : decode cX12_row 92 = .ok (.iload_n 3, 1) := by decide +kernel
theorem dX12_row_93 : decode cX12_row 93 = .ok (.iaload, 1) := by decide +kernel
theorem dX12_row_94 : decode cX12_row 94 = .ok (.invokestatic 200, 3) := by decide +kernel
theorem dX12_row_97 : decode cX12_row 97 = .ok (.ifCond .eq 13, 3) := by decide +kernel
theorem dX12_row_100 : decode cX12_row 100 = .ok (.aload_n 0, 1) := by decide +kernel
theorem dX12_row_101 : decode cX12_row 101 = .ok (.iload 4, 2) := by decide +kernel
theorem dX12_row_103 : decode cX12_row 103 = .ok (.invokevirtual 203, 3) := by decide +kernel
theorem dX12_row_106 : decode cX12_row 106 = .ok (.iconst (-1), 1) := by decide +kernel
theorem dX12_row_107 : decode cX12_row 107 = .ok (.if_icmp .ne 39, 3) := by decide +kernel
theorem dX12_row_110 : decode cX12_row 110 = .ok (.aload_n 0, 1) := by decide +kernel
theorem dX12_row_111 : decode cX12_row 111 = .ok (.iload 4, 2) := by decide +kernel
theorem dX12_row_113 : decode cX12_row 113 = .ok (.aload_n 0, 1) := by decide +kernel
theorem dX12_row_114 : decode cX12_row 114 = .ok (.getfield 35, 3) := by decide +kernel
theorem dX12_row_117 : decode cX12_row 117 = .ok (.iload_n 3, 1) := by decide +kernel
theorem dX12_row_118 : decode cX12_row 118 = .ok (.iaload, 1) := by decide +kernel
theorem dX12_row_119 : decode cX12_row 119 = .ok (.invokevirtual 206, 3) := by decide +kernel
theorem dX12_row_122 : decode cX12_row 122 = .ok (.aload_n 0, 1) := by decide +kernel
theorem dX12_row_123 : decode cX12_row 123 = .ok (.getfield 13, 3) := by decide +kernel
theorem dX12_row_126 : decode cX12_row 126 = .ok (.bipush 112, 2) := by decide +kernel
theorem dX12_row_128 : decode cX12_row 128 = .ok (.iload 4, 2) := by decide +kernel
theorem dX12_row_130 : decode cX12_row 130 = .ok (.iadd, 1) := by decide +kernel
theorem dX12_row_131 : decode cX12_row 131 = .ok (.aload_n 0, 1) := by decide +kernel
theorem dX12_row_132 : decode cX12_row 132 = .ok (.getfield 35, 3) := by decide +kernel
theorem dX12_row_135 : decode cX12_row 135 = .ok (.iload_n 3, 1) := by decide +kernel
theorem dX12_row_136 : decode cX12_row 136 = .ok (.iconst 1, 1) := by decide +kernel
theorem dX12_row_137 : decode cX12_row 137 = .ok (.iadd, 1) := by decide +kernel
theorem dX12_row_138 : decode cX12_row 138 = .ok (.iaload, 1) := by decide +kernel
theorem dX12_row_139 : decode cX12_row 139 = .ok (.iastore, 1) := by decide +kernel
theorem dX12_row_140 : decode cX12_row 140 = .ok (.iinc 2 1, 3) := by decide +kernel
theorem dX12_row_143 : decode cX12_row 143 = .ok (.goto 13, 3) := by decide +kernel
theorem dX12_row_146 : decode cX12_row 146 = .ok (.aload_n 0, 1) := by decide +kernel
theorem dX12_row_147 : decode cX12_row 147 = .ok (.dup, 1) := by decide +kernel
theorem dX12_row_148 : decode cX12_row 148 = .ok (.getfield 232, 3) := by decide +kernel
theorem dX12_row_151 : decode cX12_row 151 = .ok (.iconst 1, 1) := by decide +kernel
theorem dX12_row_152 : decode cX12_row 152 = .ok (.iadd, 1) := by decide +kernel
theorem dX12_row_153 : decode cX12_row 153 = .ok (.putfield 232, 3) := by decide +kernel
theorem dX12_row_156 : decode cX12_row 156 = .ok (.iinc 3 2, 3) := by decide +kernel
theorem dX12_row_159 : decode cX12_row 159 = .ok (.goto (-124), 3) := by decide +kernel
theorem dX12_row_162 : decode cX12_row 162 = .ok (.aload_n 0, 1) := by decide +kernel
theorem dX12_row_163 : decode cX12_row 163 = .ok (.iconst 0, 1) := by decide +kernel
theorem dX12_row_164 : decode cX12_row 164 = .ok (.putfield 168, 3) := by decide +kernel
theorem dX12_row_167 : decode cX12_row 167 = .ok (.aload_n 0, 1) := by decide +kernel
theorem dX12_row_168 : decode cX12_row 168 = .ok (.iload_n 2, 1) := by decide +kernel
theorem dX12_row_169 : decode cX12_row 169 = .ok (.invokevirtual 175, 3) := by decide +kernel
theorem dX12_row_172 : decode cX12_row 172 = .ok (.ireturn, 1) := by decide +kernel
set_option maxRecDepth 20000 in
theorem rX12_row_0 {E : EN} (hE : Ep E) {k : Nat} {mem : Mm} {Q : Int → Mm → Prop}
    (h : ((¬ (mem 603 13) = 0 → VM E mX12_row (k + 1) (aUp (aUp (aUp mem 603 0 0) 603 13 0) 603 11 0) 35 [(0, aR 603), (1, aI (mem 603 13)), (2, aI 0), (3, aI 0)] [] (retI Q)) ∧ ((mem 603 13) = 0 → (CI E mX12_tell k (aUp (aUp mem 603 0 0) 603 13 0) [aR 603, aI (-6)] (fun r2 m1 => Q r2 m1))))) :
    VM E mX12_row (k + 1) mem 0 [(0, aR 603)] [] (retI Q) := by
  refine v_aload_n (pc := 0) dX12_row_0 0 rfl ?_
  refine v_iconst (pc := 1) dX12_row_1 (by decide) ?_
  refine v_putf (pc := 2) dX12_row_2 flX12_162 ⟨_, _, rfl, Or.inl rfl⟩ rfl (by decide) (fun q => nomatch q) (Or.inl fun _ => rfl) at603 ?_
  refine v_aload_n (pc := 5) dX12_row_5 0 rfl ?_
  refine m_getf (pc := 6) (t := 0) (v := (mem 603 13)) dX12_row_6 flX12_229 rfl at603 (aUp_ri (by decide)) ?_
  refine v_istore_n (pc := 9) (al2 := [(1, aI (mem 603 13)), (0, aR 603)]) dX12_row_9 (by decide) rfl ?_
  refine v_aload_n (pc := 10) dX12_row_10 1 rfl ?_
  refine v_iconst (pc := 11) dX12_row_11 (by decide) ?_
  refine v_putf (pc := 12) dX12_row_12 flX12_229 ⟨_, _, rfl, Or.inl rfl⟩ rfl (by decide) (fun q => nomatch q) (Or.inl fun _ => rfl) at603 ?_
  refine v_iload_n (pc := 15) dX12_row_15 0 rfl ?_
  refine v_ifne (pc := 16) (tgt := 26) dX12_row_16 (by decide) (fun c1 => ?_) (fun c1 => ?_)
  · have h := h.1 c1
    refine v_aload_n (pc := 26) dX12_row_26 1 rfl ?_
    refine v_iconst (pc := 27) dX12_row_27 (by decide) ?_
    refine v_putf (pc := 28) dX12_row_28 flX12_232 ⟨_, _, rfl, Or.inl rfl⟩ rfl (by decide) (fun q => nomatch q) (Or.inl fun _ => rfl) at603 ?_
    refine v_iconst (pc := 31) dX12_row_31 (by decide) ?_
    refine v_istore_n (pc := 32) (al2 := [(2, aI 0), (1, aI (mem 603 13)), (0, aR 603)]) dX12_row_32 (by decide) rfl ?_
    refine v_iconst (pc := 33) dX12_row_33 (by decide) ?_
    refine v_istore_n (pc := 34) (al2 := [(3, aI 0), (2, aI 0), (1, aI (mem 603 13)), (0, aR 603)]) dX12_row_34 (by decide) rfl ?_
    exact VG_sub (al' := [(0, aR 603), (1, aI (mem 603 13)), (2, aI 0), (3, aI 0)]) [3, 2, 1, 0] rfl h
  · have h := h.2 c1
    refine v_aload_n (pc := 19) dX12_row_19 1 rfl ?_
    refine v_bipush (pc := 20) dX12_row_20 (by decide) ?_
    refine m_invI (pc := 22) (mi' := mX12_tell) (rest := []) [aI (-6)] dX12_row_22 at603 (by decide) rfl msX12_tell mvX12_tell lkX12_175 rfl (Nat.le_of_ble_eq_true rfl) (fun hn => CI_mono (h) (fun r2 m1 h => ?_))
    exact m_retI (pc := 25) dX12_row_25 rfl h
theorem eX12_row {E : EN} {k : Nat} {mem : Mm} {Q : Int → Mm → Prop}  (h : VM E mX12_row (k + 1) mem 0 [(0, aR 603)] [] (retI Q)) : CI E mX12_row (k + 1) mem [aR 603] Q := CI_of rfl (Nat.le_of_ble_eq_true rfl) h (aNs_c (aNr_R _) (fun _ q => nomatch q))
set_option maxRecDepth 20000 in
theorem rX12_row_35 {E : EN} (hE : Ep E) {k : Nat} {mem : Mm} {Q : Int → Mm → Prop} {x1 x2 x3 : Int}
    (h : ((x1 ≤ x3 → (R32 x2 → CI E mX12_tell k (aUp mem 603 8 0) [aR 603, aI x2] (fun r2 m1 => Q r2 m1))) ∧ (x3 < x1 → (R32 (x3 + 1)) ∧ ((x1 ≤ (x3 + 1) → (R32 ((mem 603 11) + 1)) ∧ (R32 (x3 + 2)) ∧ VM E mX12_row (k + 1) (aUp mem 603 11 ((mem 603 11) + 1)) 35 [(0, aR 603), (1, aI x1), (2, aI x2), (3, aI (x3 + 2))] [] (retI Q)) ∧ ((x3 + 1) < x1 → (R32 (w32 (Int.tdiv x3 2)) → CI E mX12_isCell k mem [aI (w32 (Int.tdiv x3 2))] (fun r7 m6 => ((r7 = 0 → (R32 ((m6 603 11) + 1)) ∧ (R32 (x3 + 2)) ∧ VM E mX12_row (k + 1) (aUp m6 603 11 ((m6 603 11) + 1)) 35 [(0, aR 603), (1, aI x1), (2, aI x2), (3, aI (x3 + 2))] [] (retI Q)) ∧ (¬ r7 = 0 → (0 ≤ x3 ∧ x3 < 400) ∧ (R32 (m6 612 x3) → CI E mX12_canBe k m6 [aI 0, aI (m6 612 x3)] (fun r12 m11 => ((r12 = 0 → (R32 ((m11 603 11) + 1)) ∧ (R32 (x3 + 2)) ∧ VM E mX12_row (k + 1) (aUp m11 603 11 ((m11 603 11) + 1)) 35 [(0, aR 603), (1, aI x1), (2, aI x2), (3, aI (x3 + 2))] [] (retI Q)) ∧ (¬ r12 = 0 → (0 ≤ (x3 + 1) ∧ (x3 + 1) < 400) ∧ (R32 (m11 612 (x3 + 1)) → CI E mX12_canBe k m11 [aI 1, aI (m11 612 (x3 + 1))] (fun r17 m16 => ((r17 = 0 → (R32 ((m16 603 11) + 1)) ∧ (R32 (x3 + 2)) ∧ VM E mX12_row (k + 1) (aUp m16 603 11 ((m16 603 11) + 1)) 35 [(0, aR 603), (1, aI x1), (2, aI x2), (3, aI (x3 + 2))] [] (retI Q)) ∧ (¬ r17 = 0 → (R32 (m16 612 x3) → CI E mX12_isSolid k m16 [aI (m16 612 x3)] (fun r21 m20 => ((r21 = 0 → (R32 (w32 (Int.tdiv x3 2)) → R32 (m20 612 x3) → CV E mX12_setKind k m20 [aR 603, aI (w32 (Int.tdiv x3 2)), aI (m20 612 x3)] (fun m22 => (R32 (112 + (w32 (Int.tdiv x3 2)))) ∧ (0 ≤ (112 + (w32 (Int.tdiv x3 2))) ∧ (112 + (w32 (Int.tdiv x3 2))) < 5570) ∧ (R32 (x2 + 1)) ∧ (R32 (x3 + 2)) ∧ VM E mX12_row (k + 1) (aUp m22 605 (112 + (w32 (Int.tdiv x3 2))) (m22 612 (x3 + 1))) 35 [(0, aR 603), (1, aI x1), (2, aI (x2 + 1)), (3, aI (x3 + 2))] [] (retI Q)))) ∧ (¬ r21 = 0 → (R32 (w32 (Int.tdiv x3 2)) → CI E mX12_plotIn k m20 [aR 603, aI (w32 (Int.tdiv x3 2))] (fun r28 m27 => ((¬ r28 = (-1) → (R32 ((m27 603 11) + 1)) ∧ (R32 (x3 + 2)) ∧ VM E mX12_row (k + 1) (aUp m27 603 11 ((m27 603 11) + 1)) 35 [(0, aR 603), (1, aI x1), (2, aI x2), (3, aI (x3 + 2))] [] (retI Q)) ∧ (r28 = (-1) → (R32 (w32 (Int.tdiv x3 2)) → R32 (m27 612 x3) → CV E mX12_setKind k m27 [aR 603, aI (w32 (Int.tdiv x3 2)), aI (m27 612 x3)] (fun m31 => (R32 (112 + (w32 (Int.tdiv x3 2)))) ∧ (0 ≤ (112 + (w32 (Int.tdiv x3 2))) ∧ (112 + (w32 (Int.tdiv x3 2))) < 5570) ∧ (R32 (x2 + 1)) ∧ (R32 (x3 + 2)) ∧ VM E mX12_row (k + 1) (aUp m31 605 (112 + (w32 (Int.tdiv x3 2))) (m31 612 (x3 + 1))) 35 [(0, aR 603), (1, aI x1), (2, aI (x2 + 1)), (3, aI (x3 + 2))] [] (retI Q)))))))))))))))))))))))))))) :
    VM E mX12_row (k + 1) mem 35 [(0, aR 603), (1, aI x1), (2, aI x2), (3, aI x3)] [] (retI Q) := by
  refine v_iload_n (pc := 35) dX12_row_35 3 rfl ?_
  refine v_iload_n (pc := 36) dX12_row_36 1 rfl ?_
  refine v_icmpge (pc := 37) (tgt := 162) dX12_row_37 (by decide) (fun c1 => ?_) (fun c1 => ?_)
  · have h := h.1 c1
    refine v_aload_n (pc := 162) dX12_row_162 0 rfl ?_
    refine v_iconst (pc := 163) dX12_row_163 (by decide) ?_
    refine v_putf (pc := 164) dX12_row_164 flX12_168 ⟨_, _, rfl, Or.inl rfl⟩ rfl (by decide) (fun q => nomatch q) (Or.inl fun _ => rfl) at603 ?_
    refine v_aload_n (pc := 167) dX12_row_167 0 rfl ?_
    refine v_iload_n (pc := 168) dX12_row_168 2 rfl ?_
    refine m_invI (pc := 169) (mi' := mX12_tell) (rest := []) [aI x2] dX12_row_169 at603 (by decide) rfl msX12_tell mvX12_tell lkX12_175 rfl (Nat.le_of_ble_eq_true rfl) (fun hn => CI_mono (h (aaI hn 1 rfl)) (fun r2 m1 h => ?_))
    exact m_retI (pc := 172) dX12_row_172 rfl h
  · have h := h.2 c1
    refine v_iload_n (pc := 40) dX12_row_40 3 rfl ?_
    refine v_iconst (pc := 41) dX12_row_41 (by decide) ?_
    refine v_idiv (pc := 42) dX12_row_42 (by decide) ?_
    refine v_istore (pc := 43) (al2 := [(4, aI (w32 (Int.tdiv x3 2))), (0, aR 603), (1, aI x1), (2, aI x2), (3, aI x3)]) dX12_row_43 (by decide) rfl ?_
    refine v_iload_n (pc := 45) dX12_row_45 4 rfl ?_
    refine v_iconst (pc := 46) dX12_row_46 (by decide) ?_
    obtain ⟨o3, h⟩ := h
    refine m_iadd (pc := 47) dX12_row_47 o3 ?_
    refine v_iload_n (pc := 48) dX12_row_48 2 rfl ?_
    refine v_icmpge (pc := 49) (tgt := 146) dX12_row_49 (by decide) (fun c1 => ?_) (fun c1 => ?_)
    · have h := h.1 c1
      refine v_aload_n (pc := 146) dX12_row_146 1 rfl ?_
      refine v_dup (pc := 147) dX12_row_147 rfl ?_
      refine m_getf (pc := 148) (t := 0) (v := (mem 603 11)) dX12_row_148 flX12_232 rfl at603 rfl ?_
      refine v_iconst (pc := 151) dX12_row_151 (by decide) ?_
      obtain ⟨o4, h⟩ := h
      refine m_iadd (pc := 152) dX12_row_152 o4 ?_
      refine v_putf (pc := 153) dX12_row_153 flX12_232 ⟨_, _, rfl, Or.inl rfl⟩ rfl (by decide) (fun q => nomatch q) (Or.inl fun _ => rfl) at603 ?_
      obtain ⟨o5, h⟩ := h
      refine m_iinc (pc := 156) (al2 := [(3, aI (x3 + 2)), (4, aI (w32 (Int.tdiv x3 2))), (0, aR 603), (1, aI x1), (2, aI x2)]) dX12_row_156 4 rfl (by decide) o5 rfl ?_
      refine v_goto (pc := 159) (tgt := 35) dX12_row_159 (by decide) ?_
      exact VG_sub (al' := [(0, aR 603), (1, aI x1), (2, aI x2), (3, aI (x3 + 2))]) [2, 3, 4, 0] rfl h
    · have h := h.2 c1
      refine v_iload (pc := 52) dX12_row_52 0 rfl ?_
      refine m_invSI (pc := 54) (mi' := mX12_isCell) (rest := []) [aI (w32 (Int.tdiv x3 2))] dX12_row_54 msX12_isCell stX12_isCell lkX12_192 rfl (Nat.le_of_ble_eq_true rfl) (fun hn => CI_mono (h (aaI hn 0 rfl)) (fun r7 m6 h => ?_))
      refine v_ifeq (pc := 57) (tgt := 146) dX12_row_57 (by decide) (fun c1 => ?_) (fun c1 => ?_)
      · have h := h.1 c1
        refine v_aload_n (pc := 146) dX12_row_146 1 rfl ?_
        refine v_dup (pc := 147) dX12_row_147 rfl ?_
        refine m_getf (pc := 148) (t := 0) (v := (m6 603 11)) dX12_row_148 flX12_232 rfl at603 rfl ?_
        refine v_iconst (pc := 151) dX12_row_151 (by decide) ?_
        obtain ⟨o8, h⟩ := h
        refine m_iadd (pc := 152) dX12_row_152 o8 ?_
        refine v_putf (pc := 153) dX12_row_153 flX12_232 ⟨_, _, rfl, Or.inl rfl⟩ rfl (by decide) (fun q => nomatch q) (Or.inl fun _ => rfl) at603 ?_
        obtain ⟨o9, h⟩ := h
        refine m_iinc (pc := 156) (al2 := [(3, aI (x3 + 2)), (4, aI (w32 (Int.tdiv x3 2))), (0, aR 603), (1, aI x1), (2, aI x2)]) dX12_row_156 4 rfl (by decide) o9 rfl ?_
        refine v_goto (pc := 159) (tgt := 35) dX12_row_159 (by decide) ?_
        exact VG_sub (al' := [(0, aR 603), (1, aI x1), (2, aI x2), (3, aI (x3 + 2))]) [2, 3, 4, 0] rfl h
      · have h := h.2 c1
        refine v_iconst (pc := 60) dX12_row_60 (by decide) ?_
        refine v_aload_n (pc := 61) dX12_row_61 1 rfl ?_
        refine m_getfin (pc := 62) (v := 612) hE dX12_row_62 flX12_35 rfl at603 rfl ?_
        refine v_iload_n (pc := 65) dX12_row_65 4 rfl ?_
        obtain ⟨o10, h⟩ := h
        refine m_iald (pc := 66) (v := (m6 612 x3)) dX12_row_66 at612 o10.1 o10.2 rfl ?_
        refine m_invSI (pc := 67) (mi' := mX12_canBe) (rest := []) [aI 0, aI (m6 612 x3)] dX12_row_67 msX12_canBe stX12_canBe lkX12_196 rfl (Nat.le_of_ble_eq_true rfl) (fun hn => CI_mono (h (aaI hn 1 rfl)) (fun r12 m11 h => ?_))
        refine v_ifeq (pc := 70) (tgt := 146) dX12_row_70 (by decide) (fun c1 => ?_) (fun c1 => ?_)
        · have h := h.1 c1
          refine v_aload_n (pc := 146) dX12_row_146 1 rfl ?_
          refine v_dup (pc := 147) dX12_row_147 rfl ?_
          refine m_getf (pc := 148) (t := 0) (v := (m11 603 11)) dX12_row_148 flX12_232 rfl at603 rfl ?_
          refine v_iconst (pc := 151) dX12_row_151 (by decide) ?_
          obtain ⟨o13, h⟩ := h
          refine m_iadd (pc := 152) dX12_row_152 o13 ?_
          refine v_putf (pc := 153) dX12_row_153 flX12_232 ⟨_, _, rfl, Or.inl rfl⟩ rfl (by decide) (fun q => nomatch q) (Or.inl fun _ => rfl) at603 ?_
          obtain ⟨o14, h⟩ := h
          refine m_iinc (pc := 156) (al2 := [(3, aI (x3 + 2)), (4, aI (w32 (Int.tdiv x3 2))), (0, aR 603), (1, aI x1), (2, aI x2)]) dX12_row_156 4 rfl (by decide) o14 rfl ?_
          refine v_goto (pc := 159) (tgt := 35) dX12_row_159 (by decide) ?_
          exact VG_sub (al' := [(0, aR 603), (1, aI x1), (2, aI x2), (3, aI (x3 + 2))]) [2, 3, 4, 0] rfl h
        · have h := h.2 c1
          refine v_iconst (pc := 73) dX12_row_73 (by decide) ?_
          refine v_aload_n (pc := 74) dX12_row_74 1 rfl ?_
          refine m_getfin (pc := 75) (v := 612) hE dX12_row_75 flX12_35 rfl at603 rfl ?_
          refine v_iload_n (pc := 78) dX12_row_78 4 rfl ?_
          refine v_iconst (pc := 79) dX12_row_79 (by decide) ?_
          refine m_iadd (pc := 80) dX12_row_80 o3 ?_
          obtain ⟨o15, h⟩ := h
          refine m_iald (pc := 81) (v := (m11 612 (x3 + 1))) dX12_row_81 at612 o15.1 o15.2 rfl ?_
          refine m_invSI (pc := 82) (mi' := mX12_canBe) (rest := []) [aI 1, aI (m11 612 (x3 + 1))] dX12_row_82 msX12_canBe stX12_canBe lkX12_196 rfl (Nat.le_of_ble_eq_true rfl) (fun hn => CI_mono (h (aaI hn 1 rfl)) (fun r17 m16 h => ?_))
          refine v_ifeq (pc := 85) (tgt := 146) dX12_row_85 (by decide) (fun c1 => ?_) (fun c1 => ?_)
          · have h := h.1 c1
            refine v_aload_n (pc := 146) dX12_row_146 1 rfl ?_
            refine v_dup (pc := 147) dX12_row_147 rfl ?_
            refine m_getf (pc := 148) (t := 0) (v := (m16 603 11)) dX12_row_148 flX12_232 rfl at603 rfl ?_
            refine v_iconst (pc := 151) dX12_row_151 (by decide) ?_
            obtain ⟨o18, h⟩ := h
            refine m_iadd (pc := 152) dX12_row_152 o18 ?_
            refine v_putf (pc := 153) dX12_row_153 flX12_232 ⟨_, _, rfl, Or.inl rfl⟩ rfl (by decide) (fun q => nomatch q) (Or.inl fun _ => rfl) at603 ?_
            obtain ⟨o19, h⟩ := h
            refine m_iinc (pc := 156) (al2 := [(3, aI (x3 + 2)), (4, aI (w32 (Int.tdiv x3 2))), (0, aR 603), (1, aI x1), (2, aI x2)]) dX12_row_156 4 rfl (by decide) o19 rfl ?_
            refine v_goto (pc := 159) (tgt := 35) dX12_row_159 (by decide) ?_
            exact VG_sub (al' := [(0, aR 603), (1, aI x1), (2, aI x2), (3, aI (x3 + 2))]) [2, 3, 4, 0] rfl h
          · have h := h.2 c1
            refine v_aload_n (pc := 88) dX12_row_88 1 rfl ?_
            refine m_getfin (pc := 89) (v := 612) hE dX12_row_89 flX12_35 rfl at603 rfl ?_
            refine v_iload_n (pc := 92) dX12_row_92 4 rfl ?_
            refine m_iald (pc := 93) (v := (m16 612 x3)) dX12_row_93 at612 o10.1 o10.2 rfl ?_
            refine m_invSI (pc := 94) (mi' := mX12_isSolid) (rest := []) [aI (m16 612 x3)] dX12_row_94 msX12_isSolid stX12_isSolid lkX12_200 rfl (Nat.le_of_ble_eq_true rfl) (fun hn => CI_mono (h (aaI hn 0 rfl)) (fun r21 m20 h => ?_))
            refine v_ifeq (pc := 97) (tgt := 110) dX12_row_97 (by decide) (fun c1 => ?_) (fun c1 => ?_)
            · have h := h.1 c1
              refine v_aload_n (pc := 110) dX12_row_110 1 rfl ?_
              refine v_iload (pc := 111) dX12_row_111 0 rfl ?_
              refine v_aload_n (pc := 113) dX12_row_113 1 rfl ?_
              refine m_getfin (pc := 114) (v := 612) hE dX12_row_114 flX12_35 rfl at603 rfl ?_
              refine v_iload_n (pc := 117) dX12_row_117 4 rfl ?_
              refine m_iald (pc := 118) (v := (m20 612 x3)) dX12_row_118 at612 o10.1 o10.2 rfl ?_
              refine m_invV (pc := 119) (mi' := mX12_setKind) (rest := []) [aI (w32 (Int.tdiv x3 2)), aI (m20 612 x3)] dX12_row_119 at603 (by decide) rfl msX12_setKind mvX12_setKind lkX12_206 rfl (Nat.le_of_ble_eq_true rfl) (fun hn => CV_mono (h (aaI hn 1 rfl) (aaI hn 2 rfl)) (fun m22 h => ?_))
              refine v_aload_n (pc := 122) dX12_row_122 1 rfl ?_
              refine m_getfin (pc := 123) (v := 605) hE dX12_row_123 flX12_13 rfl at603 rfl ?_
              refine v_bipush (pc := 126) dX12_row_126 (by decide) ?_
              refine v_iload (pc := 128) dX12_row_128 0 rfl ?_
              obtain ⟨o23, h⟩ := h
              refine m_iadd (pc := 130) dX12_row_130 o23 ?_
              refine v_aload_n (pc := 131) dX12_row_131 1 rfl ?_
              refine m_getfin (pc := 132) (v := 612) hE dX12_row_132 flX12_35 rfl at603 rfl ?_
              refine v_iload_n (pc := 135) dX12_row_135 4 rfl ?_
              refine v_iconst (pc := 136) dX12_row_136 (by decide) ?_
              refine m_iadd (pc := 137) dX12_row_137 o3 ?_
              refine m_iald (pc := 138) (v := (m22 612 (x3 + 1))) dX12_row_138 at612 o15.1 o15.2 rfl ?_
              obtain ⟨o24, h⟩ := h
              refine v_iast (pc := 139) dX12_row_139 at605 o24.1 o24.2 ?_
              obtain ⟨o25, h⟩ := h
              refine m_iinc (pc := 140) (al2 := [(2, aI (x2 + 1)), (4, aI (w32 (Int.tdiv x3 2))), (0, aR 603), (1, aI x1), (3, aI x3)]) dX12_row_140 3 rfl (by decide) o25 rfl ?_
              refine v_goto (pc := 143) (tgt := 156) dX12_row_143 (by decide) ?_
              obtain ⟨o26, h⟩ := h
              refine m_iinc (pc := 156) (al2 := [(3, aI (x3 + 2)), (2, aI (x2 + 1)), (4, aI (w32 (Int.tdiv x3 2))), (0, aR 603), (1, aI x1)]) dX12_row_156 4 rfl (by decide) o26 rfl ?_
              refine v_goto (pc := 159) (tgt := 35) dX12_row_159 (by decide) ?_
              exact VG_sub (al' := [(0, aR 603), (1, aI x1), (2, aI (x2 + 1)), (3, aI (x3 + 2))]) [3, 4, 1, 0] rfl h
            · have h := h.2 c1
              refine v_aload_n (pc := 100) dX12_row_100 1 rfl ?_
              refine v_iload (pc := 101) dX12_row_101 0 rfl ?_
              refine m_invI (pc := 103) (mi' := mX12_plotIn) (rest := []) [aI (w32 (Int.tdiv x3 2))] dX12_row_103 at603 (by decide) rfl msX12_plotIn mvX12_plotIn lkX12_203 rfl (Nat.le_of_ble_eq_true rfl) (fun hn => CI_mono (h (aaI hn 1 rfl)) (fun r28 m27 h => ?_))
              refine v_iconst (pc := 106) dX12_row_106 (by decide) ?_
              refine v_icmpne (pc := 107) (tgt := 146) dX12_row_107 (by decide) (fun c1 => ?_) (fun c1 => ?_)
              · have h := h.1 c1
                refine v_aload_n (pc := 146) dX12_row_146 1 rfl ?_
                refine v_dup (pc := 147) dX12_row_147 rfl ?_
                refine m_getf (pc := 148) (t := 0) (v := (m27 603 11)) dX12_row_148 flX12_232 rfl at603 rfl ?_
                refine v_iconst (pc := 151) dX12_row_151 (by decide) ?_
                obtain ⟨o29, h⟩ := h
                refine m_iadd (pc := 152) dX12_row_152 o29 ?_
                refine v_putf (pc := 153) dX12_row_153 flX12_232 ⟨_, _, rfl, Or.inl rfl⟩ rfl (by decide) (fun q => nomatch q) (Or.inl fun _ => rfl) at603 ?_
                obtain ⟨o30, h⟩ := h
                refine m_iinc (pc := 156) (al2 := [(3, aI (x3 + 2)), (4, aI (w32 (Int.tdiv x3 2))), (0, aR 603), (1, aI x1), (2, aI x2)]) dX12_row_156 4 rfl (by decide) o30 rfl ?_
                refine v_goto (pc := 159) (tgt := 35) dX12_row_159 (by decide) ?_
                exact VG_sub (al' := [(0, aR 603), (1, aI x1), (2, aI x2), (3, aI (x3 + 2))]) [2, 3, 4, 0] rfl h
              · have h := h.2 c1
                refine v_aload_n (pc := 110) dX12_row_110 1 rfl ?_
                refine v_iload (pc := 111) dX12_row_111 0 rfl ?_
                refine v_aload_n (pc := 113) dX12_row_113 1 rfl ?_
                refine m_getfin (pc := 114) (v := 612) hE dX12_row_114 flX12_35 rfl at603 rfl ?_
                refine v_iload_n (pc := 117) dX12_row_117 4 rfl ?_
                refine m_iald (pc := 118) (v := (m27 612 x3)) dX12_row_118 at612 o10.1 o10.2 rfl ?_
                refine m_invV (pc := 119) (mi' := mX12_setKind) (rest := []) [aI (w32 (Int.tdiv x3 2)), aI (m27 612 x3)] dX12_row_119 at603 (by decide) rfl msX12_setKind mvX12_setKind lkX12_206 rfl (Nat.le_of_ble_eq_true rfl) (fun hn => CV_mono (h (aaI hn 1 rfl) (aaI hn 2 rfl)) (fun m31 h => ?_))
                refine v_aload_n (pc := 122) dX12_row_122 1 rfl ?_
                refine m_getfin (pc := 123) (v := 605) hE dX12_row_123 flX12_13 rfl at603 rfl ?_
                refine v_bipush (pc := 126) dX12_row_126 (by decide) ?_
                refine v_iload (pc := 128) dX12_row_128 0 rfl ?_
                obtain ⟨o32, h⟩ := h
                refine m_iadd (pc := 130) dX12_row_130 o32 ?_
                refine v_aload_n (pc := 131) dX12_row_131 1 rfl ?_
                refine m_getfin (pc := 132) (v := 612) hE dX12_row_132 flX12_35 rfl at603 rfl ?_
                refine v_iload_n (pc := 135) dX12_row_135 4 rfl ?_
                refine v_iconst (pc := 136) dX12_row_136 (by decide) ?_
                refine m_iadd (pc := 137) dX12_row_137 o3 ?_
                refine m_iald (pc := 138) (v := (m31 612 (x3 + 1))) dX12_row_138 at612 o15.1 o15.2 rfl ?_
                obtain ⟨o33, h⟩ := h
                refine v_iast (pc := 139) dX12_row_139 at605 o33.1 o33.2 ?_
                obtain ⟨o34, h⟩ := h
                refine m_iinc (pc := 140) (al2 := [(2, aI (x2 + 1)), (4, aI (w32 (Int.tdiv x3 2))), (0, aR 603), (1, aI x1), (3, aI x3)]) dX12_row_140 3 rfl (by decide) o34 rfl ?_
                refine v_goto (pc := 143) (tgt := 156) dX12_row_143 (by decide) ?_
                obtain ⟨o35, h⟩ := h
                refine m_iinc (pc := 156) (al2 := [(3, aI (x3 + 2)), (2, aI (x2 + 1)), (4, aI (w32 (Int.tdiv x3 2))), (0, aR 603), (1, aI x1)]) dX12_row_156 4 rfl (by decide) o35 rfl ?_
                refine v_goto (pc := 159) (tgt := 35) dX12_row_159 (by decide) ?_
                exact VG_sub (al' := [(0, aR 603), (1, aI x1), (2, aI (x2 + 1)), (3, aI (x3 + 2))]) [3, 4, 1, 0] rfl h

theorem dX12_moles_0 : decode cX12_moles 0 = .ok (.aload_n 0, 1) := by decide +kernel
theorem dX12_moles_1 : decode cX12_moles 1 = .ok (.iconst 0, 1) := by decide +kernel
theorem dX12_moles_2 : decode cX12_moles 2 = .ok (.putfield 162, 3) := by decide +kernel
theorem dX12_moles_5 : decode cX12_moles 5 = .ok (.aload_n 0, 1) := by decide +kernel
theorem dX12_moles_6 : decode cX12_moles 6 = .ok (.getfield 232, 3) := by decide +kernel
theorem dX12_moles_9 : decode cX12_moles 9 = .ok (.ireturn, 1) := by decide +kernel
set_option maxRecDepth 20000 in
theorem rX12_moles_0 {E : EN} (hE : Ep E) {k : Nat} {mem : Mm} {Q : Int → Mm → Prop}
    (h : Q (mem 603 11) (aUp mem 603 0 0)) :
    VM E mX12_moles k mem 0 [(0, aR 603)] [] (retI Q) := by
  refine v_aload_n (pc := 0) dX12_moles_0 0 rfl ?_
  refine v_iconst (pc := 1) dX12_moles_1 (by decide) ?_
  refine v_putf (pc := 2) dX12_moles_2 flX12_162 ⟨_, _, rfl, Or.inl rfl⟩ rfl (by decide) (fun q => nomatch q) (Or.inl fun _ => rfl) at603 ?_
  refine v_aload_n (pc := 5) dX12_moles_5 0 rfl ?_
  refine m_getf (pc := 6) (t := 0) (v := (mem 603 11)) dX12_moles_6 flX12_232 rfl at603 (aUp_ri (by decide)) ?_
  exact m_retI (pc := 9) dX12_moles_9 rfl h
theorem eX12_moles {E : EN} {k : Nat} {mem : Mm} {Q : Int → Mm → Prop}  (h : VM E mX12_moles k mem 0 [(0, aR 603)] [] (retI Q)) : CI E mX12_moles k mem [aR 603] Q := CI_of rfl (Nat.le_of_ble_eq_true rfl) h (aNs_c (aNr_R _) (fun _ q => nomatch q))

theorem dX12_four_0 : decode cX12_four 0 = .ok (.bipush 24, 2) := by decide +kernel
theorem dX12_four_2 : decode cX12_four 2 = .ok (.istore_n 2, 1) := by decide +kernel
theorem dX12_four_3 : decode cX12_four 3 = .ok (.iload_n 2, 1) := by decide +kernel
theorem dX12_four_4 : decode cX12_four 4 = .ok (.ifCond .lt 35, 3) := by decide +kernel
theorem dX12_four_7 : decode cX12_four 7 = .ok (.aload_n 0, 1) := by decide +kernel
theorem dX12_four_8 : decode cX12_four 8 = .ok (.getfield 35, 3) := by decide +kernel
theorem dX12_four_11 : decode cX12_four 11 = .ok (.aload_n 0, 1) := by decide +kernel
theorem dX12_four_12 : decode cX12_four 12 = .ok (.getfield 229, 3) := by decide +kernel
theorem dX12_four_15 : decode cX12_four 15 = .ok (.iload_n 1, 1) := by decide +kernel
theorem dX12_four_16 : decode cX12_four 16 = .ok (.iload_n 2, 1) := by decide +kernel
theorem dX12_four_17 : decode cX12_four 17 = .ok (.ishr, 1) := by decide +kernel
theorem dX12_four_18 : decode cX12_four 18 = .ok (.sipush 255, 3) := by decide +kernel
theorem dX12_four_21 : decode cX12_four 21 = .ok (.iand, 1) := by decide +kernel
theorem dX12_four_22 : decode cX12_four 22 = .ok (.iastore, 1) := by decide +kernel
theorem dX12_four_23 : decode cX12_four 23 = .ok (.aload_n 0, 1) := by decide +kernel
theorem dX12_four_24 : decode cX12_four 24 = .ok (.dup, 1) := by decide +kernel
theorem dX12_four_25 : decode cX12_four 25 = .ok (.getfield 229, 3) := by decide +kernel
theorem dX12_four_28 : decode cX12_four 28 = .ok (.iconst 1, 1) := by decide +kernel
theorem dX12_four_29 : decode cX12_four 29 = .ok (.iadd, 1) := by decide +kernel
theorem dX12_four_30 : decode cX12_four 30 = .ok (.putfield 229, 3) := by decide +kernel
theorem dX12_four_33 : decode cX12_four 33 = .ok (.iinc 2 (-8), 3) := by decide +kernel
theorem dX12_four_36 : decode cX12_four 36 = .ok (.goto (-33), 3) := by decide +kernel
theorem dX12_four_39 : decode cX12_four 39 = .ok (.return_, 1) := by decide +kernel
set_option maxRecDepth 20000 in
theorem rX12_four_0 {E : EN} (hE : Ep E) {k : Nat} {mem : Mm} {Q : Mm → Prop} {p0 : Int}
    (h : VM E mX12_four k mem 3 [(0, aR 603), (1, aI p0), (2, aI 24)] [] (retV Q)) :
    VM E mX12_four k mem 0 [(0, aR 603), (1, aI p0)] [] (retV Q) := by
  refine v_bipush (pc := 0) dX12_four_0 (by decide) ?_
  refine v_istore_n (pc := 2) (al2 := [(2, aI 24), (0, aR 603), (1, aI p0)]) dX12_four_2 (by decide) rfl ?_
  exact VG_sub (al' := [(0, aR 603), (1, aI p0), (2, aI 24)]) [1, 2, 0] rfl h
theorem eX12_four {E : EN} {k : Nat} {mem : Mm} {Q : Mm → Prop} {p0 : Int} (hr_p0 : R32 p0) (h : VM E mX12_four k mem 0 [(0, aR 603), (1, aI p0)] [] (retV Q)) : CV E mX12_four k mem [aR 603, aI p0] Q := CV_of rfl (Nat.le_of_ble_eq_true rfl) h (aNs_c (aNr_R _) (aNs_c (aNr_I hr_p0) (fun _ q => nomatch q)))
set_option maxRecDepth 20000 in
theorem rX12_four_3 {E : EN} (hE : Ep E) {k : Nat} {mem : Mm} {Q : Mm → Prop} {p0 x2 : Int}
    (h : ((x2 < 0 → Q mem) ∧ (0 ≤ x2 → (0 ≤ (mem 603 13) ∧ (mem 603 13) < 400) ∧ (R32 ((mem 603 13) + 1)) ∧ (R32 (x2 + (-8))) ∧ VM E mX12_four k (aUp (aUp mem 612 (mem 603 13) (xAnd (xShr p0 x2) 255)) 603 13 ((mem 603 13) + 1)) 3 [(0, aR 603), (1, aI p0), (2, aI (x2 + (-8)))] [] (retV Q)))) :
    VM E mX12_four k mem 3 [(0, aR 603), (1, aI p0), (2, aI x2)] [] (retV Q) := by
  refine v_iload_n (pc := 3) dX12_four_3 2 rfl ?_
  refine v_iflt (pc := 4) (tgt := 39) dX12_four_4 (by decide) (fun c1 => ?_) (fun c1 => ?_)
  · have h := h.1 c1
    exact m_retV (pc := 39) dX12_four_39 rfl h
  · have h := h.2 c1
    refine v_aload_n (pc := 7) dX12_four_7 0 rfl ?_
    refine m_getfin (pc := 8) (v := 612) hE dX12_four_8 flX12_35 rfl at603 rfl ?_
    refine v_aload_n (pc := 11) dX12_four_11 0 rfl ?_
    refine m_getf (pc := 12) (t := 0) (v := (mem 603 13)) dX12_four_12 flX12_229 rfl at603 rfl ?_
    refine v_iload_n (pc := 15) dX12_four_15 1 rfl ?_
    refine v_iload_n (pc := 16) dX12_four_16 2 rfl ?_
    refine v_ishr (pc := 17) dX12_four_17 ?_
    refine v_sipush (pc := 18) dX12_four_18 (by decide) ?_
    refine v_iand (pc := 21) dX12_four_21 ?_
    obtain ⟨o1, h⟩ := h
    refine v_iast (pc := 22) dX12_four_22 at612 o1.1 o1.2 ?_
    refine v_aload_n (pc := 23) dX12_four_23 0 rfl ?_
    refine v_dup (pc := 24) dX12_four_24 rfl ?_
    refine m_getf (pc := 25) (t := 0) (v := (mem 603 13)) dX12_four_25 flX12_229 rfl at603 (aUp_rn (by omega)) ?_
    refine v_iconst (pc := 28) dX12_four_28 (by decide) ?_
    obtain ⟨o2, h⟩ := h
    refine m_iadd (pc := 29) dX12_four_29 o2 ?_
    refine v_putf (pc := 30) dX12_four_30 flX12_229 ⟨_, _, rfl, Or.inl rfl⟩ rfl (by decide) (fun q => nomatch q) (Or.inl fun _ => rfl) at603 ?_
    obtain ⟨o3, h⟩ := h
    refine m_iinc (pc := 33) (al2 := [(2, aI (x2 + (-8))), (0, aR 603), (1, aI p0)]) dX12_four_33 2 rfl (by decide) o3 rfl ?_
    refine v_goto (pc := 36) (tgt := 3) dX12_four_36 (by decide) ?_
    exact VG_sub (al' := [(0, aR 603), (1, aI p0), (2, aI (x2 + (-8)))]) [1, 2, 0] rfl h

theorem dX12_feed_0 : decode cX12_feed 0 = .ok (.aload_n 0, 1) := by decide +kernel
theorem dX12_feed_1 : decode cX12_feed 1 = .ok (.iconst 0, 1) := by decide +kernel
theorem dX12_feed_2 : decode cX12_feed 2 = .ok (.putfield 162, 3) := by decide +kernel
theorem dX12_feed_5 : decode cX12_feed 5 = .ok (.aload_n 0, 1) := by decide +kernel
theorem dX12_feed_6 : decode cX12_feed 6 = .ok (.getfield 229, 3) := by decide +kernel
theorem dX12_feed_9 : decode cX12_feed 9 = .ok (.bipush 20, 2) := by decide +kernel
theorem dX12_feed_11 : decode cX12_feed 11 = .ok (.iadd, 1) := by decide +kernel
theorem dX12_feed_12 : decode cX12_feed 12 = .ok (.sipush 400, 3) := by decide +kernel
theorem dX12_feed_15 : decode cX12_feed 15 = .ok (.if_icmp .le 5, 3) := by decide +kernel
theorem dX12_feed_18 : decode cX12_feed 18 = .ok (.iconst (-1), 1) := by decide +kernel
theorem dX12_feed_19 : decode cX12_feed 19 = .ok (.ireturn, 1) := by decide +kernel
theorem dX12_feed_20 : decode cX12_feed 20 = .ok (.aload_n 0, 1) := by decide +kernel
theorem dX12_feed_21 : decode cX12_feed 21 = .ok (.iload_n 1, 1) := by decide +kernel
theorem dX12_feed_22 : decode cX12_feed 22 = .ok (.invokevirtual 235, 3) := by decide +kernel
theorem dX12_feed_25 : decode cX12_feed 25 = .ok (.aload_n 0, 1) := by decide +kernel
theorem dX12_feed_26 : decode cX12_feed 26 = .ok (.iload_n 2, 1) := by decide +kernel
theorem dX12_feed_27 : decode cX12_feed 27 = .ok (.invokevirtual 235, 3) := by decide +kernel
theorem dX12_feed_30 : decode cX12_feed 30 = .ok (.aload_n 0, 1) := by decide +kernel
theorem dX12_feed_31 : decode cX12_feed 31 = .ok (.iload_n 3, 1) := by decide +kernel
theorem dX12_feed_32 : decode cX12_feed 32 = .ok (.invokevirtual 235, 3) := by decide +kernel
theorem dX12_feed_35 : decode cX12_feed 35 = .ok (.aload_n 0, 1) := by decide +kernel
theorem dX12_feed_36 : decode cX12_feed 36 = .ok (.iload 4, 2) := by decide +kernel
theorem dX12_feed_38 : decode cX12_feed 38 = .ok (.invokevirtual 235, 3) := by decide +kernel
theorem dX12_feed_41 : decode cX12_feed 41 = .ok (.aload_n 0, 1) := by decide +kernel
theorem dX12_feed_42 : decode cX12_feed 42 = .ok (.iload 5, 2) := by decide +kernel
theorem dX12_feed_44 : decode cX12_feed 44 = .ok (.invokevirtual 235, 3) := by decide +kernel
theorem dX12_feed_47 : decode cX12_feed 47 = .ok (.aload_n 0, 1) := by decide +kernel
theorem dX12_feed_48 : decode cX12_feed 48 = .ok (.getfield 229, 3) := by decide +kernel
theorem dX12_feed_51 : decode cX12_feed 51 = .ok (.ireturn, 1) := by decide +kernel
set_option maxRecDepth 20000 in
theorem rX12_feed_0 {E : EN} (hE : Ep E) {k : Nat} {mem : Mm} {Q : Int → Mm → Prop} {p0 p1 p2 p3 p4 : Int}
    (h : (R32 ((mem 603 13) + 20)) ∧ ((((mem 603 13) + 20) ≤ 400 → (R32 p0 → CV E mX12_four k (aUp mem 603 0 0) [aR 603, aI p0] (fun m2 => (R32 p1 → CV E mX12_four k m2 [aR 603, aI p1] (fun m3 => (R32 p2 → CV E mX12_four k m3 [aR 603, aI p2] (fun m4 => (R32 p3 → CV E mX12_four k m4 [aR 603, aI p3] (fun m5 => (R32 p4 → CV E mX12_four k m5 [aR 603, aI p4] (fun m6 => Q (m6 603 13) m6))))))))))) ∧ (400 < ((mem 603 13) + 20) → Q (-1) (aUp mem 603 0 0)))) :
    VM E mX12_feed (k + 1) mem 0 [(0, aR 603), (1, aI p0), (2, aI p1), (3, aI p2), (4, aI p3), (5, aI p4)] [] (retI Q) := by
  refine v_aload_n (pc := 0) dX12_feed_0 0 rfl ?_
  refine v_iconst (pc := 1) dX12_feed_1 (by decide) ?_
  refine v_putf (pc := 2) dX12_feed_2 flX12_162 ⟨_, _, rfl, Or.inl rfl⟩ rfl (by decide) (fun q => nomatch q) (Or.inl fun _ => rfl) at603 ?_
  refine v_aload_n (pc := 5) dX12_feed_5 0 rfl ?_
  refine m_getf (pc := 6) (t := 0) (v := (mem 603 13)) dX12_feed_6 flX12_229 rfl at603 (aUp_ri (by decide)) ?_
  refine v_bipush (pc := 9) dX12_feed_9 (by decide) ?_
  obtain ⟨o1, h⟩ := h
  refine m_iadd (pc := 11) dX12_feed_11 o1 ?_
  refine v_sipush (pc := 12) dX12_feed_12 (by decide) ?_
  refine v_icmple (pc := 15) (tgt := 20) dX12_feed_15 (by decide) (fun c1 => ?_) (fun c1 => ?_)
  · have h := h.1 c1
    refine v_aload_n (pc := 20) dX12_feed_20 0 rfl ?_
    refine v_iload_n (pc := 21) dX12_feed_21 1 rfl ?_
    refine m_invV (pc := 22) (mi' := mX12_four) (rest := []) [aI p0] dX12_feed_22 at603 (by decide) rfl msX12_four mvX12_four lkX12_235 rfl (Nat.le_of_ble_eq_true rfl) (fun hn => CV_mono (h (aaI hn 1 rfl)) (fun m2 h => ?_))
    refine v_aload_n (pc := 25) dX12_feed_25 0 rfl ?_
    refine v_iload_n (pc := 26) dX12_feed_26 2 rfl ?_
    refine m_invV (pc := 27) (mi' := mX12_four) (rest := []) [aI p1] dX12_feed_27 at603 (by decide) rfl msX12_four mvX12_four lkX12_235 rfl (Nat.le_of_ble_eq_true rfl) (fun hn => CV_mono (h (aaI hn 1 rfl)) (fun m3 h => ?_))
    refine v_aload_n (pc := 30) dX12_feed_30 0 rfl ?_
    refine v_iload_n (pc := 31) dX12_feed_31 3 rfl ?_
    refine m_invV (pc := 32) (mi' := mX12_four) (rest := []) [aI p2] dX12_feed_32 at603 (by decide) rfl msX12_four mvX12_four lkX12_235 rfl (Nat.le_of_ble_eq_true rfl) (fun hn => CV_mono (h (aaI hn 1 rfl)) (fun m4 h => ?_))
    refine v_aload_n (pc := 35) dX12_feed_35 0 rfl ?_
    refine v_iload (pc := 36) dX12_feed_36 4 rfl ?_
    refine m_invV (pc := 38) (mi' := mX12_four) (rest := []) [aI p3] dX12_feed_38 at603 (by decide) rfl msX12_four mvX12_four lkX12_235 rfl (Nat.le_of_ble_eq_true rfl) (fun hn => CV_mono (h (aaI hn 1 rfl)) (fun m5 h => ?_))
    refine v_aload_n (pc := 41) dX12_feed_41 0 rfl ?_
    refine v_iload (pc := 42) dX12_feed_42 5 rfl ?_
    refine m_invV (pc := 44) (mi' := mX12_four) (rest := []) [aI p4] dX12_feed_44 at603 (by decide) rfl msX12_four mvX12_four lkX12_235 rfl (Nat.le_of_ble_eq_true rfl) (fun hn => CV_mono (h (aaI hn 1 rfl)) (fun m6 h => ?_))
    refine v_aload_n (pc := 47) dX12_feed_47 0 rfl ?_
    refine m_getf (pc := 48) (t := 0) (v := (m6 603 13)) dX12_feed_48 flX12_229 rfl at603 rfl ?_
    exact m_retI (pc := 51) dX12_feed_51 rfl h
  · have h := h.2 c1
    refine v_iconst (pc := 18) dX12_feed_18 (by decide) ?_
    exact m_retI (pc := 19) dX12_feed_19 rfl h
theorem eX12_feed {E : EN} {k : Nat} {mem : Mm} {Q : Int → Mm → Prop} {p0 p1 p2 p3 p4 : Int} (hr_p0 : R32 p0) (hr_p1 : R32 p1) (hr_p2 : R32 p2) (hr_p3 : R32 p3) (hr_p4 : R32 p4) (h : VM E mX12_feed (k + 1) mem 0 [(0, aR 603), (1, aI p0), (2, aI p1), (3, aI p2), (4, aI p3), (5, aI p4)] [] (retI Q)) : CI E mX12_feed (k + 1) mem [aR 603, aI p0, aI p1, aI p2, aI p3, aI p4] Q := CI_of rfl (Nat.le_of_ble_eq_true rfl) h (aNs_c (aNr_R _) (aNs_c (aNr_I hr_p0) (aNs_c (aNr_I hr_p1) (aNs_c (aNr_I hr_p2) (aNs_c (aNr_I hr_p3) (aNs_c (aNr_I hr_p4) (fun _ q => nomatch q)))))))

theorem dX12_end_0 : decode cX12_end 0 = .ok (.aload_n 0, 1) := by decide +kernel
theorem dX12_end_1 : decode cX12_end 1 = .ok (.iconst 0, 1) := by decide +kernel
theorem dX12_end_2 : decode cX12_end 2 = .ok (.putfield 162, 3) := by decide +kernel
theorem dX12_end_5 : decode cX12_end 5 = .ok (.iload_n 1, 1) := by decide +kernel
theorem dX12_end_6 : decode cX12_end 6 = .ok (.ifCond .lt 11, 3) := by decide +kernel
theorem dX12_end_9 : decode cX12_end 9 = .ok (.iload_n 1, 1) := by decide +kernel
theorem dX12_end_10 : decode cX12_end 10 = .ok (.aload_n 0, 1) := by decide +kernel
theorem dX12_end_11 : decode cX12_end 11 = .ok (.getfield 229, 3) := by decide +kernel
theorem dX12_end_14 : decode cX12_end 14 = .ok (.if_icmp .le 5, 3) := by decide +kernel
theorem dX12_end_17 : decode cX12_end 17 = .ok (.iconst (-1), 1) := by decide +kernel
theorem dX12_end_18 : decode cX12_end 18 = .ok (.ireturn, 1) := by decide +kernel
theorem dX12_end_19 : decode cX12_end 19 = .ok (.aload_n 0, 1) := by decide +kernel
theorem dX12_end_20 : decode cX12_end 20 = .ok (.iload_n 1, 1) := by decide +kernel
theorem dX12_end_21 : decode cX12_end 21 = .ok (.putfield 229, 3) := by decide +kernel
theorem dX12_end_24 : decode cX12_end 24 = .ok (.iload_n 1, 1) := by decide +kernel
theorem dX12_end_25 : decode cX12_end 25 = .ok (.ireturn, 1) := by decide +kernel
set_option maxRecDepth 20000 in
theorem rX12_end_0 {E : EN} (hE : Ep E) {k : Nat} {mem : Mm} {Q : Int → Mm → Prop} {p0 : Int}
    (h : ((p0 < 0 → Q (-1) (aUp mem 603 0 0)) ∧ (0 ≤ p0 → ((p0 ≤ (mem 603 13) → Q p0 (aUp (aUp mem 603 0 0) 603 13 p0)) ∧ ((mem 603 13) < p0 → Q (-1) (aUp mem 603 0 0)))))) :
    VM E mX12_end k mem 0 [(0, aR 603), (1, aI p0)] [] (retI Q) := by
  refine v_aload_n (pc := 0) dX12_end_0 0 rfl ?_
  refine v_iconst (pc := 1) dX12_end_1 (by decide) ?_
  refine v_putf (pc := 2) dX12_end_2 flX12_162 ⟨_, _, rfl, Or.inl rfl⟩ rfl (by decide) (fun q => nomatch q) (Or.inl fun _ => rfl) at603 ?_
  refine v_iload_n (pc := 5) dX12_end_5 1 rfl ?_
  refine v_iflt (pc := 6) (tgt := 17) dX12_end_6 (by decide) (fun c1 => ?_) (fun c1 => ?_)
  · have h := h.1 c1
    refine v_iconst (pc := 17) dX12_end_17 (by decide) ?_
    exact m_retI (pc := 18) dX12_end_18 rfl h
  · have h := h.2 c1
    refine v_iload_n (pc := 9) dX12_end_9 1 rfl ?_
    refine v_aload_n (pc := 10) dX12_end_10 0 rfl ?_
    refine m_getf (pc := 11) (t := 0) (v := (mem 603 13)) dX12_end_11 flX12_229 rfl at603 (aUp_ri (by decide)) ?_
    refine v_icmple (pc := 14) (tgt := 19) dX12_end_14 (by decide) (fun c1 => ?_) (fun c1 => ?_)
    · have h := h.1 c1
      refine v_aload_n (pc := 19) dX12_end_19 0 rfl ?_
      refine v_iload_n (pc := 20) dX12_end_20 1 rfl ?_
      refine v_putf (pc := 21) dX12_end_21 flX12_229 ⟨_, _, rfl, Or.inl rfl⟩ rfl (by decide) (fun q => nomatch q) (Or.inl fun _ => rfl) at603 ?_
      refine v_iload_n (pc := 24) dX12_end_24 1 rfl ?_
      exact m_retI (pc := 25) dX12_end_25 rfl h
    · have h := h.2 c1
      refine v_iconst (pc := 17) dX12_end_17 (by decide) ?_
      exact m_retI (pc := 18) dX12_end_18 rfl h
theorem eX12_end {E : EN} {k : Nat} {mem : Mm} {Q : Int → Mm → Prop} {p0 : Int} (hr_p0 : R32 p0) (h : VM E mX12_end k mem 0 [(0, aR 603), (1, aI p0)] [] (retI Q)) : CI E mX12_end k mem [aR 603, aI p0] Q := CI_of rfl (Nat.le_of_ble_eq_true rfl) h (aNs_c (aNr_R _) (aNs_c (aNr_I hr_p0) (fun _ q => nomatch q)))

theorem dX12_isSmall_0 : decode cX12_isSmall 0 = .ok (.iload_n 0, 1) := by decide +kernel
theorem dX12_isSmall_1 : decode cX12_isSmall 1 = .ok (.bipush 97, 2) := by decide +kernel
theorem dX12_isSmall_3 : decode cX12_isSmall 3 = .ok (.if_icmp .lt 13, 3) := by decide +kernel
theorem dX12_isSmall_6 : decode cX12_isSmall 6 = .ok (.iload_n 0, 1) := by decide +kernel
theorem dX12_isSmall_7 : decode cX12_isSmall 7 = .ok (.bipush 122, 2) := by decide +kernel
theorem dX12_isSmall_9 : decode cX12_isSmall 9 = .ok (.if_icmp .gt 7, 3) := by decide +kernel
theorem dX12_isSmall_12 : decode cX12_isSmall 12 = .ok (.iconst 1, 1) := by decide +kernel
theorem dX12_isSmall_13 : decode cX12_isSmall 13 = .ok (.goto 4, 3) := by decide +kernel
theorem dX12_isSmall_16 : decode cX12_isSmall 16 = .ok (.iconst 0, 1) := by decide +kernel
theorem dX12_isSmall_17 : decode cX12_isSmall 17 = .ok (.ireturn, 1) := by decide +kernel
set_option maxRecDepth 20000 in
theorem rX12_isSmall_0 {E : EN} (hE : Ep E) {k : Nat} {mem : Mm} {Q : Int → Mm → Prop} {p0 : Int}
    (h : ((p0 < 97 → Q 0 mem) ∧ (97 ≤ p0 → ((122 < p0 → Q 0 mem) ∧ (p0 ≤ 122 → Q 1 mem))))) :
    VM E mX12_isSmall k mem 0 [(0, aI p0)] [] (retI Q) := by
  refine v_iload_n (pc := 0) dX12_isSmall_0 0 rfl ?_
  refine v_bipush (pc := 1) dX12_isSmall_1 (by decide) ?_
  refine v_icmplt (pc := 3) (tgt := 16) dX12_isSmall_3 (by decide) (fun c1 => ?_) (fun c1 => ?_)
  · have h := h.1 c1
    refine v_iconst (pc := 16) dX12_isSmall_16 (by decide) ?_
    exact m_retZ (pc := 17) dX12_isSmall_17 rfl (by decide) h
  · have h := h.2 c1
    refine v_iload_n (pc := 6) dX12_isSmall_6 0 rfl ?_
    refine v_bipush (pc := 7) dX12_isSmall_7 (by decide) ?_
    refine v_icmpgt (pc := 9) (tgt := 16) dX12_isSmall_9 (by decide) (fun c1 => ?_) (fun c1 => ?_)
    · have h := h.1 c1
      refine v_iconst (pc := 16) dX12_isSmall_16 (by decide) ?_
      exact m_retZ (pc := 17) dX12_isSmall_17 rfl (by decide) h
    · have h := h.2 c1
      refine v_iconst (pc := 12) dX12_isSmall_12 (by decide) ?_
      refine v_goto (pc := 13) (tgt := 17) dX12_isSmall_13 (by decide) ?_
      exact m_retZ (pc := 17) dX12_isSmall_17 rfl (by decide) h
theorem eX12_isSmall {E : EN} {k : Nat} {mem : Mm} {Q : Int → Mm → Prop} {p0 : Int} (hr_p0 : R32 p0) (h : VM E mX12_isSmall k mem 0 [(0, aI p0)] [] (retI Q)) : CI E mX12_isSmall k mem [aI p0] Q := CI_of rfl (Nat.le_of_ble_eq_true rfl) h (aNs_c (aNr_I hr_p0) (fun _ q => nomatch q))

theorem dX12_isDigit_0 : decode cX12_isDigit 0 = .ok (.iload_n 0, 1) := by decide +kernel
theorem dX12_isDigit_1 : decode cX12_isDigit 1 = .ok (.bipush 48, 2) := by decide +kernel
theorem dX12_isDigit_3 : decode cX12_isDigit 3 = .ok (.if_icmp .lt 13, 3) := by decide +kernel
theorem dX12_isDigit_6 : decode cX12_isDigit 6 = .ok (.iload_n 0, 1) := by decide +kernel
theorem dX12_isDigit_7 : decode cX12_isDigit 7 = .ok (.bipush 57, 2) := by decide +kernel
theorem dX12_isDigit_9 : decode cX12_isDigit 9 = .ok (.if_icmp .gt 7, 3) := by decide +kernel
theorem dX12_isDigit_12 : decode cX12_isDigit 12 = .ok (.iconst 1, 1) := by decide +kernel
theorem dX12_isDigit_13 : decode cX12_isDigit 13 = .ok (.goto 4, 3) := by decide +kernel
theorem dX12_isDigit_16 : decode cX12_isDigit 16 = .ok (.iconst 0, 1) := by decide +kernel
theorem dX12_isDigit_17 : decode cX12_isDigit 17 = .ok (.ireturn, 1) := by decide +kernel
set_option maxRecDepth 20000 in
theorem rX12_isDigit_0 {E : EN} (hE : Ep E) {k : Nat} {mem : Mm} {Q : Int → Mm → Prop} {p0 : Int}
    (h : ((p0 < 48 → Q 0 mem) ∧ (48 ≤ p0 → ((57 < p0 → Q 0 mem) ∧ (p0 ≤ 57 → Q 1 mem))))) :
    VM E mX12_isDigit k mem 0 [(0, aI p0)] [] (retI Q) := by
  refine v_iload_n (pc := 0) dX12_isDigit_0 0 rfl ?_
  refine v_bipush (pc := 1) dX12_isDigit_1 (by decide) ?_
  refine v_icmplt (pc := 3) (tgt := 16) dX12_isDigit_3 (by decide) (fun c1 => ?_) (fun c1 => ?_)
  · have h := h.1 c1
    refine v_iconst (pc := 16) dX12_isDigit_16 (by decide) ?_
    exact m_retZ (pc := 17) dX12_isDigit_17 rfl (by decide) h
  · have h := h.2 c1
    refine v_iload_n (pc := 6) dX12_isDigit_6 0 rfl ?_
    refine v_bipush (pc := 7) dX12_isDigit_7 (by decide) ?_
    refine v_icmpgt (pc := 9) (tgt := 16) dX12_isDigit_9 (by decide) (fun c1 => ?_) (fun c1 => ?_)
    · have h := h.1 c1
      refine v_iconst (pc := 16) dX12_isDigit_16 (by decide) ?_
      exact m_retZ (pc := 17) dX12_isDigit_17 rfl (by decide) h
    · have h := h.2 c1
      refine v_iconst (pc := 12) dX12_isDigit_12 (by decide) ?_
      refine v_goto (pc := 13) (tgt := 17) dX12_isDigit_13 (by decide) ?_
      exact m_retZ (pc := 17) dX12_isDigit_17 rfl (by decide) h
theorem eX12_isDigit {E : EN} {k : Nat} {mem : Mm} {Q : Int → Mm → Prop} {p0 : Int} (hr_p0 : R32 p0) (h : VM E mX12_isDigit k mem 0 [(0, aI p0)] [] (retI Q)) : CI E mX12_isDigit k mem [aI p0] Q := CI_of rfl (Nat.le_of_ble_eq_true rfl) h (aNs_c (aNr_I hr_p0) (fun _ q => nomatch q))

theorem dX12_begin_0 : decode cX12_begin 0 = .ok (.aload_n 0, 1) := by decide +kernel
theorem dX12_begin_1 : decode cX12_begin 1 = .ok (.iconst 0, 1) := by decide +kernel
theorem dX12_begin_2 : decode cX12_begin 2 = .ok (.putfield 238, 3) := by decide +kernel
theorem dX12_begin_5 : decode cX12_begin 5 = .ok (.aload_n 0, 1) := by decide +kernel
theorem dX12_begin_6 : decode cX12_begin 6 = .ok (.iconst 0, 1) := by decide +kernel
theorem dX12_begin_7 : decode cX12_begin 7 = .ok (.putfield 241, 3) := by decide +kernel
theorem dX12_begin_10 : decode cX12_begin 10 = .ok (.aload_n 0, 1) := by decide +kernel
theorem dX12_begin_11 : decode cX12_begin 11 = .ok (.iconst (-1), 1) := by decide +kernel
theorem dX12_begin_12 : decode cX12_begin 12 = .ok (.putfield 38, 3) := by decide +kernel
theorem dX12_begin_15 : decode cX12_begin 15 = .ok (.aload_n 0, 1) := by decide +kernel
theorem dX12_begin_16 : decode cX12_begin 16 = .ok (.invokevirtual 245, 3) := by decide +kernel
theorem dX12_begin_19 : decode cX12_begin 19 = .ok (.return_, 1) := by decide +kernel
set_option maxRecDepth 20000 in
theorem rX12_begin_0 {E : EN} (hE : Ep E) {k : Nat} {mem : Mm} {Q : Mm → Prop}
    (h : (CV E mX12_next k (aUp (aUp (aUp mem 603 15 0) 603 19 0) 603 18 (-1)) [aR 603] (fun m1 => Q m1))) :
    VM E mX12_begin (k + 1) mem 0 [(0, aR 603)] [] (retV Q) := by
  refine v_aload_n (pc := 0) dX12_begin_0 0 rfl ?_
  refine v_iconst (pc := 1) dX12_begin_1 (by decide) ?_
  refine v_putf (pc := 2) dX12_begin_2 flX12_238 ⟨_, _, rfl, Or.inl rfl⟩ rfl (by decide) (fun q => nomatch q) (Or.inl fun _ => rfl) at603 ?_
  refine v_aload_n (pc := 5) dX12_begin_5 0 rfl ?_
  refine v_iconst (pc := 6) dX12_begin_6 (by decide) ?_
  refine v_putf (pc := 7) dX12_begin_7 flX12_241 ⟨_, _, rfl, Or.inl rfl⟩ rfl (by decide) (fun _ => by decide) (Or.inl fun _ => rfl) at603 ?_
  refine v_aload_n (pc := 10) dX12_begin_10 0 rfl ?_
  refine v_iconst (pc := 11) dX12_begin_11 (by decide) ?_
  refine v_putf (pc := 12) dX12_begin_12 flX12_38 ⟨_, _, rfl, Or.inl rfl⟩ rfl (by decide) (fun q => nomatch q) (Or.inl fun _ => rfl) at603 ?_
  refine v_aload_n (pc := 15) dX12_begin_15 0 rfl ?_
  refine m_invV (pc := 16) (mi' := mX12_next) (rest := []) [] dX12_begin_16 at603 (by decide) rfl msX12_next mvX12_next lkX12_245 rfl (Nat.le_of_ble_eq_true rfl) (fun hn => CV_mono (h) (fun m1 h => ?_))
  exact m_retV (pc := 19) dX12_begin_19 rfl h
theorem eX12_begin {E : EN} {k : Nat} {mem : Mm} {Q : Mm → Prop}  (h : VM E mX12_begin (k + 1) mem 0 [(0, aR 603)] [] (retV Q)) : CV E mX12_begin (k + 1) mem [aR 603] Q := CV_of rfl (Nat.le_of_ble_eq_true rfl) h (aNs_c (aNr_R _) (fun _ q => nomatch q))

theorem dX12_next_0 : decode cX12_next 0 = .ok (.aload_n 0, 1) := by decide +kernel
theorem dX12_next_1 : decode cX12_next 1 = .ok (.aload_n 0, 1) := by decide +kernel
theorem dX12_next_2 : decode cX12_next 2 = .ok (.getfield 238, 3) := by decide +kernel
theorem dX12_next_5 : decode cX12_next 5 = .ok (.putfield 248, 3) := by decide +kernel
theorem dX12_next_8 : decode cX12_next 8 = .ok (.aload_n 0, 1) := by decide +kernel
theorem dX12_next_9 : decode cX12_next 9 = .ok (.getfield 248, 3) := by decide +kernel
theorem dX12_next_12 : decode cX12_next 12 = .ok (.aload_n 0, 1) := by decide +kernel
theorem dX12_next_13 : decode cX12_next 13 = .ok (.getfield 229, 3) := by decide +kernel
theorem dX12_next_16 : decode cX12_next 16 = .ok (.if_icmp .ge 30, 3) := by decide +kernel
theorem dX12_next_19 : decode cX12_next 19 = .ok (.aload_n 0, 1) := by decide +kernel
theorem dX12_next_20 : decode cX12_next 20 = .ok (.getfield 35, 3) := by decide +kernel
theorem dX12_next_23 : decode cX12_next 23 = .ok (.aload_n 0, 1) := by decide +kernel
theorem dX12_next_24 : decode cX12_next 24 = .ok (.getfield 248, 3) := by decide +kernel
theorem dX12_next_27 : decode cX12_next 27 = .ok (.iaload, 1) := by decide +kernel
theorem dX12_next_28 : decode cX12_next 28 = .ok (.bipush 32, 2) := by decide +kernel
theorem dX12_next_30 : decode cX12_next 30 = .ok (.if_icmp .ne 16, 3) := by decide +kernel
theorem dX12_next_33 : decode cX12_next 33 = .ok (.aload_n 0, 1) := by decide +kernel
theorem dX12_next_34 : decode cX12_next 34 = .ok (.dup, 1) := by decide +kernel
theorem dX12_next_35 : decode cX12_next 35 = .ok (.getfield 248, 3) := by decide +kernel
theorem dX12_next_38 : decode cX12_next 38 = .ok (.iconst 1, 1) := by decide +kernel
theorem dX12_next_39 : decode cX12_next 39 = .ok (.iadd, 1) := by decide +kernel
theorem dX12_next_40 : decode cX12_next 40 = .ok (.putfield 248, 3) := by decide +kernel
theorem dX12_next_43 : decode cX12_next 43 = .ok (.goto (-35), 3) := by decide +kernel
theorem dX12_next_46 : decode cX12_next 46 = .ok (.aload_n 0, 1) := by decide +kernel
theorem dX12_next_47 : decode cX12_next 47 = .ok (.aload_n 0, 1) := by decide +kernel
theorem dX12_next_48 : decode cX12_next 48 = .ok (.getfield 248, 3) := by decide +kernel
theorem dX12_next_51 : decode cX12_next 51 = .ok (.putfield 238, 3) := by decide +kernel
theorem dX12_next_54 : decode cX12_next 54 = .ok (.aload_n 0, 1) := by decide +kernel
theorem dX12_next_55 : decode cX12_next 55 = .ok (.lconst 0, 1) := by decide +kernel
theorem dX12_next_56 : decode cX12_next 56 = .ok (.putfield 251, 3) := by decide +kernel
theorem dX12_next_59 : decode cX12_next 59 = .ok (.aload_n 0, 1) := by decide +kernel
theorem dX12_next_60 : decode cX12_next 60 = .ok (.aload_n 0, 1) := by decide +kernel
theorem dX12_next_61 : decode cX12_next 61 = .ok (.getfield 248, 3) := by decide +kernel
theorem dX12_next_64 : decode cX12_next 64 = .ok (.aload_n 0, 1) := by decide +kernel
theorem dX12_next_65 : decode cX12_next 65 = .ok (.getfield 229, 3) := by decide +kernel
theorem dX12_next_68 : decode cX12_next 68 = .ok (.if_icmp .ne 7, 3) := by decide +kernel
theorem dX12_next_71 : decode cX12_next 71 = .ok (.iconst 0, 1) := by decide +kernel
theorem dX12_next_72 : decode cX12_next 72 = .ok (.goto 42, 3) := by decide +kernel
theorem dX12_next_75 : decode cX12_next 75 = .ok (.aload_n 0, 1) := by decide +kernel
theorem dX12_next_76 : decode cX12_next 76 = .ok (.getfield 35, 3) := by decide +kernel
theorem dX12_next_79 : decode cX12_next 79 = .ok (.aload_n 0, 1) := by decide +kernel
theorem dX12_next_80 : decode cX12_next 80 = .ok (.getfield 248, 3) := by decide +kernel
theorem dX12_next_83 : decode cX12_next 83 = .ok (.iaload, 1) := by decide +kernel
theorem dX12_next_84 : decode cX12_next 84 = .ok (.invokestatic 255, 3) := by decide +kernel
theorem dX12_next_87 : decode cX12_next 87 = .ok (.ifCond .eq 7, 3) := by decide +kernel
theorem dX12_next_90 : decode cX12_next 90 = .ok (.iconst 1, 1) := by decide +kernel
theorem dX12_next_91 : decode cX12_next 91 = .ok (.goto 23, 3) := by decide +kernel
theorem dX12_next_94 : decode cX12_next 94 = .ok (.aload_n 0, 1) := by decide +kernel
theorem dX12_next_95 : decode cX12_next 95 = .ok (.getfield 35, 3) := by decide +kernel
theorem dX12_next_98 : decode cX12_next 98 = .ok (.aload_n 0, 1) := by decide +kernel
theorem dX12_next_99 : decode cX12_next 99 = .ok (.getfield 248, 3) := by decide +kernel
theorem dX12_next_102 : decode cX12_next 102 = .ok (.iaload, 1) := by decide +kernel
theorem dX12_next_103 : decode cX12_next 103 = .ok (.invokestatic 258, 3) := by decide +kernel
theorem dX12_next_106 : decode cX12_next 106 = .ok (.ifCond .eq 7, 3) := by decide +kernel
theorem dX12_next_109 : decode cX12_next 109 = .ok (.iconst 2, 1) := by decide +kernel
theorem dX12_next_110 : decode cX12_next 110 = .ok (.goto 4, 3) := by decide +kernel
theorem dX12_next_113 : decode cX12_next 113 = .ok (.iconst 3, 1) := by decide +kernel
theorem dX12_next_114 : decode cX12_next 114 = .ok (.putfield 261, 3) := by decide +kernel
theorem dX12_next_117 : decode cX12_next 117 = .ok (.aload_n 0, 1) := by decide +kernel
theorem dX12_next_118 : decode cX12_next 118 = .ok (.getfield 261, 3) := by decide +kernel
theorem dX12_next_121 : decode cX12_next 121 = .ok (.iconst 3, 1) := by decide +kernel
theorem dX12_next_122 : decode cX12_next 122 = .ok (.if_icmp .ne 27, 3) := by decide +kernel
theorem dX12_next_125 : decode cX12_next 125 = .ok (.aload_n 0, 1) := by decide +kernel
theorem dX12_next_126 : decode cX12_next 126 = .ok (.aload_n 0, 1) := by decide +kernel
theorem dX12_next_127 : decode cX12_next 127 = .ok (.getfield 35, 3) := by decide +kernel
theorem dX12_next_130 : decode cX12_next 130 = .ok (.aload_n 0, 1) := by decide +kernel
theorem dX12_next_131 : decode cX12_next 131 = .ok (.getfield 248, 3) := by decide +kernel
theorem dX12_next_134 : decode cX12_next 134 = .ok (.iaload, 1) := by decide +kernel
theorem dX12_next_135 : decode cX12_next 135 = .ok (.i2l, 1) := by decide +kernel
theorem dX12_next_136 : decode cX12_next 136 = .ok (.putfield 251, 3) := by decide +kernel
theorem dX12_next_139 : decode cX12_next 139 = .ok (.aload_n 0, 1) := by decide +kernel
theorem dX12_next_140 : decode cX12_next 140 = .ok (.dup, 1) := by decide +kernel
theorem dX12_next_141 : decode cX12_next 141 = .ok (.getfield 238, 3) := by decide +kernel
theorem dX12_next_144 : decode cX12_next 144 = .ok (.iconst 1, 1) := by decide +kernel
theorem dX12_next_145 : decode cX12_next 145 = .ok (.iadd, 1) := by decide +kernel
theorem dX12_next_146 : decode cX12_next 146 = .ok (.putfield 238, 3) := by decide +kernel
theorem dX12_next_149 : decode cX12_next 149 = .ok (.aload_n 0, 1) := by decide +kernel
theorem dX12_next_150 : decode cX12_next 150 = .ok (.getfield 261, 3) := by decide +kernel
theorem dX12_next_153 : decode cX12_next 153 = .ok (.iconst 1, 1) := by decide +kernel
theorem dX12_next_154 : decode cX12_next 154 = .ok (.if_icmp .ne 89, 3) := by decide +kernel
theorem dX12_next_157 : decode cX12_next 157 = .ok (.aload_n 0, 1) := by decide +kernel
theorem dX12_next_158 : decode cX12_next 158 = .ok (.getfield 238, 3) := by decide +kernel
theorem dX12_next_161 : decode cX12_next 161 = .ok (.aload_n 0, 1) := by decide +kernel
theorem dX12_next_162 : decode cX12_next 162 = .ok (.getfield 229, 3) := by decide +kernel
theorem dX12_next_165 : decode cX12_next 165 = .ok (.if_icmp .ge 78, 3) := by decide +kernel
theorem dX12_next_168 : decode cX12_next 168 = .ok (.aload_n 0, 1) := by decide +kernel
theorem dX12_next_169 : decode cX12_next 169 = .ok (.getfield 35, 3) := by decide +kernel
theorem dX12_next_172 : decode cX12_next 172 = .ok (.aload_n 0, 1) := by decide +kernel
theorem dX12_next_173 : decode cX12_next 173 = .ok (.getfield 238, 3) := by decide +kernel
theorem dX12_next_176 : decode cX12_next 176 = .ok (.iaload, 1) := by decide +kernel
theorem dX12_next_177 : decode cX12_next 177 = .ok (.invokestatic 255, 3) := by decide +kernel
theorem dX12_next_180 : decode cX12_next 180 = .ok (.ifCond .eq 63, 3) := by decide +kernel
theorem dX12_next_183 : decode cX12_next 183 = .ok (.aload_n 0, 1) := by decide +kernel
theorem dX12_next_184 : decode cX12_next 184 = .ok (.aload_n 0, 1) := by decide +kernel
theorem dX12_next_185 : decode cX12_next 185 = .ok (.getfield 238, 3) := by decide +kernel
theorem dX12_next_188 : decode cX12_next 188 = .ok (.aload_n 0, 1) := by decide +kernel
theorem dX12_next_189 : decode cX12_next 189 = .ok (.getfield 248, 3) := by decide +kernel
theorem dX12_next_192 : decode cX12_next 192 = .ok (.isub, 1) := by decide +kernel
theorem dX12_next_193 : decode cX12_next 193 = .ok (.bipush 10, 2) := by decide +kernel
theorem dX12_next_195 : decode cX12_next 195 = .ok (.if_icmp .ge 29, 3) := by decide +kernel
theorem dX12_next_198 : decode cX12_next 198 = .ok (.aload_n 0, 1) := by decide +kernel
theorem dX12_next_199 : decode cX12_next 199 = .ok (.getfield 251, 3) := by decide +kernel
theorem dX12_next_202 : decode cX12_next 202 = .ok (.ldc2_w 264, 3) := by decide +kernel
theorem dX12_next_205 : decode cX12_next 205 = .ok (.lmul, 1) := by decide +kernel
theorem dX12_next_206 : decode cX12_next 206 = .ok (.aload_n 0, 1) := by decide +kernel
theorem dX12_next_207 : decode cX12_next 207 = .ok (.getfield 35, 3) := by decide +kernel
theorem dX12_next_210 : decode cX12_next 210 = .ok (.aload_n 0, 1) := by decide +kernel
theorem dX12_next_211 : decode cX12_next 211 = .ok (.getfield 238, 3) := by decide +kernel
theorem dX12_next_214 : decode cX12_next 214 = .ok (.iaload, 1) := by decide +kernel
theorem dX12_next_215 : decode cX12_next 215 = .ok (.i2l, 1) := by decide +kernel
theorem dX12_next_216 : decode cX12_next 216 = .ok (.ladd, 1) := by decide +kernel
theorem dX12_next_217 : decode cX12_next 217 = .ok (.ldc2_w 266, 3) := by decide +kernel
theorem dX12_next_220 : decode cX12_next 220 = .ok (.lsub, 1) := by decide +kernel
theorem dX12_next_221 : decode cX12_next 221 = .ok (.goto 6, 3) := by decide +kernel
theorem dX12_next_224 : decode cX12_next 224 = .ok (.ldc2_w 268, 3) := by decide +kernel
theorem dX12_next_227 : decode cX12_next 227 = .ok (.putfield 251, 3) := by decide +kernel
theorem dX12_next_230 : decode cX12_next 230 = .ok (.aload_n 0, 1) := by decide +kernel
theorem dX12_next_231 : decode cX12_next 231 = .ok (.dup, 1) := by decide +kernel
theorem dX12_next_232 : decode cX12_next 232 = .ok (.getfield 238, 3) := by decide +kernel
theorem dX12_next_235 : decode cX12_next 235 = .ok (.iconst 1, 1) := by decide +kernel
theorem dX12_next_236 : decode cX12_next 236 = .ok (.iadd, 1) := by decide +kernel
theorem dX12_next_237 : decode cX12_next 237 = .ok (.putfield 238, 3) := by decide +kernel
theorem dX12_next_240 : decode cX12_next 240 = .ok (.goto (-91), 3) := by decide +kernel
theorem dX12_next_243 : decode cX12_next 243 = .ok (.aload_n 0, 1) := by decide +kernel
theorem dX12_next_244 : decode cX12_next 244 = .ok (.getfield 261, 3) := by decide +kernel
theorem dX12_next_247 : decode cX12_next 247 = .ok (.iconst 2, 1) := by decide +kernel
theorem dX12_next_248 : decode cX12_next 248 = .ok (.if_icmp .ne 87, 3) := by decide +kernel
theorem dX12_next_251 : decode cX12_next 251 = .ok (.aload_n 0, 1) := by decide +kernel
theorem dX12_next_252 : decode cX12_next 252 = .ok (.getfield 238, 3) := by decide +kernel
theorem dX12_next_255 : decode cX12_next 255 = .ok (.aload_n 0, 1) := by decide +kernel
theorem dX12_next_256 : decode cX12_next 256 = .ok (.getfield 229, 3) := by decide +kernel
theorem dX12_next_259 : decode cX12_next 259 = .ok (.if_icmp .ge 76, 3) := by decide +kernel
theorem dX12_next_262 : decode cX12_next 262 = .ok (.aload_n 0, 1) := by decide +kernel
theorem dX12_next_263 : decode cX12_next 263 = .ok (.getfield 35, 3) := by decide +kernel
theorem dX12_next_266 : decode cX12_next 266 = .ok (.aload_n 0, 1) := by decide +kernel
theorem dX12_next_267 : decode cX12_next 267 = .ok (.getfield 238, 3) := by decide +kernel
theorem dX12_next_270 : decode cX12_next 270 = .ok (.iaload, 1) := by decide +kernel
theorem dX12_next_271 : decode cX12_next 271 = .ok (.invokestatic 258, 3) := by decide +kernel
theorem dX12_next_274 : decode cX12_next 274 = .ok (.ifCond .eq 61, 3) := by decide +kernel
theorem dX12_next_277 : decode cX12_next 277 = .ok (.aload_n 0, 1) := by decide +kernel
theorem dX12_next_278 : decode cX12_next 278 = .ok (.aload_n 0, 1) := by decide +kernel
theorem dX12_next_279 : decode cX12_next 279 = .ok (.getfield 251, 3) := by decide +kernel
theorem dX12_next_282 : decode cX12_next 282 = .ok (.ldc2_w 270, 3) := by decide +kernel
theorem dX12_next_285 : decode cX12_next 285 = .ok (.lcmp, 1) := by decide +kernel
theorem dX12_next_286 : decode cX12_next 286 = .ok (.ifCond .le 10, 3) := by decide +kernel
theorem dX12_next_289 : decode cX12_next 289 = .ok (.aload_n 0, 1) := by decide +kernel
theorem dX12_next_290 : decode cX12_next 290 = .ok (.getfield 251, 3) := by decide +kernel
theorem dX12_next_293 : decode cX12_next 293 = .ok (.goto 26, 3) := by decide +kernel
theorem dX12_next_296 : decode cX12_next 296 = .ok (.aload_n 0, 1) := by decide +kernel
theorem dX12_next_297 : decode cX12_next 297 = .ok (.getfield 251, 3) := by decide +kernel
theorem dX12_next_300 : decode cX12_next 300 = .ok (.ldc2_w 225, 3) := by decide +kernel
theorem dX12_next_303 : decode cX12_next 303 = .ok (.lmul, 1) := by decide +kernel
theorem dX12_next_304 : decode cX12_next 304 = .ok (.aload_n 0, 1) := by decide +kernel
theorem dX12_next_305 : decode cX12_next 305 = .ok (.getfield 35, 3) := by decide +kernel
theorem dX12_next_308 : decode cX12_next 308 = .ok (.aload_n 0, 1) := by decide +kernel
theorem dX12_next_309 : decode cX12_next 309 = .ok (.getfield 238, 3) := by decide +kernel
theorem dX12_next_312 : decode cX12_next 312 = .ok (.iaload, 1) := by decide +kernel
theorem dX12_next_313 : decode cX12_next 313 = .ok (.i2l, 1) := by decide +kernel
theorem dX12_next_314 : decode cX12_next 314 = .ok (.ladd, 1) := by decide +kernel
theorem dX12_next_315 : decode cX12_next 315 = .ok (.ldc2_w 272, 3) := by decide +kernel
theorem dX12_next_318 : decode cX12_next 318 = .ok (.lsub, 1) := by decide +kernel
theorem dX12_next_319 : decode cX12_next 319 = .ok (.putfield 251, 3) := by decide +kernel
theorem dX12_next_322 : decode cX12_next 322 = .ok (.aload_n 0, 1) := by decide +kernel
theorem dX12_next_323 : decode cX12_next 323 = .ok (.dup, 1) := by decide +kernel
theorem dX12_next_324 : decode cX12_next 324 = .ok (.getfield 238, 3) := by decide +kernel
theorem dX12_next_327 : decode cX12_next 327 = .ok (.iconst 1, 1) := by decide +kernel
theorem dX12_next_328 : decode cX12_next 328 = .ok (.iadd, 1) := by decide +kernel
theorem dX12_next_329 : decode cX12_next 329 = .ok (.putfield 238, 3) := by decide +kernel
theorem dX12_next_332 : decode cX12_next 332 = .ok (.goto (-89), 3) := by decide +kernel
theorem dX12_next_335 : decode cX12_next 335 = .ok (.return_, 1) := by decide +kernel
set_option maxRecDepth 20000 in
theorem rX12_next_0 {E : EN} (hE : Ep E) {k : Nat} {mem : Mm} {Q : Mm → Prop}
    (h : VM E mX12_next (k + 1) (aUp mem 603 14 (mem 603 15)) 8 [(0, aR 603)] [] (retV Q)) :
    VM E mX12_next (k + 1) mem 0 [(0, aR 603)] [] (retV Q) := by
  refine v_aload_n (pc := 0) dX12_next_0 0 rfl ?_
  refine v_aload_n (pc := 1) dX12_next_1 0 rfl ?_
  refine m_getf (pc := 2) (t := 0) (v := (mem 603 15)) dX12_next_2 flX12_238 rfl at603 rfl ?_
  refine v_putf (pc := 5) dX12_next_5 flX12_248 ⟨_, _, rfl, Or.inl rfl⟩ rfl (by decide) (fun q => nomatch q) (Or.inl fun _ => rfl) at603 ?_
  exact VG_sub (al' := [(0, aR 603)]) [0] rfl h
theorem eX12_next {E : EN} {k : Nat} {mem : Mm} {Q : Mm → Prop}  (h : VM E mX12_next (k + 1) mem 0 [(0, aR 603)] [] (retV Q)) : CV E mX12_next (k + 1) mem [aR 603] Q := CV_of rfl (Nat.le_of_ble_eq_true rfl) h (aNs_c (aNr_R _) (fun _ q => nomatch q))
set_option maxRecDepth 20000 in
theorem rX12_next_8 {E : EN} (hE : Ep E) {k : Nat} {mem : Mm} {Q : Mm → Prop}
    (h : (((mem 603 13) ≤ (mem 603 14) → VM E mX12_next (k + 1) mem 46 [(0, aR 603)] [] (retV Q)) ∧ ((mem 603 14) < (mem 603 13) → (0 ≤ (mem 603 14) ∧ (mem 603 14) < 400) ∧ ((¬ (mem 612 (mem 603 14)) = 32 → VM E mX12_next (k + 1) mem 46 [(0, aR 603)] [] (retV Q)) ∧ ((mem 612 (mem 603 14)) = 32 → (R32 ((mem 603 14) + 1)) ∧ VM E mX12_next (k + 1) (aUp mem 603 14 ((mem 603 14) + 1)) 8 [(0, aR 603)] [] (retV Q)))))) :
    VM E mX12_next (k + 1) mem 8 [(0, aR 603)] [] (retV Q) := by
  refine v_aload_n (pc := 8) dX12_next_8 0 rfl ?_
  refine m_getf (pc := 9) (t := 0) (v := (mem 603 14)) dX12_next_9 flX12_248 rfl at603 rfl ?_
  refine v_aload_n (pc := 12) dX12_next_12 0 rfl ?_
  refine m_getf (pc := 13) (t := 0) (v := (mem 603 13)) dX12_next_13 flX12_229 rfl at603 rfl ?_
  refine v_icmpge (pc := 16) (tgt := 46) dX12_next_16 (by decide) (fun c1 => ?_) (fun c1 => ?_)
  · have h := h.1 c1
    exact VG_sub (al' := [(0, aR 603)]) [0] rfl h
  · have h := h.2 c1
    refine v_aload_n (pc := 19) dX12_next_19 0 rfl ?_
    refine m_getfin (pc := 20) (v := 612) hE dX12_next_20 flX12_35 rfl at603 rfl ?_
    refine v_aload_n (pc := 23) dX12_next_23 0 rfl ?_
    refine m_getf (pc := 24) (t := 0) (v := (mem 603 14)) dX12_next_24 flX12_248 rfl at603 rfl ?_
    obtain ⟨o1, h⟩ := h
    refine m_iald (pc := 27) (v := (mem 612 (mem 603 14))) dX12_next_27 at612 o1.1 o1.2 rfl ?_
    refine v_bipush (pc := 28) dX12_next_28 (by decide) ?_
    refine v_icmpne (pc := 30) (tgt := 46) dX12_next_30 (by decide) (fun c1 => ?_) (fun c1 => ?_)
    · have h := h.1 c1
      exact VG_sub (al' := [(0, aR 603)]) [0] rfl h
    · have h := h.2 c1
      refine v_aload_n (pc := 33) dX12_next_33 0 rfl ?_
      refine v_dup (pc := 34) dX12_next_34 rfl ?_
      refine m_getf (pc := 35) (t := 0) (v := (mem 603 14)) dX12_next_35 flX12_248 rfl at603 rfl ?_
      refine v_iconst (pc := 38) dX12_next_38 (by decide) ?_
      obtain ⟨o2, h⟩ := h
      refine m_iadd (pc := 39) dX12_next_39 o2 ?_
      refine v_putf (pc := 40) dX12_next_40 flX12_248 ⟨_, _, rfl, Or.inl rfl⟩ rfl (by decide) (fun q => nomatch q) (Or.inl fun _ => rfl) at603 ?_
      refine v_goto (pc := 43) (tgt := 8) dX12_next_43 (by decide) ?_
      exact VG_sub (al' := [(0, aR 603)]) [0] rfl h
set_option maxRecDepth 20000 in
theorem rX12_next_46 {E : EN} (hE : Ep E) {k : Nat} {mem : Mm} {Q : Mm → Prop}
    (h : ((¬ (mem 603 14) = (mem 603 13) → (0 ≤ (mem 603 14) ∧ (mem 603 14) < 400) ∧ (R32 (mem 612 (mem 603 14)) → CI E mX12_isSmall k (aUp (aUp mem 603 15 (mem 603 14)) 603 17 0) [aI (mem 612 (mem 603 14))] (fun r3 m2 => ((r3 = 0 → (0 ≤ (m2 603 14) ∧ (m2 603 14) < 400) ∧ (R32 (m2 612 (m2 603 14)) → CI E mX12_isDigit k m2 [aI (m2 612 (m2 603 14))] (fun r6 m5 => ((r6 = 0 → (0 ≤ (m5 603 14) ∧ (m5 603 14) < 400) ∧ (R32 ((m5 603 15) + 1)) ∧ VM E mX12_next (k + 1) (aUp (aUp (aUp m5 603 16 3) 603 17 (m5 612 (m5 603 14))) 603 15 ((m5 603 15) + 1)) 149 [(0, aR 603)] [] (retV Q)) ∧ (¬ r6 = 0 → VM E mX12_next (k + 1) (aUp m5 603 16 2) 149 [(0, aR 603)] [] (retV Q)))))) ∧ (¬ r3 = 0 → VM E mX12_next (k + 1) (aUp m2 603 16 1) 149 [(0, aR 603)] [] (retV Q)))))) ∧ ((mem 603 14) = (mem 603 13) → VM E mX12_next (k + 1) (aUp (aUp (aUp mem 603 15 (mem 603 14)) 603 17 0) 603 16 0) 149 [(0, aR 603)] [] (retV Q)))) :
    VM E mX12_next (k + 1) mem 46 [(0, aR 603)] [] (retV Q) := by
  refine v_aload_n (pc := 46) dX12_next_46 0 rfl ?_
  refine v_aload_n (pc := 47) dX12_next_47 0 rfl ?_
  refine m_getf (pc := 48) (t := 0) (v := (mem 603 14)) dX12_next_48 flX12_248 rfl at603 rfl ?_
  refine v_putf (pc := 51) dX12_next_51 flX12_238 ⟨_, _, rfl, Or.inl rfl⟩ rfl (by decide) (fun q => nomatch q) (Or.inl fun _ => rfl) at603 ?_
  refine v_aload_n (pc := 54) dX12_next_54 0 rfl ?_
  refine v_lconst0 (pc := 55) dX12_next_55 ?_
  refine v_putf (pc := 56) dX12_next_56 flX12_251 ⟨_, _, rfl, Or.inl rfl⟩ rfl (by decide) (fun q => nomatch q) (Or.inl fun _ => rfl) at603 ?_
  refine v_aload_n (pc := 59) dX12_next_59 0 rfl ?_
  refine v_aload_n (pc := 60) dX12_next_60 0 rfl ?_
  refine m_getf (pc := 61) (t := 0) (v := (mem 603 14)) dX12_next_61 flX12_248 rfl at603 ((aUp_ri (by decide)).trans (aUp_ri (by decide))) ?_
  refine v_aload_n (pc := 64) dX12_next_64 0 rfl ?_
  refine m_getf (pc := 65) (t := 0) (v := (mem 603 13)) dX12_next_65 flX12_229 rfl at603 ((aUp_ri (by decide)).trans (aUp_ri (by decide))) ?_
  refine v_icmpne (pc := 68) (tgt := 75) dX12_next_68 (by decide) (fun c1 => ?_) (fun c1 => ?_)
  · have h := h.1 c1
    refine v_aload_n (pc := 75) dX12_next_75 0 rfl ?_
    refine m_getfin (pc := 76) (v := 612) hE dX12_next_76 flX12_35 rfl at603 rfl ?_
    refine v_aload_n (pc := 79) dX12_next_79 0 rfl ?_
    refine m_getf (pc := 80) (t := 0) (v := (mem 603 14)) dX12_next_80 flX12_248 rfl at603 ((aUp_ri (by decide)).trans (aUp_ri (by decide))) ?_
    obtain ⟨o1, h⟩ := h
    refine m_iald (pc := 83) (v := (mem 612 (mem 603 14))) dX12_next_83 at612 o1.1 o1.2 ((aUp_rn (by omega)).trans (aUp_rn (by omega))) ?_
    refine m_invSI (pc := 84) (mi' := mX12_isSmall) (rest := [aR 603]) [aI (mem 612 (mem 603 14))] dX12_next_84 msX12_isSmall stX12_isSmall lkX12_255 rfl (Nat.le_of_ble_eq_true rfl) (fun hn => CI_mono (h (aaI hn 0 rfl)) (fun r3 m2 h => ?_))
    refine v_ifeq (pc := 87) (tgt := 94) dX12_next_87 (by decide) (fun c1 => ?_) (fun c1 => ?_)
    · have h := h.1 c1
      refine v_aload_n (pc := 94) dX12_next_94 0 rfl ?_
      refine m_getfin (pc := 95) (v := 612) hE dX12_next_95 flX12_35 rfl at603 rfl ?_
      refine v_aload_n (pc := 98) dX12_next_98 0 rfl ?_
      refine m_getf (pc := 99) (t := 0) (v := (m2 603 14)) dX12_next_99 flX12_248 rfl at603 rfl ?_
      obtain ⟨o4, h⟩ := h
      refine m_iald (pc := 102) (v := (m2 612 (m2 603 14))) dX12_next_102 at612 o4.1 o4.2 rfl ?_
      refine m_invSI (pc := 103) (mi' := mX12_isDigit) (rest := [aR 603]) [aI (m2 612 (m2 603 14))] dX12_next_103 msX12_isDigit stX12_isDigit lkX12_258 rfl (Nat.le_of_ble_eq_true rfl) (fun hn => CI_mono (h (aaI hn 0 rfl)) (fun r6 m5 h => ?_))
      refine v_ifeq (pc := 106) (tgt := 113) dX12_next_106 (by decide) (fun c1 => ?_) (fun c1 => ?_)
      · have h := h.1 c1
        refine v_iconst (pc := 113) dX12_next_113 (by decide) ?_
        refine v_putf (pc := 114) dX12_next_114 flX12_261 ⟨_, _, rfl, Or.inl rfl⟩ rfl (by decide) (fun q => nomatch q) (Or.inl fun _ => rfl) at603 ?_
        refine v_aload_n (pc := 117) dX12_next_117 0 rfl ?_
        refine m_getf (pc := 118) (t := 0) (v := 3) dX12_next_118 flX12_261 rfl at603 (aUp_re) ?_
        refine v_iconst (pc := 121) dX12_next_121 (by decide) ?_
        refine v_icmpne (pc := 122) (tgt := 149) dX12_next_122 (by decide) (fun c1 => absurd c1 (by decide)) (fun c1 => ?_)
        refine v_aload_n (pc := 125) dX12_next_125 0 rfl ?_
        refine v_aload_n (pc := 126) dX12_next_126 0 rfl ?_
        refine m_getfin (pc := 127) (v := 612) hE dX12_next_127 flX12_35 rfl at603 rfl ?_
        refine v_aload_n (pc := 130) dX12_next_130 0 rfl ?_
        refine m_getf (pc := 131) (t := 0) (v := (m5 603 14)) dX12_next_131 flX12_248 rfl at603 (aUp_ri (by decide)) ?_
        obtain ⟨o7, h⟩ := h
        refine m_iald (pc := 134) (v := (m5 612 (m5 603 14))) dX12_next_134 at612 o7.1 o7.2 (aUp_rn (by omega)) ?_
        refine v_i2l (pc := 135) dX12_next_135 ?_
        refine v_putf (pc := 136) dX12_next_136 flX12_251 ⟨_, _, rfl, Or.inl rfl⟩ rfl (by decide) (fun q => nomatch q) (Or.inl fun _ => rfl) at603 ?_
        refine v_aload_n (pc := 139) dX12_next_139 0 rfl ?_
        refine v_dup (pc := 140) dX12_next_140 rfl ?_
        refine m_getf (pc := 141) (t := 0) (v := (m5 603 15)) dX12_next_141 flX12_238 rfl at603 ((aUp_ri (by decide)).trans (aUp_ri (by decide))) ?_
        refine v_iconst (pc := 144) dX12_next_144 (by decide) ?_
        obtain ⟨o8, h⟩ := h
        refine m_iadd (pc := 145) dX12_next_145 o8 ?_
        refine v_putf (pc := 146) dX12_next_146 flX12_238 ⟨_, _, rfl, Or.inl rfl⟩ rfl (by decide) (fun q => nomatch q) (Or.inl fun _ => rfl) at603 ?_
        exact VG_sub (al' := [(0, aR 603)]) [0] rfl h
      · have h := h.2 c1
        refine v_iconst (pc := 109) dX12_next_109 (by decide) ?_
        refine v_goto (pc := 110) (tgt := 114) dX12_next_110 (by decide) ?_
        refine v_putf (pc := 114) dX12_next_114 flX12_261 ⟨_, _, rfl, Or.inl rfl⟩ rfl (by decide) (fun q => nomatch q) (Or.inl fun _ => rfl) at603 ?_
        refine v_aload_n (pc := 117) dX12_next_117 0 rfl ?_
        refine m_getf (pc := 118) (t := 0) (v := 2) dX12_next_118 flX12_261 rfl at603 (aUp_re) ?_
        refine v_iconst (pc := 121) dX12_next_121 (by decide) ?_
        refine v_icmpne (pc := 122) (tgt := 149) dX12_next_122 (by decide) (fun c1 => ?_) (fun c1 => absurd c1 (by decide))
        exact VG_sub (al' := [(0, aR 603)]) [0] rfl h
    · have h := h.2 c1
      refine v_iconst (pc := 90) dX12_next_90 (by decide) ?_
      refine v_goto (pc := 91) (tgt := 114) dX12_next_91 (by decide) ?_
      refine v_putf (pc := 114) dX12_next_114 flX12_261 ⟨_, _, rfl, Or.inl rfl⟩ rfl (by decide) (fun q => nomatch q) (Or.inl fun _ => rfl) at603 ?_
      refine v_aload_n (pc := 117) dX12_next_117 0 rfl ?_
      refine m_getf (pc := 118) (t := 0) (v := 1) dX12_next_118 flX12_261 rfl at603 (aUp_re) ?_
      refine v_iconst (pc := 121) dX12_next_121 (by decide) ?_
      refine v_icmpne (pc := 122) (tgt := 149) dX12_next_122 (by decide) (fun c1 => ?_) (fun c1 => absurd c1 (by decide))
      exact VG_sub (al' := [(0, aR 603)]) [0] rfl h
  · have h := h.2 c1
    refine v_iconst (pc := 71) dX12_next_71 (by decide) ?_
    refine v_goto (pc := 72) (tgt := 114) dX12_next_72 (by decide) ?_
    refine v_putf (pc := 114) dX12_next_114 flX12_261 ⟨_, _, rfl, Or.inl rfl⟩ rfl (by decide) (fun q => nomatch q) (Or.inl fun _ => rfl) at603 ?_
    refine v_aload_n (pc := 117) dX12_next_117 0 rfl ?_
    refine m_getf (pc := 118) (t := 0) (v := 0) dX12_next_118 flX12_261 rfl at603 (aUp_re) ?_
    refine v_iconst (pc := 121) dX12_next_121 (by decide) ?_
    refine v_icmpne (pc := 122) (tgt := 149) dX12_next_122 (by decide) (fun c1 => ?_) (fun c1 => absurd c1 (by decide))
    exact VG_sub (al' := [(0, aR 603)]) [0] rfl h
set_option maxRecDepth 20000 in
theorem rX12_next_149 {E : EN} (hE : Ep E) {k : Nat} {mem : Mm} {Q : Mm → Prop}
    (h : ((¬ (mem 603 16) = 1 → VM E mX12_next (k + 1) mem 243 [(0, aR 603)] [] (retV Q)) ∧ ((mem 603 16) = 1 → (((mem 603 13) ≤ (mem 603 15) → VM E mX12_next (k + 1) mem 243 [(0, aR 603)] [] (retV Q)) ∧ ((mem 603 15) < (mem 603 13) → (0 ≤ (mem 603 15) ∧ (mem 603 15) < 400) ∧ (R32 (mem 612 (mem 603 15)) → CI E mX12_isSmall k mem [aI (mem 612 (mem 603 15))] (fun r3 m2 => ((r3 = 0 → VM E mX12_next (k + 1) m2 243 [(0, aR 603)] [] (retV Q)) ∧ (¬ r3 = 0 → (R32 ((m2 603 15) - (m2 603 14))) ∧ ((10 ≤ ((m2 603 15) - (m2 603 14)) → (R32 ((m2 603 15) + 1)) ∧ VM E mX12_next (k + 1) (aUp (aUp m2 603 17 (-1)) 603 15 ((m2 603 15) + 1)) 149 [(0, aR 603)] [] (retV Q)) ∧ (((m2 603 15) - (m2 603 14)) < 10 → (R64 ((m2 603 17) * 32)) ∧ (0 ≤ (m2 603 15) ∧ (m2 603 15) < 400) ∧ (R64 (((m2 603 17) * 32) + (m2 612 (m2 603 15)))) ∧ (R64 ((((m2 603 17) * 32) + (m2 612 (m2 603 15))) - 96)) ∧ (R32 ((m2 603 15) + 1)) ∧ VM E mX12_next (k + 1) (aUp (aUp m2 603 17 ((((m2 603 17) * 32) + (m2 612 (m2 603 15))) - 96)) 603 15 ((m2 603 15) + 1)) 149 [(0, aR 603)] [] (retV Q)))))))))))) :
    VM E mX12_next (k + 1) mem 149 [(0, aR 603)] [] (retV Q) := by
  refine v_aload_n (pc := 149) dX12_next_149 0 rfl ?_
  refine m_getf (pc := 150) (t := 0) (v := (mem 603 16)) dX12_next_150 flX12_261 rfl at603 rfl ?_
  refine v_iconst (pc := 153) dX12_next_153 (by decide) ?_
  refine v_icmpne (pc := 154) (tgt := 243) dX12_next_154 (by decide) (fun c1 => ?_) (fun c1 => ?_)
  · have h := h.1 c1
    exact VG_sub (al' := [(0, aR 603)]) [0] rfl h
  · have h := h.2 c1
    refine v_aload_n (pc := 157) dX12_next_157 0 rfl ?_
    refine m_getf (pc := 158) (t := 0) (v := (mem 603 15)) dX12_next_158 flX12_238 rfl at603 rfl ?_
    refine v_aload_n (pc := 161) dX12_next_161 0 rfl ?_
    refine m_getf (pc := 162) (t := 0) (v := (mem 603 13)) dX12_next_162 flX12_229 rfl at603 rfl ?_
    refine v_icmpge (pc := 165) (tgt := 243) dX12_next_165 (by decide) (fun c1 => ?_) (fun c1 => ?_)
    · have h := h.1 c1
      exact VG_sub (al' := [(0, aR 603)]) [0] rfl h
    · have h := h.2 c1
      refine v_aload_n (pc := 168) dX12_next_168 0 rfl ?_
      refine m_getfin (pc := 169) (v := 612) hE dX12_next_169 flX12_35 rfl at603 rfl ?_
      refine v_aload_n (pc := 172) dX12_next_172 0 rfl ?_
      refine m_getf (pc := 173) (t := 0) (v := (mem 603 15)) dX12_next_173 flX12_238 rfl at603 rfl ?_
      obtain ⟨o1, h⟩ := h
      refine m_iald (pc := 176) (v := (mem 612 (mem 603 15))) dX12_next_176 at612 o1.1 o1.2 rfl ?_
      refine m_invSI (pc := 177) (mi' := mX12_isSmall) (rest := []) [aI (mem 612 (mem 603 15))] dX12_next_177 msX12_isSmall stX12_isSmall lkX12_255 rfl (Nat.le_of_ble_eq_true rfl) (fun hn => CI_mono (h (aaI hn 0 rfl)) (fun r3 m2 h => ?_))
      refine v_ifeq (pc := 180) (tgt := 243) dX12_next_180 (by decide) (fun c1 => ?_) (fun c1 => ?_)
      · have h := h.1 c1
        exact VG_sub (al' := [(0, aR 603)]) [0] rfl h
      · have h := h.2 c1
        refine v_aload_n (pc := 183) dX12_next_183 0 rfl ?_
        refine v_aload_n (pc := 184) dX12_next_184 0 rfl ?_
        refine m_getf (pc := 185) (t := 0) (v := (m2 603 15)) dX12_next_185 flX12_238 rfl at603 rfl ?_
        refine v_aload_n (pc := 188) dX12_next_188 0 rfl ?_
        refine m_getf (pc := 189) (t := 0) (v := (m2 603 14)) dX12_next_189 flX12_248 rfl at603 rfl ?_
        obtain ⟨o4, h⟩ := h
        refine m_isub (pc := 192) dX12_next_192 o4 ?_
        refine v_bipush (pc := 193) dX12_next_193 (by decide) ?_
        refine v_icmpge (pc := 195) (tgt := 224) dX12_next_195 (by decide) (fun c1 => ?_) (fun c1 => ?_)
        · have h := h.1 c1
          refine v_ldc2 (pc := 224) (n := (-1)) dX12_next_224 cnX12_268 (by decide) ?_
          refine v_putf (pc := 227) dX12_next_227 flX12_251 ⟨_, _, rfl, Or.inl rfl⟩ rfl (by decide) (fun q => nomatch q) (Or.inl fun _ => rfl) at603 ?_
          refine v_aload_n (pc := 230) dX12_next_230 0 rfl ?_
          refine v_dup (pc := 231) dX12_next_231 rfl ?_
          refine m_getf (pc := 232) (t := 0) (v := (m2 603 15)) dX12_next_232 flX12_238 rfl at603 (aUp_ri (by decide)) ?_
          refine v_iconst (pc := 235) dX12_next_235 (by decide) ?_
          obtain ⟨o5, h⟩ := h
          refine m_iadd (pc := 236) dX12_next_236 o5 ?_
          refine v_putf (pc := 237) dX12_next_237 flX12_238 ⟨_, _, rfl, Or.inl rfl⟩ rfl (by decide) (fun q => nomatch q) (Or.inl fun _ => rfl) at603 ?_
          refine v_goto (pc := 240) (tgt := 149) dX12_next_240 (by decide) ?_
          exact VG_sub (al' := [(0, aR 603)]) [0] rfl h
        · have h := h.2 c1
          refine v_aload_n (pc := 198) dX12_next_198 0 rfl ?_
          refine m_getf (pc := 199) (t := 1) (v := (m2 603 17)) dX12_next_199 flX12_251 rfl at603 rfl ?_
          refine v_ldc2 (pc := 202) (n := 32) dX12_next_202 cnX12_264 (by decide) ?_
          obtain ⟨o6, h⟩ := h
          refine m_lmul (pc := 205) dX12_next_205 o6 ?_
          refine v_aload_n (pc := 206) dX12_next_206 0 rfl ?_
          refine m_getfin (pc := 207) (v := 612) hE dX12_next_207 flX12_35 rfl at603 rfl ?_
          refine v_aload_n (pc := 210) dX12_next_210 0 rfl ?_
          refine m_getf (pc := 211) (t := 0) (v := (m2 603 15)) dX12_next_211 flX12_238 rfl at603 rfl ?_
          obtain ⟨o7, h⟩ := h
          refine m_iald (pc := 214) (v := (m2 612 (m2 603 15))) dX12_next_214 at612 o7.1 o7.2 rfl ?_
          refine v_i2l (pc := 215) dX12_next_215 ?_
          obtain ⟨o8, h⟩ := h
          refine m_ladd (pc := 216) dX12_next_216 o8 ?_
          refine v_ldc2 (pc := 217) (n := 96) dX12_next_217 cnX12_266 (by decide) ?_
          obtain ⟨o9, h⟩ := h
          refine m_lsub (pc := 220) dX12_next_220 o9 ?_
          refine v_goto (pc := 221) (tgt := 227) dX12_next_221 (by decide) ?_
          refine v_putf (pc := 227) dX12_next_227 flX12_251 ⟨_, _, rfl, Or.inl rfl⟩ rfl (by decide) (fun q => nomatch q) (Or.inl fun _ => rfl) at603 ?_
          refine v_aload_n (pc := 230) dX12_next_230 0 rfl ?_
          refine v_dup (pc := 231) dX12_next_231 rfl ?_
          refine m_getf (pc := 232) (t := 0) (v := (m2 603 15)) dX12_next_232 flX12_238 rfl at603 (aUp_ri (by decide)) ?_
          refine v_iconst (pc := 235) dX12_next_235 (by decide) ?_
          obtain ⟨o10, h⟩ := h
          refine m_iadd (pc := 236) dX12_next_236 o10 ?_
          refine v_putf (pc := 237) dX12_next_237 flX12_238 ⟨_, _, rfl, Or.inl rfl⟩ rfl (by decide) (fun q => nomatch q) (Or.inl fun _ => rfl) at603 ?_
          refine v_goto (pc := 240) (tgt := 149) dX12_next_240 (by decide) ?_
          exact VG_sub (al' := [(0, aR 603)]) [0] rfl h
set_option maxRecDepth 20000 in
theorem rX12_next_243 {E : EN} (hE : Ep E) {k : Nat} {mem : Mm} {Q : Mm → Prop}
    (h : ((¬ (mem 603 16) = 2 → VM E mX12_next (k + 1) mem 335 [] [] (retV Q)) ∧ ((mem 603 16) = 2 → (((mem 603 13) ≤ (mem 603 15) → VM E mX12_next (k + 1) mem 335 [] [] (retV Q)) ∧ ((mem 603 15) < (mem 603 13) → (0 ≤ (mem 603 15) ∧ (mem 603 15) < 400) ∧ (R32 (mem 612 (mem 603 15)) → CI E mX12_isDigit k mem [aI (mem 612 (mem 603 15))] (fun r3 m2 => ((r3 = 0 → VM E mX12_next (k + 1) m2 335 [] [] (retV Q)) ∧ (¬ r3 = 0 → (((m2 603 17) ≤ 1000000 → (R64 ((m2 603 17) * 10)) ∧ (0 ≤ (m2 603 15) ∧ (m2 603 15) < 400) ∧ (R64 (((m2 603 17) * 10) + (m2 612 (m2 603 15)))) ∧ (R64 ((((m2 603 17) * 10) + (m2 612 (m2 603 15))) - 48)) ∧ (R32 ((m2 603 15) + 1)) ∧ VM E mX12_next (k + 1) (aUp (aUp m2 603 17 ((((m2 603 17) * 10) + (m2 612 (m2 603 15))) - 48)) 603 15 ((m2 603 15) + 1)) 243 [(0, aR 603)] [] (retV Q)) ∧ (1000000 < (m2 603 17) → (R32 ((m2 603 15) + 1)) ∧ VM E mX12_next (k + 1) (aUp (aUp m2 603 17 (m2 603 17)) 603 15 ((m2 603 15) + 1)) 243 [(0, aR 603)] [] (retV Q)))))))))))) :
    VM E mX12_next (k + 1) mem 243 [(0, aR 603)] [] (retV Q) := by
  refine v_aload_n (pc := 243) dX12_next_243 0 rfl ?_
  refine m_getf (pc := 244) (t := 0) (v := (mem 603 16)) dX12_next_244 flX12_261 rfl at603 rfl ?_
  refine v_iconst (pc := 247) dX12_next_247 (by decide) ?_
  refine v_icmpne (pc := 248) (tgt := 335) dX12_next_248 (by decide) (fun c1 => ?_) (fun c1 => ?_)
  · have h := h.1 c1
    exact VG_sub (al' := []) [] rfl h
  · have h := h.2 c1
    refine v_aload_n (pc := 251) dX12_next_251 0 rfl ?_
    refine m_getf (pc := 252) (t := 0) (v := (mem 603 15)) dX12_next_252 flX12_238 rfl at603 rfl ?_
    refine v_aload_n (pc := 255) dX12_next_255 0 rfl ?_
    refine m_getf (pc := 256) (t := 0) (v := (mem 603 13)) dX12_next_256 flX12_229 rfl at603 rfl ?_
    refine v_icmpge (pc := 259) (tgt := 335) dX12_next_259 (by decide) (fun c1 => ?_) (fun c1 => ?_)
    · have h := h.1 c1
      exact VG_sub (al' := []) [] rfl h
    · have h := h.2 c1
      refine v_aload_n (pc := 262) dX12_next_262 0 rfl ?_
      refine m_getfin (pc := 263) (v := 612) hE dX12_next_263 flX12_35 rfl at603 rfl ?_
      refine v_aload_n (pc := 266) dX12_next_266 0 rfl ?_
      refine m_getf (pc := 267) (t := 0) (v := (mem 603 15)) dX12_next_267 flX12_238 rfl at603 rfl ?_
      obtain ⟨o1, h⟩ := h
      refine m_iald (pc := 270) (v := (mem 612 (mem 603 15))) dX12_next_270 at612 o1.1 o1.2 rfl ?_
      refine m_invSI (pc := 271) (mi' := mX12_isDigit) (rest := []) [aI (mem 612 (mem 603 15))] dX12_next_271 msX12_isDigit stX12_isDigit lkX12_258 rfl (Nat.le_of_ble_eq_true rfl) (fun hn => CI_mono (h (aaI hn 0 rfl)) (fun r3 m2 h => ?_))
      refine v_ifeq (pc := 274) (tgt := 335) dX12_next_274 (by decide) (fun c1 => ?_) (fun c1 => ?_)
      · have h := h.1 c1
        exact VG_sub (al' := []) [] rfl h
      · have h := h.2 c1
        refine v_aload_n (pc := 277) dX12_next_277 0 rfl ?_
        refine v_aload_n (pc := 278) dX12_next_278 0 rfl ?_
        refine m_getf (pc := 279) (t := 1) (v := (m2 603 17)) dX12_next_279 flX12_251 rfl at603 rfl ?_
        refine v_ldc2 (pc := 282) (n := 1000000) dX12_next_282 cnX12_270 (by decide) ?_
        refine v_lcmple (pc := 285) (tgt := 296) dX12_next_285 dX12_next_286 (by decide) (fun c1 => ?_) (fun c1 => ?_)
        · have h := h.1 c1
          refine v_aload_n (pc := 296) dX12_next_296 0 rfl ?_
          refine m_getf (pc := 297) (t := 1) (v := (m2 603 17)) dX12_next_297 flX12_251 rfl at603 rfl ?_
          refine v_ldc2 (pc := 300) (n := 10) dX12_next_300 cnX12_225 (by decide) ?_
          obtain ⟨o4, h⟩ := h
          refine m_lmul (pc := 303) dX12_next_303 o4 ?_
          refine v_aload_n (pc := 304) dX12_next_304 0 rfl ?_
          refine m_getfin (pc := 305) (v := 612) hE dX12_next_305 flX12_35 rfl at603 rfl ?_
          refine v_aload_n (pc := 308) dX12_next_308 0 rfl ?_
          refine m_getf (pc := 309) (t := 0) (v := (m2 603 15)) dX12_next_309 flX12_238 rfl at603 rfl ?_
          obtain ⟨o5, h⟩ := h
          refine m_iald (pc := 312) (v := (m2 612 (m2 603 15))) dX12_next_312 at612 o5.1 o5.2 rfl ?_
          refine v_i2l (pc := 313) dX12_next_313 ?_
          obtain ⟨o6, h⟩ := h
          refine m_ladd (pc := 314) dX12_next_314 o6 ?_
          refine v_ldc2 (pc := 315) (n := 48) dX12_next_315 cnX12_272 (by decide) ?_
          obtain ⟨o7, h⟩ := h
          refine m_lsub (pc := 318) dX12_next_318 o7 ?_
          refine v_putf (pc := 319) dX12_next_319 flX12_251 ⟨_, _, rfl, Or.inl rfl⟩ rfl (by decide) (fun q => nomatch q) (Or.inl fun _ => rfl) at603 ?_
          refine v_aload_n (pc := 322) dX12_next_322 0 rfl ?_
          refine v_dup (pc := 323) dX12_next_323 rfl ?_
          refine m_getf (pc := 324) (t := 0) (v := (m2 603 15)) dX12_next_324 flX12_238 rfl at603 (aUp_ri (by decide)) ?_
          refine v_iconst (pc := 327) dX12_next_327 (by decide) ?_
          obtain ⟨o8, h⟩ := h
          refine m_iadd (pc := 328) dX12_next_328 o8 ?_
          refine v_putf (pc := 329) dX12_next_329 flX12_238 ⟨_, _, rfl, Or.inl rfl⟩ rfl (by decide) (fun q => nomatch q) (Or.inl fun _ => rfl) at603 ?_
          refine v_goto (pc := 332) (tgt := 243) dX12_next_332 (by decide) ?_
          exact VG_sub (al' := [(0, aR 603)]) [0] rfl h
        · have h := h.2 c1
          refine v_aload_n (pc := 289) dX12_next_289 0 rfl ?_
          refine m_getf (pc := 290) (t := 1) (v := (m2 603 17)) dX12_next_290 flX12_251 rfl at603 rfl ?_
          refine v_goto (pc := 293) (tgt := 319) dX12_next_293 (by decide) ?_
          refine v_putf (pc := 319) dX12_next_319 flX12_251 ⟨_, _, rfl, Or.inl rfl⟩ rfl (by decide) (fun q => nomatch q) (Or.inl fun _ => rfl) at603 ?_
          refine v_aload_n (pc := 322) dX12_next_322 0 rfl ?_
          refine v_dup (pc := 323) dX12_next_323 rfl ?_
          refine m_getf (pc := 324) (t := 0) (v := (m2 603 15)) dX12_next_324 flX12_238 rfl at603 (aUp_ri (by decide)) ?_
          refine v_iconst (pc := 327) dX12_next_327 (by decide) ?_
          obtain ⟨o9, h⟩ := h
          refine m_iadd (pc := 328) dX12_next_328 o9 ?_
          refine v_putf (pc := 329) dX12_next_329 flX12_238 ⟨_, _, rfl, Or.inl rfl⟩ rfl (by decide) (fun q => nomatch q) (Or.inl fun _ => rfl) at603 ?_
          refine v_goto (pc := 332) (tgt := 243) dX12_next_332 (by decide) ?_
          exact VG_sub (al' := [(0, aR 603)]) [0] rfl h
set_option maxRecDepth 20000 in
theorem rX12_next_335 {E : EN} (hE : Ep E) {k : Nat} {mem : Mm} {Q : Mm → Prop}
    (h : Q mem) :
    VM E mX12_next (k + 1) mem 335 [] [] (retV Q) := by
  exact m_retV (pc := 335) dX12_next_335 rfl h

theorem dX12_isWord_0 : decode cX12_isWord 0 = .ok (.aload_n 0, 1) := by decide +kernel
theorem dX12_isWord_1 : decode cX12_isWord 1 = .ok (.getfield 261, 3) := by decide +kernel
theorem dX12_isWord_4 : decode cX12_isWord 4 = .ok (.iconst 1, 1) := by decide +kernel
theorem dX12_isWord_5 : decode cX12_isWord 5 = .ok (.if_icmp .ne 16, 3) := by decide +kernel
theorem dX12_isWord_8 : decode cX12_isWord 8 = .ok (.aload_n 0, 1) := by decide +kernel
theorem dX12_isWord_9 : decode cX12_isWord 9 = .ok (.getfield 251, 3) := by decide +kernel
theorem dX12_isWord_12 : decode cX12_isWord 12 = .ok (.lload_n 1, 1) := by decide +kernel
theorem dX12_isWord_13 : decode cX12_isWord 13 = .ok (.lcmp, 1) := by decide +kernel
theorem dX12_isWord_14 : decode cX12_isWord 14 = .ok (.ifCond .ne 7, 3) := by decide +kernel
theorem dX12_isWord_17 : decode cX12_isWord 17 = .ok (.iconst 1, 1) := by decide +kernel
theorem dX12_isWord_18 : decode cX12_isWord 18 = .ok (.goto 4, 3) := by decide +kernel
theorem dX12_isWord_21 : decode cX12_isWord 21 = .ok (.iconst 0, 1) := by decide +kernel
theorem dX12_isWord_22 : decode cX12_isWord 22 = .ok (.ireturn, 1) := by decide +kernel
set_option maxRecDepth 20000 in
theorem rX12_isWord_0 {E : EN} (hE : Ep E) {k : Nat} {mem : Mm} {Q : Int → Mm → Prop} {p0 : Int}
    (h : ((¬ (mem 603 16) = 1 → Q 0 mem) ∧ ((mem 603 16) = 1 → ((¬ (mem 603 17) = p0 → Q 0 mem) ∧ ((mem 603 17) = p0 → Q 1 mem))))) :
    VM E mX12_isWord k mem 0 [(0, aR 603), (1, aL p0)] [] (retI Q) := by
  refine v_aload_n (pc := 0) dX12_isWord_0 0 rfl ?_
  refine m_getf (pc := 1) (t := 0) (v := (mem 603 16)) dX12_isWord_1 flX12_261 rfl at603 rfl ?_
  refine v_iconst (pc := 4) dX12_isWord_4 (by decide) ?_
  refine v_icmpne (pc := 5) (tgt := 21) dX12_isWord_5 (by decide) (fun c1 => ?_) (fun c1 => ?_)
  · have h := h.1 c1
    refine v_iconst (pc := 21) dX12_isWord_21 (by decide) ?_
    exact m_retZ (pc := 22) dX12_isWord_22 rfl (by decide) h
  · have h := h.2 c1
    refine v_aload_n (pc := 8) dX12_isWord_8 0 rfl ?_
    refine m_getf (pc := 9) (t := 1) (v := (mem 603 17)) dX12_isWord_9 flX12_251 rfl at603 rfl ?_
    refine v_lload_n (pc := 12) dX12_isWord_12 1 rfl ?_
    refine v_lcmpne (pc := 13) (tgt := 21) dX12_isWord_13 dX12_isWord_14 (by decide) (fun c1 => ?_) (fun c1 => ?_)
    · have h := h.1 c1
      refine v_iconst (pc := 21) dX12_isWord_21 (by decide) ?_
      exact m_retZ (pc := 22) dX12_isWord_22 rfl (by decide) h
    · have h := h.2 c1
      refine v_iconst (pc := 17) dX12_isWord_17 (by decide) ?_
      refine v_goto (pc := 18) (tgt := 22) dX12_isWord_18 (by decide) ?_
      exact m_retZ (pc := 22) dX12_isWord_22 rfl (by decide) h
theorem eX12_isWord {E : EN} {k : Nat} {mem : Mm} {Q : Int → Mm → Prop} {p0 : Int} (hr_p0 : R64 p0) (h : VM E mX12_isWord k mem 0 [(0, aR 603), (1, aL p0)] [] (retI Q)) : CI E mX12_isWord k mem [aR 603, aL p0] Q := CI_of rfl (Nat.le_of_ble_eq_true rfl) h (aNs_c (aNr_R _) (aNs_c (aNr_L hr_p0) (fun _ q => nomatch q)))

theorem dX12_isSign_0 : decode cX12_isSign 0 = .ok (.aload_n 0, 1) := by decide +kernel
theorem dX12_isSign_1 : decode cX12_isSign 1 = .ok (.getfield 261, 3) := by decide +kernel
theorem dX12_isSign_4 : decode cX12_isSign 4 = .ok (.iconst 3, 1) := by decide +kernel
theorem dX12_isSign_5 : decode cX12_isSign 5 = .ok (.if_icmp .ne 17, 3) := by decide +kernel
theorem dX12_isSign_8 : decode cX12_isSign 8 = .ok (.aload_n 0, 1) := by decide +kernel
theorem dX12_isSign_9 : decode cX12_isSign 9 = .ok (.getfield 251, 3) := by decide +kernel
theorem dX12_isSign_12 : decode cX12_isSign 12 = .ok (.iload_n 1, 1) := by decide +kernel
theorem dX12_isSign_13 : decode cX12_isSign 13 = .ok (.i2l, 1) := by decide +kernel
theorem dX12_isSign_14 : decode cX12_isSign 14 = .ok (.lcmp, 1) := by decide +kernel
theorem dX12_isSign_15 : decode cX12_isSign 15 = .ok (.ifCond .ne 7, 3) := by decide +kernel
theorem dX12_isSign_18 : decode cX12_isSign 18 = .ok (.iconst 1, 1) := by decide +kernel
theorem dX12_isSign_19 : decode cX12_isSign 19 = .ok (.goto 4, 3) := by decide +kernel
theorem dX12_isSign_22 : decode cX12_isSign 22 = .ok (.iconst 0, 1) := by decide +kernel
theorem dX12_isSign_23 : decode cX12_isSign 23 = .ok (.ireturn, 1) := by decide +kernel
set_option maxRecDepth 20000 in
theorem rX12_isSign_0 {E : EN} (hE : Ep E) {k : Nat} {mem : Mm} {Q : Int → Mm → Prop} {p0 : Int}
    (h : ((¬ (mem 603 16) = 3 → Q 0 mem) ∧ ((mem 603 16) = 3 → ((¬ (mem 603 17) = p0 → Q 0 mem) ∧ ((mem 603 17) = p0 → Q 1 mem))))) :
    VM E mX12_isSign k mem 0 [(0, aR 603), (1, aI p0)] [] (retI Q) := by
  refine v_aload_n (pc := 0) dX12_isSign_0 0 rfl ?_
  refine m_getf (pc := 1) (t := 0) (v := (mem 603 16)) dX12_isSign_1 flX12_261 rfl at603 rfl ?_
  refine v_iconst (pc := 4) dX12_isSign_4 (by decide) ?_
  refine v_icmpne (pc := 5) (tgt := 22) dX12_isSign_5 (by decide) (fun c1 => ?_) (fun c1 => ?_)
  · have h := h.1 c1
    refine v_iconst (pc := 22) dX12_isSign_22 (by decide) ?_
    exact m_retZ (pc := 23) dX12_isSign_23 rfl (by decide) h
  · have h := h.2 c1
    refine v_aload_n (pc := 8) dX12_isSign_8 0 rfl ?_
    refine m_getf (pc := 9) (t := 1) (v := (mem 603 17)) dX12_isSign_9 flX12_251 rfl at603 rfl ?_
    refine v_iload_n (pc := 12) dX12_isSign_12 1 rfl ?_
    refine v_i2l (pc := 13) dX12_isSign_13 ?_
    refine v_lcmpne (pc := 14) (tgt := 22) dX12_isSign_14 dX12_isSign_15 (by decide) (fun c1 => ?_) (fun c1 => ?_)
    · have h := h.1 c1
      refine v_iconst (pc := 22) dX12_isSign_22 (by decide) ?_
      exact m_retZ (pc := 23) dX12_isSign_23 rfl (by decide) h
    · have h := h.2 c1
      refine v_iconst (pc := 18) dX12_isSign_18 (by decide) ?_
      refine v_goto (pc := 19) (tgt := 23) dX12_isSign_19 (by decide) ?_
      exact m_retZ (pc := 23) dX12_isSign_23 rfl (by decide) h
theorem eX12_isSign {E : EN} {k : Nat} {mem : Mm} {Q : Int → Mm → Prop} {p0 : Int} (hr_p0 : R32 p0) (h : VM E mX12_isSign k mem 0 [(0, aR 603), (1, aI p0)] [] (retI Q)) : CI E mX12_isSign k mem [aR 603, aI p0] Q := CI_of rfl (Nat.le_of_ble_eq_true rfl) h (aNs_c (aNr_R _) (aNs_c (aNr_I hr_p0) (fun _ q => nomatch q)))

theorem dX12_must_0 : decode cX12_must 0 = .ok (.aload_n 0, 1) := by decide +kernel
theorem dX12_must_1 : decode cX12_must 1 = .ok (.getfield 241, 3) := by decide +kernel
theorem dX12_must_4 : decode cX12_must 4 = .ok (.ifCond .ne 20, 3) := by decide +kernel
theorem dX12_must_7 : decode cX12_must 7 = .ok (.iload_n 1, 1) := by decide +kernel
theorem dX12_must_8 : decode cX12_must 8 = .ok (.ifCond .ne 16, 3) := by decide +kernel
theorem dX12_must_11 : decode cX12_must 11 = .ok (.aload_n 0, 1) := by decide +kernel
theorem dX12_must_12 : decode cX12_must 12 = .ok (.iconst 1, 1) := by decide +kernel
theorem dX12_must_13 : decode cX12_must 13 = .ok (.putfield 241, 3) := by decide +kernel
theorem dX12_must_16 : decode cX12_must 16 = .ok (.aload_n 0, 1) := by decide +kernel
theorem dX12_must_17 : decode cX12_must 17 = .ok (.aload_n 0, 1) := by decide +kernel
theorem dX12_must_18 : decode cX12_must 18 = .ok (.getfield 248, 3) := by decide +kernel
theorem dX12_must_21 : decode cX12_must 21 = .ok (.putfield 38, 3) := by decide +kernel
theorem dX12_must_24 : decode cX12_must 24 = .ok (.aload_n 0, 1) := by decide +kernel
theorem dX12_must_25 : decode cX12_must 25 = .ok (.getfield 241, 3) := by decide +kernel
theorem dX12_must_28 : decode cX12_must 28 = .ok (.ifCond .ne 7, 3) := by decide +kernel
theorem dX12_must_31 : decode cX12_must 31 = .ok (.aload_n 0, 1) := by decide +kernel
theorem dX12_must_32 : decode cX12_must 32 = .ok (.invokevirtual 245, 3) := by decide +kernel
theorem dX12_must_35 : decode cX12_must 35 = .ok (.return_, 1) := by decide +kernel
set_option maxRecDepth 20000 in
theorem rX12_must_0 {E : EN} (hE : Ep E) {k : Nat} {mem : Mm} {Q : Mm → Prop} {p0 : Int}
    (h : ((¬ (mem 603 19) = 0 → ((¬ (mem 603 19) = 0 → Q mem) ∧ ((mem 603 19) = 0 → (CV E mX12_next k mem [aR 603] (fun m1 => Q m1))))) ∧ ((mem 603 19) = 0 → ((¬ p0 = 0 → ((¬ (mem 603 19) = 0 → Q mem) ∧ ((mem 603 19) = 0 → (CV E mX12_next k mem [aR 603] (fun m2 => Q m2))))) ∧ (p0 = 0 → Q (aUp (aUp mem 603 19 1) 603 18 (mem 603 14))))))) :
    VM E mX12_must (k + 1) mem 0 [(0, aR 603), (1, aI p0)] [] (retV Q) := by
  refine v_aload_n (pc := 0) dX12_must_0 0 rfl ?_
  refine m_getf (pc := 1) (t := 0) (v := (mem 603 19)) dX12_must_1 flX12_241 rfl at603 rfl ?_
  refine v_ifne (pc := 4) (tgt := 24) dX12_must_4 (by decide) (fun c1 => ?_) (fun c1 => ?_)
  · have h := h.1 c1
    refine v_aload_n (pc := 24) dX12_must_24 0 rfl ?_
    refine m_getf (pc := 25) (t := 0) (v := (mem 603 19)) dX12_must_25 flX12_241 rfl at603 rfl ?_
    refine v_ifne (pc := 28) (tgt := 35) dX12_must_28 (by decide) (fun c1 => ?_) (fun c1 => ?_)
    · have h := h.1 c1
      exact m_retV (pc := 35) dX12_must_35 rfl h
    · have h := h.2 c1
      refine v_aload_n (pc := 31) dX12_must_31 0 rfl ?_
      refine m_invV (pc := 32) (mi' := mX12_next) (rest := []) [] dX12_must_32 at603 (by decide) rfl msX12_next mvX12_next lkX12_245 rfl (Nat.le_of_ble_eq_true rfl) (fun hn => CV_mono (h) (fun m1 h => ?_))
      exact m_retV (pc := 35) dX12_must_35 rfl h
  · have h := h.2 c1
    refine v_iload_n (pc := 7) dX12_must_7 1 rfl ?_
    refine v_ifne (pc := 8) (tgt := 24) dX12_must_8 (by decide) (fun c1 => ?_) (fun c1 => ?_)
    · have h := h.1 c1
      refine v_aload_n (pc := 24) dX12_must_24 0 rfl ?_
      refine m_getf (pc := 25) (t := 0) (v := (mem 603 19)) dX12_must_25 flX12_241 rfl at603 rfl ?_
      refine v_ifne (pc := 28) (tgt := 35) dX12_must_28 (by decide) (fun c1 => ?_) (fun c1 => ?_)
      · have h := h.1 c1
        exact m_retV (pc := 35) dX12_must_35 rfl h
      · have h := h.2 c1
        refine v_aload_n (pc := 31) dX12_must_31 0 rfl ?_
        refine m_invV (pc := 32) (mi' := mX12_next) (rest := []) [] dX12_must_32 at603 (by decide) rfl msX12_next mvX12_next lkX12_245 rfl (Nat.le_of_ble_eq_true rfl) (fun hn => CV_mono (h) (fun m2 h => ?_))
        exact m_retV (pc := 35) dX12_must_35 rfl h
    · have h := h.2 c1
      refine v_aload_n (pc := 11) dX12_must_11 0 rfl ?_
      refine v_iconst (pc := 12) dX12_must_12 (by decide) ?_
      refine v_putf (pc := 13) dX12_must_13 flX12_241 ⟨_, _, rfl, Or.inl rfl⟩ rfl (by decide) (fun _ => by decide) (Or.inl fun _ => rfl) at603 ?_
      refine v_aload_n (pc := 16) dX12_must_16 0 rfl ?_
      refine v_aload_n (pc := 17) dX12_must_17 0 rfl ?_
      refine m_getf (pc := 18) (t := 0) (v := (mem 603 14)) dX12_must_18 flX12_248 rfl at603 (aUp_ri (by decide)) ?_
      refine v_putf (pc := 21) dX12_must_21 flX12_38 ⟨_, _, rfl, Or.inl rfl⟩ rfl (by decide) (fun q => nomatch q) (Or.inl fun _ => rfl) at603 ?_
      refine v_aload_n (pc := 24) dX12_must_24 0 rfl ?_
      refine m_getf (pc := 25) (t := 0) (v := 1) dX12_must_25 flX12_241 rfl at603 ((aUp_ri (by decide)).trans (aUp_re)) ?_
      refine v_ifne (pc := 28) (tgt := 35) dX12_must_28 (by decide) (fun c1 => ?_) (fun c1 => absurd c1 (by decide))
      exact m_retV (pc := 35) dX12_must_35 rfl h
theorem eX12_must {E : EN} {k : Nat} {mem : Mm} {Q : Mm → Prop} {p0 : Int} (hr_p0 : R32 p0) (h : VM E mX12_must (k + 1) mem 0 [(0, aR 603), (1, aI p0)] [] (retV Q)) : CV E mX12_must (k + 1) mem [aR 603, aI p0] Q := CV_of rfl (Nat.le_of_ble_eq_true rfl) h (aNs_c (aNr_R _) (aNs_c (aNr_I hr_p0) (fun _ q => nomatch q)))

theorem dX12_number_0 : decode cX12_number 0 = .ok (.aload_n 0, 1) := by decide +kernel
theorem dX12_number_1 : decode cX12_number 1 = .ok (.getfield 251, 3) := by decide +kernel
theorem dX12_number_4 : decode cX12_number 4 = .ok (.l2i, 1) := by decide +kernel
theorem dX12_number_5 : decode cX12_number 5 = .ok (.istore 5, 2) := by decide +kernel
theorem dX12_number_7 : decode cX12_number 7 = .ok (.aload_n 0, 1) := by decide +kernel
theorem dX12_number_8 : decode cX12_number 8 = .ok (.aload_n 0, 1) := by decide +kernel
theorem dX12_number_9 : decode cX12_number 9 = .ok (.getfield 261, 3) := by decide +kernel
theorem dX12_number_12 : decode cX12_number 12 = .ok (.iconst 2, 1) := by decide +kernel
theorem dX12_number_13 : decode cX12_number 13 = .ok (.if_icmp .ne 19, 3) := by decide +kernel
theorem dX12_number_16 : decode cX12_number 16 = .ok (.aload_n 0, 1) := by decide +kernel
theorem dX12_number_17 : decode cX12_number 17 = .ok (.getfield 251, 3) := by decide +kernel
theorem dX12_number_20 : decode cX12_number 20 = .ok (.lload_n 1, 1) := by decide +kernel
theorem dX12_number_21 : decode cX12_number 21 = .ok (.lload_n 3, 1) := by decide +kernel
theorem dX12_number_22 : decode cX12_number 22 = .ok (.invokestatic 182, 3) := by decide +kernel
theorem dX12_number_25 : decode cX12_number 25 = .ok (.ifCond .eq 7, 3) := by decide +kernel
theorem dX12_number_28 : decode cX12_number 28 = .ok (.iconst 1, 1) := by decide +kernel
theorem dX12_number_29 : decode cX12_number 29 = .ok (.goto 4, 3) := by decide +kernel
theorem dX12_number_32 : decode cX12_number 32 = .ok (.iconst 0, 1) := by decide +kernel
theorem dX12_number_33 : decode cX12_number 33 = .ok (.invokevirtual 274, 3) := by decide +kernel
theorem dX12_number_36 : decode cX12_number 36 = .ok (.iload 5, 2) := by decide +kernel
theorem dX12_number_38 : decode cX12_number 38 = .ok (.ireturn, 1) := by decide +kernel
set_option maxRecDepth 20000 in
theorem rX12_number_0 {E : EN} (hE : Ep E) {k : Nat} {mem : Mm} {Q : Int → Mm → Prop} {p0 p1 : Int}
    (h : (R32 (mem 603 17)) ∧ ((¬ (mem 603 16) = 2 → (CV E mX12_must k mem [aR 603, aI 0] (fun m2 => Q (mem 603 17) m2))) ∧ ((mem 603 16) = 2 → (R64 (mem 603 17) → R64 p0 → R64 p1 → CI E mX12_in k mem [aL (mem 603 17), aL p0, aL p1] (fun r4 m3 => ((r4 = 0 → (CV E mX12_must k m3 [aR 603, aI 0] (fun m5 => Q (mem 603 17) m5))) ∧ (¬ r4 = 0 → (CV E mX12_must k m3 [aR 603, aI 1] (fun m6 => Q (mem 603 17) m6))))))))) :
    VM E mX12_number (k + 1) mem 0 [(0, aR 603), (1, aL p0), (3, aL p1)] [] (retI Q) := by
  refine v_aload_n (pc := 0) dX12_number_0 0 rfl ?_
  refine m_getf (pc := 1) (t := 1) (v := (mem 603 17)) dX12_number_1 flX12_251 rfl at603 rfl ?_
  obtain ⟨o1, h⟩ := h
  refine m_l2i (pc := 4) dX12_number_4 o1 ?_
  refine v_istore (pc := 5) (al2 := [(5, aI (mem 603 17)), (0, aR 603), (1, aL p0), (3, aL p1)]) dX12_number_5 (by decide) rfl ?_
  refine v_aload_n (pc := 7) dX12_number_7 1 rfl ?_
  refine v_aload_n (pc := 8) dX12_number_8 1 rfl ?_
  refine m_getf (pc := 9) (t := 0) (v := (mem 603 16)) dX12_number_9 flX12_261 rfl at603 rfl ?_
  refine v_iconst (pc := 12) dX12_number_12 (by decide) ?_
  refine v_icmpne (pc := 13) (tgt := 32) dX12_number_13 (by decide) (fun c1 => ?_) (fun c1 => ?_)
  · have h := h.1 c1
    refine v_iconst (pc := 32) dX12_number_32 (by decide) ?_
    refine m_invV (pc := 33) (mi' := mX12_must) (rest := []) [aI 0] dX12_number_33 at603 (by decide) rfl msX12_must mvX12_must lkX12_274 rfl (Nat.le_of_ble_eq_true rfl) (fun hn => CV_mono (h) (fun m2 h => ?_))
    refine v_iload (pc := 36) dX12_number_36 0 rfl ?_
    exact m_retI (pc := 38) dX12_number_38 rfl h
  · have h := h.2 c1
    refine v_aload_n (pc := 16) dX12_number_16 1 rfl ?_
    refine m_getf (pc := 17) (t := 1) (v := (mem 603 17)) dX12_number_17 flX12_251 rfl at603 rfl ?_
    refine v_lload_n (pc := 20) dX12_number_20 2 rfl ?_
    refine v_lload_n (pc := 21) dX12_number_21 3 rfl ?_
    refine m_invSI (pc := 22) (mi' := mX12_in) (rest := [aR 603]) [aL (mem 603 17), aL p0, aL p1] dX12_number_22 msX12_in stX12_in lkX12_182 rfl (Nat.le_of_ble_eq_true rfl) (fun hn => CI_mono (h (aaL hn 0 rfl) (aaL hn 1 rfl) (aaL hn 2 rfl)) (fun r4 m3 h => ?_))
    refine v_ifeq (pc := 25) (tgt := 32) dX12_number_25 (by decide) (fun c1 => ?_) (fun c1 => ?_)
    · have h := h.1 c1
      refine v_iconst (pc := 32) dX12_number_32 (by decide) ?_
      refine m_invV (pc := 33) (mi' := mX12_must) (rest := []) [aI 0] dX12_number_33 at603 (by decide) rfl msX12_must mvX12_must lkX12_274 rfl (Nat.le_of_ble_eq_true rfl) (fun hn => CV_mono (h) (fun m5 h => ?_))
      refine v_iload (pc := 36) dX12_number_36 0 rfl ?_
      exact m_retI (pc := 38) dX12_number_38 rfl h
    · have h := h.2 c1
      refine v_iconst (pc := 28) dX12_number_28 (by decide) ?_
      refine v_goto (pc := 29) (tgt := 33) dX12_number_29 (by decide) ?_
      refine m_invV (pc := 33) (mi' := mX12_must) (rest := []) [aI 1] dX12_number_33 at603 (by decide) rfl msX12_must mvX12_must lkX12_274 rfl (Nat.le_of_ble_eq_true rfl) (fun hn => CV_mono (h) (fun m6 h => ?_))
      refine v_iload (pc := 36) dX12_number_36 0 rfl ?_
      exact m_retI (pc := 38) dX12_number_38 rfl h
theorem eX12_number {E : EN} {k : Nat} {mem : Mm} {Q : Int → Mm → Prop} {p0 p1 : Int} (hr_p0 : R64 p0) (hr_p1 : R64 p1) (h : VM E mX12_number (k + 1) mem 0 [(0, aR 603), (1, aL p0), (3, aL p1)] [] (retI Q)) : CI E mX12_number (k + 1) mem [aR 603, aL p0, aL p1] Q := CI_of rfl (Nat.le_of_ble_eq_true rfl) h (aNs_c (aNr_R _) (aNs_c (aNr_L hr_p0) (aNs_c (aNr_L hr_p1) (fun _ q => nomatch q))))

theorem dX12_fault_0 : decode cX12_fault 0 = .ok (.aload_n 0, 1) := by decide +kernel
theorem dX12_fault_1 : decode cX12_fault 1 = .ok (.iconst 0, 1) := by decide +kernel
theorem dX12_fault_2 : decode cX12_fault 2 = .ok (.putfield 162, 3) := by decide +kernel
theorem dX12_fault_5 : decode cX12_fault 5 = .ok (.aload_n 0, 1) := by decide +kernel
theorem dX12_fault_6 : decode cX12_fault 6 = .ok (.getfield 38, 3) := by decide +kernel
theorem dX12_fault_9 : decode cX12_fault 9 = .ok (.ireturn, 1) := by decide +kernel
set_option maxRecDepth 20000 in
theorem rX12_fault_0 {E : EN} (hE : Ep E) {k : Nat} {mem : Mm} {Q : Int → Mm → Prop}
    (h : Q (mem 603 18) (aUp mem 603 0 0)) :
    VM E mX12_fault k mem 0 [(0, aR 603)] [] (retI Q) := by
  refine v_aload_n (pc := 0) dX12_fault_0 0 rfl ?_
  refine v_iconst (pc := 1) dX12_fault_1 (by decide) ?_
  refine v_putf (pc := 2) dX12_fault_2 flX12_162 ⟨_, _, rfl, Or.inl rfl⟩ rfl (by decide) (fun q => nomatch q) (Or.inl fun _ => rfl) at603 ?_
  refine v_aload_n (pc := 5) dX12_fault_5 0 rfl ?_
  refine m_getf (pc := 6) (t := 0) (v := (mem 603 18)) dX12_fault_6 flX12_38 rfl at603 (aUp_ri (by decide)) ?_
  exact m_retI (pc := 9) dX12_fault_9 rfl h
theorem eX12_fault {E : EN} {k : Nat} {mem : Mm} {Q : Int → Mm → Prop}  (h : VM E mX12_fault k mem 0 [(0, aR 603)] [] (retI Q)) : CI E mX12_fault k mem [aR 603] Q := CI_of rfl (Nat.le_of_ble_eq_true rfl) h (aNs_c (aNr_R _) (fun _ q => nomatch q))

theorem dX12_emit_0 : decode cX12_emit 0 = .ok (.aload_n 0, 1) := by decide +kernel
theorem dX12_emit_1 : decode cX12_emit 1 = .ok (.getfield 45, 3) := by decide +kernel
theorem dX12_emit_4 : decode cX12_emit 4 = .ok (.aload_n 0, 1) := by decide +kernel
theorem dX12_emit_5 : decode cX12_emit 5 = .ok (.getfield 278, 3) := by decide +kernel
theorem dX12_emit_8 : decode cX12_emit 8 = .ok (.iload_n 1, 1) := by decide +kernel
theorem dX12_emit_9 : decode cX12_emit 9 = .ok (.iastore, 1) := by decide +kernel
theorem dX12_emit_10 : decode cX12_emit 10 = .ok (.aload_n 0, 1) := by decide +kernel
theorem dX12_emit_11 : decode cX12_emit 11 = .ok (.getfield 48, 3) := by decide +kernel
theorem dX12_emit_14 : decode cX12_emit 14 = .ok (.aload_n 0, 1) := by decide +kernel
theorem dX12_emit_15 : decode cX12_emit 15 = .ok (.getfield 278, 3) := by decide +kernel
theorem dX12_emit_18 : decode cX12_emit 18 = .ok (.iload_n 2, 1) := by decide +kernel
theorem dX12_emit_19 : decode cX12_emit 19 = .ok (.iastore, 1) := by decide +kernel
theorem dX12_emit_20 : decode cX12_emit 20 = .ok (.aload_n 0, 1) := by decide +kernel
theorem dX12_emit_21 : decode cX12_emit 21 = .ok (.dup, 1) := by decide +kernel
theorem dX12_emit_22 : decode cX12_emit 22 = .ok (.getfield 278, 3) := by decide +kernel
theorem dX12_emit_25 : decode cX12_emit 25 = .ok (.iconst 1, 1) := by decide +kernel
theorem dX12_emit_26 : decode cX12_emit 26 = .ok (.iadd, 1) := by decide +kernel
theorem dX12_emit_27 : decode cX12_emit 27 = .ok (.putfield 278, 3) := by decide +kernel
theorem dX12_emit_30 : decode cX12_emit 30 = .ok (.return_, 1) := by decide +kernel
set_option maxRecDepth 20000 in
theorem rX12_emit_0 {E : EN} (hE : Ep E) {k : Nat} {mem : Mm} {Q : Mm → Prop} {p0 p1 : Int}
    (h : (0 ≤ (mem 603 23) ∧ (mem 603 23) < 400) ∧ (R32 ((mem 603 23) + 1)) ∧ Q (aUp (aUp (aUp mem 614 (mem 603 23) p0) 615 (mem 603 23) p1) 603 23 ((mem 603 23) + 1))) :
    VM E mX12_emit k mem 0 [(0, aR 603), (1, aI p0), (2, aI p1)] [] (retV Q) := by
  refine v_aload_n (pc := 0) dX12_emit_0 0 rfl ?_
  refine m_getfin (pc := 1) (v := 614) hE dX12_emit_1 flX12_45 rfl at603 rfl ?_
  refine v_aload_n (pc := 4) dX12_emit_4 0 rfl ?_
  refine m_getf (pc := 5) (t := 0) (v := (mem 603 23)) dX12_emit_5 flX12_278 rfl at603 rfl ?_
  refine v_iload_n (pc := 8) dX12_emit_8 1 rfl ?_
  obtain ⟨o1, h⟩ := h
  refine v_iast (pc := 9) dX12_emit_9 at614 o1.1 o1.2 ?_
  refine v_aload_n (pc := 10) dX12_emit_10 0 rfl ?_
  refine m_getfin (pc := 11) (v := 615) hE dX12_emit_11 flX12_48 rfl at603 rfl ?_
  refine v_aload_n (pc := 14) dX12_emit_14 0 rfl ?_
  refine m_getf (pc := 15) (t := 0) (v := (mem 603 23)) dX12_emit_15 flX12_278 rfl at603 (aUp_rn (by omega)) ?_
  refine v_iload_n (pc := 18) dX12_emit_18 2 rfl ?_
  refine v_iast (pc := 19) dX12_emit_19 at615 o1.1 o1.2 ?_
  refine v_aload_n (pc := 20) dX12_emit_20 0 rfl ?_
  refine v_dup (pc := 21) dX12_emit_21 rfl ?_
  refine m_getf (pc := 22) (t := 0) (v := (mem 603 23)) dX12_emit_22 flX12_278 rfl at603 ((aUp_rn (by omega)).trans (aUp_rn (by omega))) ?_
  refine v_iconst (pc := 25) dX12_emit_25 (by decide) ?_
  obtain ⟨o2, h⟩ := h
  refine m_iadd (pc := 26) dX12_emit_26 o2 ?_
  refine v_putf (pc := 27) dX12_emit_27 flX12_278 ⟨_, _, rfl, Or.inl rfl⟩ rfl (by decide) (fun q => nomatch q) (Or.inl fun _ => rfl) at603 ?_
  exact m_retV (pc := 30) dX12_emit_30 rfl h
theorem eX12_emit {E : EN} {k : Nat} {mem : Mm} {Q : Mm → Prop} {p0 p1 : Int} (hr_p0 : R32 p0) (hr_p1 : R32 p1) (h : VM E mX12_emit k mem 0 [(0, aR 603), (1, aI p0), (2, aI p1)] [] (retV Q)) : CV E mX12_emit k mem [aR 603, aI p0, aI p1] Q := CV_of rfl (Nat.le_of_ble_eq_true rfl) h (aNs_c (aNr_R _) (aNs_c (aNr_I hr_p0) (aNs_c (aNr_I hr_p1) (fun _ q => nomatch q))))
