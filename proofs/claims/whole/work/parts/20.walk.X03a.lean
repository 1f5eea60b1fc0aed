theorem dX3_copyFrom_0 : decode cX3_copyFrom 0 = .ok (.aload_n 0, 1) := by decide +kernel
theorem dX3_copyFrom_1 : decode cX3_copyFrom 1 = .ok (.aload_n 1, 1) := by decide +kernel
theorem dX3_copyFrom_2 : decode cX3_copyFrom 2 = .ok (.getfield 22, 3) := by decide +kernel
theorem dX3_copyFrom_5 : decode cX3_copyFrom 5 = .ok (.putfield 22, 3) := by decide +kernel
theorem dX3_copyFrom_8 : decode cX3_copyFrom 8 = .ok (.aload_n 0, 1) := by decide +kernel
theorem dX3_copyFrom_9 : decode cX3_copyFrom 9 = .ok (.aload_n 1, 1) := by decide +kernel
theorem dX3_copyFrom_10 : decode cX3_copyFrom 10 = .ok (.getfield 17, 3) := by decide +kernel
theorem dX3_copyFrom_13 : decode cX3_copyFrom 13 = .ok (.putfield 17, 3) := by decide +kernel
theorem dX3_copyFrom_16 : decode cX3_copyFrom 16 = .ok (.iconst 0, 1) := by decide +kernel
theorem dX3_copyFrom_17 : decode cX3_copyFrom 17 = .ok (.istore_n 2, 1) := by decide +kernel
theorem dX3_copyFrom_18 : decode cX3_copyFrom 18 = .ok (.iload_n 2, 1) := by decide +kernel
theorem dX3_copyFrom_19 : decode cX3_copyFrom 19 = .ok (.aload_n 0, 1) := by decide +kernel
theorem dX3_copyFrom_20 : decode cX3_copyFrom 20 = .ok (.getfield 22, 3) := by decide +kernel
theorem dX3_copyFrom_23 : decode cX3_copyFrom 23 = .ok (.if_icmp .ge 30, 3) := by decide +kernel
theorem dX3_copyFrom_26 : decode cX3_copyFrom 26 = .ok (.iload_n 2, 1) := by decide +kernel
theorem dX3_copyFrom_27 : decode cX3_copyFrom 27 = .ok (.bipush 6, 2) := by decide +kernel
theorem dX3_copyFrom_29 : decode cX3_copyFrom 29 = .ok (.if_icmp .ge 24, 3) := by decide +kernel
theorem dX3_copyFrom_32 : decode cX3_copyFrom 32 = .ok (.aload_n 0, 1) := by decide +kernel
theorem dX3_copyFrom_33 : decode cX3_copyFrom 33 = .ok (.getfield 11, 3) := by decide +kernel
theorem dX3_copyFrom_36 : decode cX3_copyFrom 36 = .ok (.iload_n 2, 1) := by decide +kernel
theorem dX3_copyFrom_37 : decode cX3_copyFrom 37 = .ok (.aaload, 1) := by decide +kernel
theorem dX3_copyFrom_38 : decode cX3_copyFrom 38 = .ok (.aload_n 1, 1) := by decide +kernel
theorem dX3_copyFrom_39 : decode cX3_copyFrom 39 = .ok (.getfield 11, 3) := by decide +kernel
theorem dX3_copyFrom_42 : decode cX3_copyFrom 42 = .ok (.iload_n 2, 1) := by decide +kernel
theorem dX3_copyFrom_43 : decode cX3_copyFrom 43 = .ok (.aaload, 1) := by decide +kernel
theorem dX3_copyFrom_44 : decode cX3_copyFrom 44 = .ok (.invokevirtual 25, 3) := by decide +kernel
theorem dX3_copyFrom_47 : decode cX3_copyFrom 47 = .ok (.iinc 2 1, 3) := by decide +kernel
theorem dX3_copyFrom_50 : decode cX3_copyFrom 50 = .ok (.goto (-32), 3) := by decide +kernel
theorem dX3_copyFrom_53 : decode cX3_copyFrom 53 = .ok (.return_, 1) := by decide +kernel
set_option maxRecDepth 20000 in
theorem rX3_copyFrom_0 {E : EN} (hE : Ep E) {k : Nat} {mem : Mm} {Q : Mm → Prop} {y p0 : Int} (hy : isLw y) (hp0 : isLw p0)
    (h : VM E mX3_copyFrom (k + 1) (aUp (aUp mem y 1 (mem p0 1)) y 2 ((aUp mem y 1 (mem p0 1)) p0 2)) 18 [(0, aR y), (1, aR p0), (2, aI 0)] [] (retV Q)) :
    VM E mX3_copyFrom (k + 1) mem 0 [(0, aR y), (1, aR p0)] [] (retV Q) := by
  refine v_aload_n (pc := 0) dX3_copyFrom_0 0 rfl ?_
  refine v_aload_n (pc := 1) dX3_copyFrom_1 1 rfl ?_
  refine m_getf (pc := 2) (t := 0) (v := (mem p0 1)) dX3_copyFrom_2 flX3_22 rfl (lw0 hp0) rfl ?_
  refine v_putf (pc := 5) dX3_copyFrom_5 flX3_22 ⟨_, _, rfl, Or.inl rfl⟩ rfl (by decide) (fun q => nomatch q) (Or.inl fun _ => rfl) (lw0 hy) ?_
  refine v_aload_n (pc := 8) dX3_copyFrom_8 0 rfl ?_
  refine v_aload_n (pc := 9) dX3_copyFrom_9 1 rfl ?_
  refine m_getf (pc := 10) (t := 0) (v := ((aUp mem y 1 (mem p0 1)) p0 2)) dX3_copyFrom_10 flX3_17 rfl (lw0 hp0) rfl ?_
  refine v_putf (pc := 13) dX3_copyFrom_13 flX3_17 ⟨_, _, rfl, Or.inl rfl⟩ rfl (by decide) (fun q => nomatch q) (Or.inl fun _ => rfl) (lw0 hy) ?_
  refine v_iconst (pc := 16) dX3_copyFrom_16 (by decide) ?_
  refine v_istore_n (pc := 17) (al2 := [(2, aI 0), (0, aR y), (1, aR p0)]) dX3_copyFrom_17 (by decide) rfl ?_
  exact VG_sub (al' := [(0, aR y), (1, aR p0), (2, aI 0)]) [1, 2, 0] rfl h
theorem eX3_copyFrom {E : EN} {k : Nat} {mem : Mm} {Q : Mm → Prop} {y p0 : Int}  (h : VM E mX3_copyFrom (k + 1) mem 0 [(0, aR y), (1, aR p0)] [] (retV Q)) : CV E mX3_copyFrom (k + 1) mem [aR y, aR p0] Q := CV_of rfl (Nat.le_of_ble_eq_true rfl) h (aNs_c (aNr_R _) (aNs_c (aNr_R _) (fun _ q => nomatch q)))
set_option maxRecDepth 20000 in
theorem rX3_copyFrom_18 {E : EN} (hE : Ep E) {k : Nat} {mem : Mm} {Q : Mm → Prop} {y p0 x2 : Int} (hy : isLw y) (hp0 : isLw p0)
    (h : (((mem y 1) ≤ x2 → Q mem) ∧ (x2 < (mem y 1) → ((6 ≤ x2 → Q mem) ∧ (x2 < 6 → (0 ≤ x2 ∧ x2 < 6) ∧ (isTx ((y + 1) + 1 + 9 * x2)) ∧ (CV E mX9_copyFrom k mem [aR ((y + 1) + 1 + 9 * x2), aR ((p0 + 1) + 1 + 9 * x2)] (fun m3 => (R32 (x2 + 1)) ∧ VM E mX3_copyFrom (k + 1) m3 18 [(0, aR y), (1, aR p0), (2, aI (x2 + 1))] [] (retV Q)))))))) :
    VM E mX3_copyFrom (k + 1) mem 18 [(0, aR y), (1, aR p0), (2, aI x2)] [] (retV Q) := by
  refine v_iload_n (pc := 18) dX3_copyFrom_18 2 rfl ?_
  refine v_aload_n (pc := 19) dX3_copyFrom_19 0 rfl ?_
  refine m_getf (pc := 20) (t := 0) (v := (mem y 1)) dX3_copyFrom_20 flX3_22 rfl (lw0 hy) rfl ?_
  refine v_icmpge (pc := 23) (tgt := 53) dX3_copyFrom_23 (by decide) (fun c1 => ?_) (fun c1 => ?_)
  · have h := h.1 c1
    exact m_retV (pc := 53) dX3_copyFrom_53 rfl h
  · have h := h.2 c1
    refine v_iload_n (pc := 26) dX3_copyFrom_26 2 rfl ?_
    refine v_bipush (pc := 27) dX3_copyFrom_27 (by decide) ?_
    refine v_icmpge (pc := 29) (tgt := 53) dX3_copyFrom_29 (by decide) (fun c1 => ?_) (fun c1 => ?_)
    · have h := h.1 c1
      exact m_retV (pc := 53) dX3_copyFrom_53 rfl h
    · have h := h.2 c1
      refine v_aload_n (pc := 32) dX3_copyFrom_32 0 rfl ?_
      refine m_getfin (pc := 33) (v := (y + 1)) hE dX3_copyFrom_33 flX3_11 rfl (lw0 hy) rfl ?_
      refine v_iload_n (pc := 36) dX3_copyFrom_36 2 rfl ?_
      obtain ⟨o1, h⟩ := h
      refine m_aald17 (pc := 37) hE dX3_copyFrom_37 (lw1 hy) o1.1 o1.2 ?_
      refine v_aload_n (pc := 38) dX3_copyFrom_38 1 rfl ?_
      refine m_getfin (pc := 39) (v := (p0 + 1)) hE dX3_copyFrom_39 flX3_11 rfl (lw0 hp0) rfl ?_
      refine v_iload_n (pc := 42) dX3_copyFrom_42 2 rfl ?_
      refine m_aald17 (pc := 43) hE dX3_copyFrom_43 (lw1 hp0) o1.1 o1.2 ?_
      obtain ⟨o2, h⟩ := h
      refine m_invV (pc := 44) (mi' := mX9_copyFrom) (rest := []) [aR ((p0 + 1) + 1 + 9 * x2)] dX3_copyFrom_44 (tx0 o2) (by decide) rfl msX9_copyFrom mvX9_copyFrom lkX3_25 rfl (Nat.le_of_ble_eq_true rfl) (fun hn => CV_mono (h) (fun m3 h => ?_))
      obtain ⟨o4, h⟩ := h
      refine m_iinc (pc := 47) (al2 := [(2, aI (x2 + 1)), (0, aR y), (1, aR p0)]) dX3_copyFrom_47 2 rfl (by decide) o4 rfl ?_
      refine v_goto (pc := 50) (tgt := 18) dX3_copyFrom_50 (by decide) ?_
      exact VG_sub (al' := [(0, aR y), (1, aR p0), (2, aI (x2 + 1))]) [1, 2, 0] rfl h

theorem dX3_has_0 : decode cX3_has 0 = .ok (.iload_n 1, 1) := by decide +kernel
theorem dX3_has_1 : decode cX3_has 1 = .ok (.ifCond .lt 21, 3) := by decide +kernel
theorem dX3_has_4 : decode cX3_has 4 = .ok (.iload_n 1, 1) := by decide +kernel
theorem dX3_has_5 : decode cX3_has 5 = .ok (.aload_n 0, 1) := by decide +kernel
theorem dX3_has_6 : decode cX3_has 6 = .ok (.getfield 22, 3) := by decide +kernel
theorem dX3_has_9 : decode cX3_has 9 = .ok (.if_icmp .ge 13, 3) := by decide +kernel
theorem dX3_has_12 : decode cX3_has 12 = .ok (.iload_n 1, 1) := by decide +kernel
theorem dX3_has_13 : decode cX3_has 13 = .ok (.bipush 6, 2) := by decide +kernel
theorem dX3_has_15 : decode cX3_has 15 = .ok (.if_icmp .ge 7, 3) := by decide +kernel
theorem dX3_has_18 : decode cX3_has 18 = .ok (.iconst 1, 1) := by decide +kernel
theorem dX3_has_19 : decode cX3_has 19 = .ok (.goto 4, 3) := by decide +kernel
theorem dX3_has_22 : decode cX3_has 22 = .ok (.iconst 0, 1) := by decide +kernel
theorem dX3_has_23 : decode cX3_has 23 = .ok (.ireturn, 1) := by decide +kernel
set_option maxRecDepth 20000 in
theorem rX3_has_0 {E : EN} (hE : Ep E) {k : Nat} {mem : Mm} {Q : Int → Mm → Prop} {y p0 : Int} (hy : isLw y)
    (h : ((p0 < 0 → Q 0 mem) ∧ (0 ≤ p0 → (((mem y 1) ≤ p0 → Q 0 mem) ∧ (p0 < (mem y 1) → ((6 ≤ p0 → Q 0 mem) ∧ (p0 < 6 → Q 1 mem))))))) :
    VM E mX3_has k mem 0 [(0, aR y), (1, aI p0)] [] (retI Q) := by
  refine v_iload_n (pc := 0) dX3_has_0 1 rfl ?_
  refine v_iflt (pc := 1) (tgt := 22) dX3_has_1 (by decide) (fun c1 => ?_) (fun c1 => ?_)
  · have h := h.1 c1
    refine v_iconst (pc := 22) dX3_has_22 (by decide) ?_
    exact m_retZ (pc := 23) dX3_has_23 rfl (by decide) h
  · have h := h.2 c1
    refine v_iload_n (pc := 4) dX3_has_4 1 rfl ?_
    refine v_aload_n (pc := 5) dX3_has_5 0 rfl ?_
    refine m_getf (pc := 6) (t := 0) (v := (mem y 1)) dX3_has_6 flX3_22 rfl (lw0 hy) rfl ?_
    refine v_icmpge (pc := 9) (tgt := 22) dX3_has_9 (by decide) (fun c1 => ?_) (fun c1 => ?_)
    · have h := h.1 c1
      refine v_iconst (pc := 22) dX3_has_22 (by decide) ?_
      exact m_retZ (pc := 23) dX3_has_23 rfl (by decide) h
    · have h := h.2 c1
      refine v_iload_n (pc := 12) dX3_has_12 1 rfl ?_
      refine v_bipush (pc := 13) dX3_has_13 (by decide) ?_
      refine v_icmpge (pc := 15) (tgt := 22) dX3_has_15 (by decide) (fun c1 => ?_) (fun c1 => ?_)
      · have h := h.1 c1
        refine v_iconst (pc := 22) dX3_has_22 (by decide) ?_
        exact m_retZ (pc := 23) dX3_has_23 rfl (by decide) h
      · have h := h.2 c1
        refine v_iconst (pc := 18) dX3_has_18 (by decide) ?_
        refine v_goto (pc := 19) (tgt := 23) dX3_has_19 (by decide) ?_
        exact m_retZ (pc := 23) dX3_has_23 rfl (by decide) h
theorem eX3_has {E : EN} {k : Nat} {mem : Mm} {Q : Int → Mm → Prop} {y p0 : Int} (hr_p0 : R32 p0) (h : VM E mX3_has k mem 0 [(0, aR y), (1, aI p0)] [] (retI Q)) : CI E mX3_has k mem [aR y, aI p0] Q := CI_of rfl (Nat.le_of_ble_eq_true rfl) h (aNs_c (aNr_R _) (aNs_c (aNr_I hr_p0) (fun _ q => nomatch q)))

theorem dX3_numbered_0 : decode cX3_numbered 0 = .ok (.aload_n 0, 1) := by decide +kernel
theorem dX3_numbered_1 : decode cX3_numbered 1 = .ok (.iload_n 1, 1) := by decide +kernel
theorem dX3_numbered_2 : decode cX3_numbered 2 = .ok (.invokevirtual 29, 3) := by decide +kernel
theorem dX3_numbered_5 : decode cX3_numbered 5 = .ok (.ifCond .eq 12, 3) := by decide +kernel
theorem dX3_numbered_8 : decode cX3_numbered 8 = .ok (.aload_n 0, 1) := by decide +kernel
theorem dX3_numbered_9 : decode cX3_numbered 9 = .ok (.getfield 11, 3) := by decide +kernel
theorem dX3_numbered_12 : decode cX3_numbered 12 = .ok (.iload_n 1, 1) := by decide +kernel
theorem dX3_numbered_13 : decode cX3_numbered 13 = .ok (.aaload, 1) := by decide +kernel
theorem dX3_numbered_14 : decode cX3_numbered 14 = .ok (.goto 4, 3) := by decide +kernel
theorem dX3_numbered_17 : decode cX3_numbered 17 = .ok (.aconst_null, 1) := by decide +kernel
theorem dX3_numbered_18 : decode cX3_numbered 18 = .ok (.areturn, 1) := by decide +kernel
set_option maxRecDepth 20000 in
theorem rX3_numbered_0 {E : EN} (hE : Ep E) {k : Nat} {mem : Mm} {Q : Int → Mm → Prop} {y p0 : Int} (hy : isLw y)
    (h : (R32 p0 → CI E mX3_has k mem [aR y, aI p0] (fun r2 m1 => ((r2 = 0 → Q (-1) m1) ∧ (¬ r2 = 0 → (0 ≤ p0 ∧ p0 < 6) ∧ Q ((y + 1) + 1 + 9 * p0) m1))))) :
    VM E mX3_numbered (k + 1) mem 0 [(0, aR y), (1, aI p0)] [] (retR Q) := by
  refine v_aload_n (pc := 0) dX3_numbered_0 0 rfl ?_
  refine v_iload_n (pc := 1) dX3_numbered_1 1 rfl ?_
  refine m_invI (pc := 2) (mi' := mX3_has) (rest := []) [aI p0] dX3_numbered_2 (lw0 hy) (by decide) rfl msX3_has mvX3_has lkX3_29 rfl (Nat.le_of_ble_eq_true rfl) (fun hn => CI_mono (h (aaI hn 1 rfl)) (fun r2 m1 h => ?_))
  refine v_ifeq (pc := 5) (tgt := 17) dX3_numbered_5 (by decide) (fun c1 => ?_) (fun c1 => ?_)
  · have h := h.1 c1
    refine v_null (pc := 17) dX3_numbered_17 ?_
    exact m_retR (pc := 18) dX3_numbered_18 rfl h
  · have h := h.2 c1
    refine v_aload_n (pc := 8) dX3_numbered_8 0 rfl ?_
    refine m_getfin (pc := 9) (v := (y + 1)) hE dX3_numbered_9 flX3_11 rfl (lw0 hy) rfl ?_
    refine v_iload_n (pc := 12) dX3_numbered_12 1 rfl ?_
    obtain ⟨o3, h⟩ := h
    refine m_aald17 (pc := 13) hE dX3_numbered_13 (lw1 hy) o3.1 o3.2 ?_
    refine v_goto (pc := 14) (tgt := 18) dX3_numbered_14 (by decide) ?_
    exact m_retR (pc := 18) dX3_numbered_18 rfl h
theorem eX3_numbered {E : EN} {k : Nat} {mem : Mm} {Q : Int → Mm → Prop} {y p0 : Int} (hr_p0 : R32 p0) (h : VM E mX3_numbered (k + 1) mem 0 [(0, aR y), (1, aI p0)] [] (retR Q)) : CR E mX3_numbered (k + 1) mem [aR y, aI p0] Q := CR_of rfl (Nat.le_of_ble_eq_true rfl) h (aNs_c (aNr_R _) (aNs_c (aNr_I hr_p0) (fun _ q => nomatch q)))

theorem dX3_next_0 : decode cX3_next 0 = .ok (.aload_n 0, 1) := by decide +kernel
theorem dX3_next_1 : decode cX3_next 1 = .ok (.getfield 22, 3) := by decide +kernel
theorem dX3_next_4 : decode cX3_next 4 = .ok (.ifCond .lt 24, 3) := by decide +kernel
theorem dX3_next_7 : decode cX3_next 7 = .ok (.aload_n 0, 1) := by decide +kernel
theorem dX3_next_8 : decode cX3_next 8 = .ok (.getfield 22, 3) := by decide +kernel
theorem dX3_next_11 : decode cX3_next 11 = .ok (.bipush 6, 2) := by decide +kernel
theorem dX3_next_13 : decode cX3_next 13 = .ok (.if_icmp .ge 15, 3) := by decide +kernel
theorem dX3_next_16 : decode cX3_next 16 = .ok (.aload_n 0, 1) := by decide +kernel
theorem dX3_next_17 : decode cX3_next 17 = .ok (.getfield 11, 3) := by decide +kernel
theorem dX3_next_20 : decode cX3_next 20 = .ok (.aload_n 0, 1) := by decide +kernel
theorem dX3_next_21 : decode cX3_next 21 = .ok (.getfield 22, 3) := by decide +kernel
theorem dX3_next_24 : decode cX3_next 24 = .ok (.aaload, 1) := by decide +kernel
theorem dX3_next_25 : decode cX3_next 25 = .ok (.goto 4, 3) := by decide +kernel
theorem dX3_next_28 : decode cX3_next 28 = .ok (.aconst_null, 1) := by decide +kernel
theorem dX3_next_29 : decode cX3_next 29 = .ok (.areturn, 1) := by decide +kernel
set_option maxRecDepth 20000 in
theorem rX3_next_0 {E : EN} (hE : Ep E) {k : Nat} {mem : Mm} {Q : Int → Mm → Prop} {y : Int} (hy : isLw y)
    (h : (((mem y 1) < 0 → Q (-1) mem) ∧ (0 ≤ (mem y 1) → ((6 ≤ (mem y 1) → Q (-1) mem) ∧ ((mem y 1) < 6 → (0 ≤ (mem y 1) ∧ (mem y 1) < 6) ∧ Q ((y + 1) + 1 + 9 * (mem y 1)) mem))))) :
    VM E mX3_next k mem 0 [(0, aR y)] [] (retR Q) := by
  refine v_aload_n (pc := 0) dX3_next_0 0 rfl ?_
  refine m_getf (pc := 1) (t := 0) (v := (mem y 1)) dX3_next_1 flX3_22 rfl (lw0 hy) rfl ?_
  refine v_iflt (pc := 4) (tgt := 28) dX3_next_4 (by decide) (fun c1 => ?_) (fun c1 => ?_)
  · have h := h.1 c1
    refine v_null (pc := 28) dX3_next_28 ?_
    exact m_retR (pc := 29) dX3_next_29 rfl h
  · have h := h.2 c1
    refine v_aload_n (pc := 7) dX3_next_7 0 rfl ?_
    refine m_getf (pc := 8) (t := 0) (v := (mem y 1)) dX3_next_8 flX3_22 rfl (lw0 hy) rfl ?_
    refine v_bipush (pc := 11) dX3_next_11 (by decide) ?_
    refine v_icmpge (pc := 13) (tgt := 28) dX3_next_13 (by decide) (fun c1 => ?_) (fun c1 => ?_)
    · have h := h.1 c1
      refine v_null (pc := 28) dX3_next_28 ?_
      exact m_retR (pc := 29) dX3_next_29 rfl h
    · have h := h.2 c1
      refine v_aload_n (pc := 16) dX3_next_16 0 rfl ?_
      refine m_getfin (pc := 17) (v := (y + 1)) hE dX3_next_17 flX3_11 rfl (lw0 hy) rfl ?_
      refine v_aload_n (pc := 20) dX3_next_20 0 rfl ?_
      refine m_getf (pc := 21) (t := 0) (v := (mem y 1)) dX3_next_21 flX3_22 rfl (lw0 hy) rfl ?_
      obtain ⟨o1, h⟩ := h
      refine m_aald17 (pc := 24) hE dX3_next_24 (lw1 hy) o1.1 o1.2 ?_
      refine v_goto (pc := 25) (tgt := 29) dX3_next_25 (by decide) ?_
      exact m_retR (pc := 29) dX3_next_29 rfl h
theorem eX3_next {E : EN} {k : Nat} {mem : Mm} {Q : Int → Mm → Prop} {y : Int}  (h : VM E mX3_next k mem 0 [(0, aR y)] [] (retR Q)) : CR E mX3_next k mem [aR y] Q := CR_of rfl (Nat.le_of_ble_eq_true rfl) h (aNs_c (aNr_R _) (fun _ q => nomatch q))
