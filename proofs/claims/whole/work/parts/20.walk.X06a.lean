theorem dX6_copyFrom_0 : decode cX6_copyFrom 0 = .ok (.aload_n 0, 1) := by decide +kernel
theorem dX6_copyFrom_1 : decode cX6_copyFrom 1 = .ok (.aload_n 1, 1) := by decide +kernel
theorem dX6_copyFrom_2 : decode cX6_copyFrom 2 = .ok (.getfield 22, 3) := by decide +kernel
theorem dX6_copyFrom_5 : decode cX6_copyFrom 5 = .ok (.putfield 22, 3) := by decide +kernel
theorem dX6_copyFrom_8 : decode cX6_copyFrom 8 = .ok (.iconst 0, 1) := by decide +kernel
theorem dX6_copyFrom_9 : decode cX6_copyFrom 9 = .ok (.istore_n 2, 1) := by decide +kernel
theorem dX6_copyFrom_10 : decode cX6_copyFrom 10 = .ok (.iload_n 2, 1) := by decide +kernel
theorem dX6_copyFrom_11 : decode cX6_copyFrom 11 = .ok (.aload_n 0, 1) := by decide +kernel
theorem dX6_copyFrom_12 : decode cX6_copyFrom 12 = .ok (.getfield 22, 3) := by decide +kernel
theorem dX6_copyFrom_15 : decode cX6_copyFrom 15 = .ok (.if_icmp .ge 42, 3) := by decide +kernel
theorem dX6_copyFrom_18 : decode cX6_copyFrom 18 = .ok (.iload_n 2, 1) := by decide +kernel
theorem dX6_copyFrom_19 : decode cX6_copyFrom 19 = .ok (.bipush 16, 2) := by decide +kernel
theorem dX6_copyFrom_21 : decode cX6_copyFrom 21 = .ok (.if_icmp .ge 36, 3) := by decide +kernel
theorem dX6_copyFrom_24 : decode cX6_copyFrom 24 = .ok (.aload_n 0, 1) := by decide +kernel
theorem dX6_copyFrom_25 : decode cX6_copyFrom 25 = .ok (.getfield 11, 3) := by decide +kernel
theorem dX6_copyFrom_28 : decode cX6_copyFrom 28 = .ok (.iload_n 2, 1) := by decide +kernel
theorem dX6_copyFrom_29 : decode cX6_copyFrom 29 = .ok (.aaload, 1) := by decide +kernel
theorem dX6_copyFrom_30 : decode cX6_copyFrom 30 = .ok (.aload_n 1, 1) := by decide +kernel
theorem dX6_copyFrom_31 : decode cX6_copyFrom 31 = .ok (.getfield 11, 3) := by decide +kernel
theorem dX6_copyFrom_34 : decode cX6_copyFrom 34 = .ok (.iload_n 2, 1) := by decide +kernel
theorem dX6_copyFrom_35 : decode cX6_copyFrom 35 = .ok (.aaload, 1) := by decide +kernel
theorem dX6_copyFrom_36 : decode cX6_copyFrom 36 = .ok (.invokevirtual 26, 3) := by decide +kernel
theorem dX6_copyFrom_39 : decode cX6_copyFrom 39 = .ok (.aload_n 0, 1) := by decide +kernel
theorem dX6_copyFrom_40 : decode cX6_copyFrom 40 = .ok (.getfield 17, 3) := by decide +kernel
theorem dX6_copyFrom_43 : decode cX6_copyFrom 43 = .ok (.iload_n 2, 1) := by decide +kernel
theorem dX6_copyFrom_44 : decode cX6_copyFrom 44 = .ok (.aload_n 1, 1) := by decide +kernel
theorem dX6_copyFrom_45 : decode cX6_copyFrom 45 = .ok (.getfield 17, 3) := by decide +kernel
theorem dX6_copyFrom_48 : decode cX6_copyFrom 48 = .ok (.iload_n 2, 1) := by decide +kernel
theorem dX6_copyFrom_49 : decode cX6_copyFrom 49 = .ok (.iaload, 1) := by decide +kernel
theorem dX6_copyFrom_50 : decode cX6_copyFrom 50 = .ok (.iastore, 1) := by decide +kernel
theorem dX6_copyFrom_51 : decode cX6_copyFrom 51 = .ok (.iinc 2 1, 3) := by decide +kernel
theorem dX6_copyFrom_54 : decode cX6_copyFrom 54 = .ok (.goto (-44), 3) := by decide +kernel
theorem dX6_copyFrom_57 : decode cX6_copyFrom 57 = .ok (.return_, 1) := by decide +kernel
set_option maxRecDepth 20000 in
theorem rX6_copyFrom_0 {E : EN} (hE : Ep E) {k : Nat} {mem : Mm} {Q : Mm → Prop} {y p0 : Int} (hy : isPt y) (hp0 : isPt p0)
    (h : VM E mX6_copyFrom (k + 1) (aUp mem y 2 (mem p0 2)) 10 [(0, aR y), (1, aR p0), (2, aI 0)] [] (retV Q)) :
    VM E mX6_copyFrom (k + 1) mem 0 [(0, aR y), (1, aR p0)] [] (retV Q) := by
  refine v_aload_n (pc := 0) dX6_copyFrom_0 0 rfl ?_
  refine v_aload_n (pc := 1) dX6_copyFrom_1 1 rfl ?_
  refine m_getf (pc := 2) (t := 0) (v := (mem p0 2)) dX6_copyFrom_2 flX6_22 rfl (pt0 hp0) rfl ?_
  refine v_putf (pc := 5) dX6_copyFrom_5 flX6_22 ⟨_, _, rfl, Or.inl rfl⟩ rfl (by decide) (fun q => nomatch q) (Or.inl fun _ => rfl) (pt0 hy) ?_
  refine v_iconst (pc := 8) dX6_copyFrom_8 (by decide) ?_
  refine v_istore_n (pc := 9) (al2 := [(2, aI 0), (0, aR y), (1, aR p0)]) dX6_copyFrom_9 (by decide) rfl ?_
  exact VG_sub (al' := [(0, aR y), (1, aR p0), (2, aI 0)]) [1, 2, 0] rfl h
theorem eX6_copyFrom {E : EN} {k : Nat} {mem : Mm} {Q : Mm → Prop} {y p0 : Int}  (h : VM E mX6_copyFrom (k + 1) mem 0 [(0, aR y), (1, aR p0)] [] (retV Q)) : CV E mX6_copyFrom (k + 1) mem [aR y, aR p0] Q := CV_of rfl (Nat.le_of_ble_eq_true rfl) h (aNs_c (aNr_R _) (aNs_c (aNr_R _) (fun _ q => nomatch q)))
set_option maxRecDepth 20000 in
theorem rX6_copyFrom_10 {E : EN} (hE : Ep E) {k : Nat} {mem : Mm} {Q : Mm → Prop} {y p0 x2 : Int} (hy : isPt y) (hp0 : isPt p0)
    (h : (((mem y 2) ≤ x2 → Q mem) ∧ (x2 < (mem y 2) → ((16 ≤ x2 → Q mem) ∧ (x2 < 16 → (0 ≤ x2 ∧ x2 < 16) ∧ (isYd (mem (y + 1) x2)) ∧ (CV E mX10_copyFrom k mem [aR (mem (y + 1) x2), aR (mem (p0 + 1) x2)] (fun m3 => (R32 (x2 + 1)) ∧ VM E mX6_copyFrom (k + 1) (aUp m3 (y + 2) x2 (m3 (p0 + 2) x2)) 10 [(0, aR y), (1, aR p0), (2, aI (x2 + 1))] [] (retV Q)))))))) :
    VM E mX6_copyFrom (k + 1) mem 10 [(0, aR y), (1, aR p0), (2, aI x2)] [] (retV Q) := by
  refine v_iload_n (pc := 10) dX6_copyFrom_10 2 rfl ?_
  refine v_aload_n (pc := 11) dX6_copyFrom_11 0 rfl ?_
  refine m_getf (pc := 12) (t := 0) (v := (mem y 2)) dX6_copyFrom_12 flX6_22 rfl (pt0 hy) rfl ?_
  refine v_icmpge (pc := 15) (tgt := 57) dX6_copyFrom_15 (by decide) (fun c1 => ?_) (fun c1 => ?_)
  · have h := h.1 c1
    exact m_retV (pc := 57) dX6_copyFrom_57 rfl h
  · have h := h.2 c1
    refine v_iload_n (pc := 18) dX6_copyFrom_18 2 rfl ?_
    refine v_bipush (pc := 19) dX6_copyFrom_19 (by decide) ?_
    refine v_icmpge (pc := 21) (tgt := 57) dX6_copyFrom_21 (by decide) (fun c1 => ?_) (fun c1 => ?_)
    · have h := h.1 c1
      exact m_retV (pc := 57) dX6_copyFrom_57 rfl h
    · have h := h.2 c1
      refine v_aload_n (pc := 24) dX6_copyFrom_24 0 rfl ?_
      refine m_getfin (pc := 25) (v := (y + 1)) hE dX6_copyFrom_25 flX6_11 rfl (pt0 hy) rfl ?_
      refine v_iload_n (pc := 28) dX6_copyFrom_28 2 rfl ?_
      obtain ⟨o1, h⟩ := h
      refine m_aald18 (pc := 29) (v := (mem (y + 1) x2)) dX6_copyFrom_29 (pt1 hy) o1.1 o1.2 rfl ?_
      refine v_aload_n (pc := 30) dX6_copyFrom_30 1 rfl ?_
      refine m_getfin (pc := 31) (v := (p0 + 1)) hE dX6_copyFrom_31 flX6_11 rfl (pt0 hp0) rfl ?_
      refine v_iload_n (pc := 34) dX6_copyFrom_34 2 rfl ?_
      refine m_aald18 (pc := 35) (v := (mem (p0 + 1) x2)) dX6_copyFrom_35 (pt1 hp0) o1.1 o1.2 rfl ?_
      obtain ⟨o2, h⟩ := h
      refine m_invV (pc := 36) (mi' := mX10_copyFrom) (rest := []) [aR (mem (p0 + 1) x2)] dX6_copyFrom_36 (yd0 o2) (by decide) rfl msX10_copyFrom mvX10_copyFrom lkX6_26 rfl (Nat.le_of_ble_eq_true rfl) (fun hn => CV_mono (h) (fun m3 h => ?_))
      refine v_aload_n (pc := 39) dX6_copyFrom_39 0 rfl ?_
      refine m_getfin (pc := 40) (v := (y + 2)) hE dX6_copyFrom_40 flX6_17 rfl (pt0 hy) rfl ?_
      refine v_iload_n (pc := 43) dX6_copyFrom_43 2 rfl ?_
      refine v_aload_n (pc := 44) dX6_copyFrom_44 1 rfl ?_
      refine m_getfin (pc := 45) (v := (p0 + 2)) hE dX6_copyFrom_45 flX6_17 rfl (pt0 hp0) rfl ?_
      refine v_iload_n (pc := 48) dX6_copyFrom_48 2 rfl ?_
      refine m_iald (pc := 49) (v := (m3 (p0 + 2) x2)) dX6_copyFrom_49 (pt2 hp0) o1.1 o1.2 rfl ?_
      refine v_iast (pc := 50) dX6_copyFrom_50 (pt2 hy) o1.1 o1.2 ?_
      obtain ⟨o4, h⟩ := h
      refine m_iinc (pc := 51) (al2 := [(2, aI (x2 + 1)), (0, aR y), (1, aR p0)]) dX6_copyFrom_51 2 rfl (by decide) o4 rfl ?_
      refine v_goto (pc := 54) (tgt := 10) dX6_copyFrom_54 (by decide) ?_
      exact VG_sub (al' := [(0, aR y), (1, aR p0), (2, aI (x2 + 1))]) [1, 2, 0] rfl h

theorem dX6_keep_0 : decode cX6_keep 0 = .ok (.aload_n 0, 1) := by decide +kernel
theorem dX6_keep_1 : decode cX6_keep 1 = .ok (.getfield 22, 3) := by decide +kernel
theorem dX6_keep_4 : decode cX6_keep 4 = .ok (.bipush 16, 2) := by decide +kernel
theorem dX6_keep_6 : decode cX6_keep 6 = .ok (.if_icmp .lt 7, 3) := by decide +kernel
theorem dX6_keep_9 : decode cX6_keep 9 = .ok (.aload_n 0, 1) := by decide +kernel
theorem dX6_keep_10 : decode cX6_keep 10 = .ok (.invokevirtual 30, 3) := by decide +kernel
theorem dX6_keep_13 : decode cX6_keep 13 = .ok (.aload_n 0, 1) := by decide +kernel
theorem dX6_keep_14 : decode cX6_keep 14 = .ok (.getfield 11, 3) := by decide +kernel
theorem dX6_keep_17 : decode cX6_keep 17 = .ok (.aload_n 0, 1) := by decide +kernel
theorem dX6_keep_18 : decode cX6_keep 18 = .ok (.getfield 22, 3) := by decide +kernel
theorem dX6_keep_21 : decode cX6_keep 21 = .ok (.aaload, 1) := by decide +kernel
theorem dX6_keep_22 : decode cX6_keep 22 = .ok (.aload_n 1, 1) := by decide +kernel
theorem dX6_keep_23 : decode cX6_keep 23 = .ok (.invokevirtual 26, 3) := by decide +kernel
theorem dX6_keep_26 : decode cX6_keep 26 = .ok (.aload_n 0, 1) := by decide +kernel
theorem dX6_keep_27 : decode cX6_keep 27 = .ok (.getfield 17, 3) := by decide +kernel
theorem dX6_keep_30 : decode cX6_keep 30 = .ok (.aload_n 0, 1) := by decide +kernel
theorem dX6_keep_31 : decode cX6_keep 31 = .ok (.getfield 22, 3) := by decide +kernel
theorem dX6_keep_34 : decode cX6_keep 34 = .ok (.iload_n 2, 1) := by decide +kernel
theorem dX6_keep_35 : decode cX6_keep 35 = .ok (.iastore, 1) := by decide +kernel
theorem dX6_keep_36 : decode cX6_keep 36 = .ok (.aload_n 0, 1) := by decide +kernel
theorem dX6_keep_37 : decode cX6_keep 37 = .ok (.dup, 1) := by decide +kernel
theorem dX6_keep_38 : decode cX6_keep 38 = .ok (.getfield 22, 3) := by decide +kernel
theorem dX6_keep_41 : decode cX6_keep 41 = .ok (.iconst 1, 1) := by decide +kernel
theorem dX6_keep_42 : decode cX6_keep 42 = .ok (.iadd, 1) := by decide +kernel
theorem dX6_keep_43 : decode cX6_keep 43 = .ok (.putfield 22, 3) := by decide +kernel
theorem dX6_keep_46 : decode cX6_keep 46 = .ok (.return_, 1) := by decide +kernel
set_option maxRecDepth 20000 in
theorem rX6_keep_0 {E : EN} (hE : Ep E) {k : Nat} {mem : Mm} {Q : Mm → Prop} {y p0 p1 : Int} (hy : isPt y) (hp0 : isYd p0)
    (h : (((mem y 2) < 16 → (0 ≤ (mem y 2) ∧ (mem y 2) < 16) ∧ (isYd (mem (y + 1) (mem y 2))) ∧ (CV E mX10_copyFrom k mem [aR (mem (y + 1) (mem y 2)), aR p0] (fun m3 => (0 ≤ (m3 y 2) ∧ (m3 y 2) < 16) ∧ (R32 ((m3 y 2) + 1)) ∧ Q (aUp (aUp m3 (y + 2) (m3 y 2) p1) y 2 ((m3 y 2) + 1))))) ∧ (16 ≤ (mem y 2) → (CV E mX6_dropOldest k mem [aR y] (fun m6 => (0 ≤ (m6 y 2) ∧ (m6 y 2) < 16) ∧ (isYd (m6 (y + 1) (m6 y 2))) ∧ (CV E mX10_copyFrom k m6 [aR (m6 (y + 1) (m6 y 2)), aR p0] (fun m9 => (0 ≤ (m9 y 2) ∧ (m9 y 2) < 16) ∧ (R32 ((m9 y 2) + 1)) ∧ Q (aUp (aUp m9 (y + 2) (m9 y 2) p1) y 2 ((m9 y 2) + 1))))))))) :
    VM E mX6_keep (k + 1) mem 0 [(0, aR y), (1, aR p0), (2, aI p1)] [] (retV Q) := by
  refine v_aload_n (pc := 0) dX6_keep_0 0 rfl ?_
  refine m_getf (pc := 1) (t := 0) (v := (mem y 2)) dX6_keep_1 flX6_22 rfl (pt0 hy) rfl ?_
  refine v_bipush (pc := 4) dX6_keep_4 (by decide) ?_
  refine v_icmplt (pc := 6) (tgt := 13) dX6_keep_6 (by decide) (fun c1 => ?_) (fun c1 => ?_)
  · have h := h.1 c1
    refine v_aload_n (pc := 13) dX6_keep_13 0 rfl ?_
    refine m_getfin (pc := 14) (v := (y + 1)) hE dX6_keep_14 flX6_11 rfl (pt0 hy) rfl ?_
    refine v_aload_n (pc := 17) dX6_keep_17 0 rfl ?_
    refine m_getf (pc := 18) (t := 0) (v := (mem y 2)) dX6_keep_18 flX6_22 rfl (pt0 hy) rfl ?_
    obtain ⟨o1, h⟩ := h
    refine m_aald18 (pc := 21) (v := (mem (y + 1) (mem y 2))) dX6_keep_21 (pt1 hy) o1.1 o1.2 rfl ?_
    refine v_aload_n (pc := 22) dX6_keep_22 1 rfl ?_
    obtain ⟨o2, h⟩ := h
    refine m_invV (pc := 23) (mi' := mX10_copyFrom) (rest := []) [aR p0] dX6_keep_23 (yd0 o2) (by decide) rfl msX10_copyFrom mvX10_copyFrom lkX6_26 rfl (Nat.le_of_ble_eq_true rfl) (fun hn => CV_mono (h) (fun m3 h => ?_))
    refine v_aload_n (pc := 26) dX6_keep_26 0 rfl ?_
    refine m_getfin (pc := 27) (v := (y + 2)) hE dX6_keep_27 flX6_17 rfl (pt0 hy) rfl ?_
    refine v_aload_n (pc := 30) dX6_keep_30 0 rfl ?_
    refine m_getf (pc := 31) (t := 0) (v := (m3 y 2)) dX6_keep_31 flX6_22 rfl (pt0 hy) rfl ?_
    refine v_iload_n (pc := 34) dX6_keep_34 2 rfl ?_
    obtain ⟨o4, h⟩ := h
    refine v_iast (pc := 35) dX6_keep_35 (pt2 hy) o4.1 o4.2 ?_
    refine v_aload_n (pc := 36) dX6_keep_36 0 rfl ?_
    refine v_dup (pc := 37) dX6_keep_37 rfl ?_
    refine m_getf (pc := 38) (t := 0) (v := (m3 y 2)) dX6_keep_38 flX6_22 rfl (pt0 hy) (aUp_rn (by omega)) ?_
    refine v_iconst (pc := 41) dX6_keep_41 (by decide) ?_
    obtain ⟨o5, h⟩ := h
    refine m_iadd (pc := 42) dX6_keep_42 o5 ?_
    refine v_putf (pc := 43) dX6_keep_43 flX6_22 ⟨_, _, rfl, Or.inl rfl⟩ rfl (by decide) (fun q => nomatch q) (Or.inl fun _ => rfl) (pt0 hy) ?_
    exact m_retV (pc := 46) dX6_keep_46 rfl h
  · have h := h.2 c1
    refine v_aload_n (pc := 9) dX6_keep_9 0 rfl ?_
    refine m_invV (pc := 10) (mi' := mX6_dropOldest) (rest := []) [] dX6_keep_10 (pt0 hy) (by decide) rfl msX6_dropOldest mvX6_dropOldest lkX6_30 rfl (Nat.le_of_ble_eq_true rfl) (fun hn => CV_mono (h) (fun m6 h => ?_))
    refine v_aload_n (pc := 13) dX6_keep_13 0 rfl ?_
    refine m_getfin (pc := 14) (v := (y + 1)) hE dX6_keep_14 flX6_11 rfl (pt0 hy) rfl ?_
    refine v_aload_n (pc := 17) dX6_keep_17 0 rfl ?_
    refine m_getf (pc := 18) (t := 0) (v := (m6 y 2)) dX6_keep_18 flX6_22 rfl (pt0 hy) rfl ?_
    obtain ⟨o7, h⟩ := h
    refine m_aald18 (pc := 21) (v := (m6 (y + 1) (m6 y 2))) dX6_keep_21 (pt1 hy) o7.1 o7.2 rfl ?_
    refine v_aload_n (pc := 22) dX6_keep_22 1 rfl ?_
    obtain ⟨o8, h⟩ := h
    refine m_invV (pc := 23) (mi' := mX10_copyFrom) (rest := []) [aR p0] dX6_keep_23 (yd0 o8) (by decide) rfl msX10_copyFrom mvX10_copyFrom lkX6_26 rfl (Nat.le_of_ble_eq_true rfl) (fun hn => CV_mono (h) (fun m9 h => ?_))
    refine v_aload_n (pc := 26) dX6_keep_26 0 rfl ?_
    refine m_getfin (pc := 27) (v := (y + 2)) hE dX6_keep_27 flX6_17 rfl (pt0 hy) rfl ?_
    refine v_aload_n (pc := 30) dX6_keep_30 0 rfl ?_
    refine m_getf (pc := 31) (t := 0) (v := (m9 y 2)) dX6_keep_31 flX6_22 rfl (pt0 hy) rfl ?_
    refine v_iload_n (pc := 34) dX6_keep_34 2 rfl ?_
    obtain ⟨o10, h⟩ := h
    refine v_iast (pc := 35) dX6_keep_35 (pt2 hy) o10.1 o10.2 ?_
    refine v_aload_n (pc := 36) dX6_keep_36 0 rfl ?_
    refine v_dup (pc := 37) dX6_keep_37 rfl ?_
    refine m_getf (pc := 38) (t := 0) (v := (m9 y 2)) dX6_keep_38 flX6_22 rfl (pt0 hy) (aUp_rn (by omega)) ?_
    refine v_iconst (pc := 41) dX6_keep_41 (by decide) ?_
    obtain ⟨o11, h⟩ := h
    refine m_iadd (pc := 42) dX6_keep_42 o11 ?_
    refine v_putf (pc := 43) dX6_keep_43 flX6_22 ⟨_, _, rfl, Or.inl rfl⟩ rfl (by decide) (fun q => nomatch q) (Or.inl fun _ => rfl) (pt0 hy) ?_
    exact m_retV (pc := 46) dX6_keep_46 rfl h
theorem eX6_keep {E : EN} {k : Nat} {mem : Mm} {Q : Mm → Prop} {y p0 p1 : Int} (hr_p1 : R32 p1) (h : VM E mX6_keep (k + 1) mem 0 [(0, aR y), (1, aR p0), (2, aI p1)] [] (retV Q)) : CV E mX6_keep (k + 1) mem [aR y, aR p0, aI p1] Q := CV_of rfl (Nat.le_of_ble_eq_true rfl) h (aNs_c (aNr_R _) (aNs_c (aNr_R _) (aNs_c (aNr_I hr_p1) (fun _ q => nomatch q))))

theorem dX6_dropOldest_0 : decode cX6_dropOldest 0 = .ok (.aload_n 0, 1) := by decide +kernel
theorem dX6_dropOldest_1 : decode cX6_dropOldest 1 = .ok (.getfield 11, 3) := by decide +kernel
theorem dX6_dropOldest_4 : decode cX6_dropOldest 4 = .ok (.iconst 0, 1) := by decide +kernel
theorem dX6_dropOldest_5 : decode cX6_dropOldest 5 = .ok (.aaload, 1) := by decide +kernel
theorem dX6_dropOldest_6 : decode cX6_dropOldest 6 = .ok (.astore_n 1, 1) := by decide +kernel
theorem dX6_dropOldest_7 : decode cX6_dropOldest 7 = .ok (.iconst 1, 1) := by decide +kernel
theorem dX6_dropOldest_8 : decode cX6_dropOldest 8 = .ok (.istore_n 2, 1) := by decide +kernel
theorem dX6_dropOldest_9 : decode cX6_dropOldest 9 = .ok (.iload_n 2, 1) := by decide +kernel
theorem dX6_dropOldest_10 : decode cX6_dropOldest 10 = .ok (.bipush 16, 2) := by decide +kernel
theorem dX6_dropOldest_12 : decode cX6_dropOldest 12 = .ok (.if_icmp .ge 37, 3) := by decide +kernel
theorem dX6_dropOldest_15 : decode cX6_dropOldest 15 = .ok (.aload_n 0, 1) := by decide +kernel
theorem dX6_dropOldest_16 : decode cX6_dropOldest 16 = .ok (.getfield 11, 3) := by decide +kernel
theorem dX6_dropOldest_19 : decode cX6_dropOldest 19 = .ok (.iload_n 2, 1) := by decide +kernel
theorem dX6_dropOldest_20 : decode cX6_dropOldest 20 = .ok (.iconst 1, 1) := by decide +kernel
theorem dX6_dropOldest_21 : decode cX6_dropOldest 21 = .ok (.isub, 1) := by decide +kernel
theorem dX6_dropOldest_22 : decode cX6_dropOldest 22 = .ok (.aload_n 0, 1) := by decide +kernel
theorem dX6_dropOldest_23 : decode cX6_dropOldest 23 = .ok (.getfield 11, 3) := by decide +kernel
theorem dX6_dropOldest_26 : decode cX6_dropOldest 26 = .ok (.iload_n 2, 1) := by decide +kernel
theorem dX6_dropOldest_27 : decode cX6_dropOldest 27 = .ok (.aaload, 1) := by decide +kernel
theorem dX6_dropOldest_28 : decode cX6_dropOldest 28 = .ok (.aastore, 1) := by decide +kernel
theorem dX6_dropOldest_29 : decode cX6_dropOldest 29 = .ok (.aload_n 0, 1) := by decide +kernel
theorem dX6_dropOldest_30 : decode cX6_dropOldest 30 = .ok (.getfield 17, 3) := by decide +kernel
theorem dX6_dropOldest_33 : decode cX6_dropOldest 33 = .ok (.iload_n 2, 1) := by decide +kernel
theorem dX6_dropOldest_34 : decode cX6_dropOldest 34 = .ok (.iconst 1, 1) := by decide +kernel
theorem dX6_dropOldest_35 : decode cX6_dropOldest 35 = .ok (.isub, 1) := by decide +kernel
theorem dX6_dropOldest_36 : decode cX6_dropOldest 36 = .ok (.aload_n 0, 1) := by decide +kernel
theorem dX6_dropOldest_37 : decode cX6_dropOldest 37 = .ok (.getfield 17, 3) := by decide +kernel
theorem dX6_dropOldest_40 : decode cX6_dropOldest 40 = .ok (.iload_n 2, 1) := by decide +kernel
theorem dX6_dropOldest_41 : decode cX6_dropOldest 41 = .ok (.iaload, 1) := by decide +kernel
theorem dX6_dropOldest_42 : decode cX6_dropOldest 42 = .ok (.iastore, 1) := by decide +kernel
theorem dX6_dropOldest_43 : decode cX6_dropOldest 43 = .ok (.iinc 2 1, 3) := by decide +kernel
theorem dX6_dropOldest_46 : decode cX6_dropOldest 46 = .ok (.goto (-37), 3) := by decide +kernel
theorem dX6_dropOldest_49 : decode cX6_dropOldest 49 = .ok (.aload_n 0, 1) := by decide +kernel
theorem dX6_dropOldest_50 : decode cX6_dropOldest 50 = .ok (.getfield 11, 3) := by decide +kernel
theorem dX6_dropOldest_53 : decode cX6_dropOldest 53 = .ok (.bipush 15, 2) := by decide +kernel
theorem dX6_dropOldest_55 : decode cX6_dropOldest 55 = .ok (.aload_n 1, 1) := by decide +kernel
theorem dX6_dropOldest_56 : decode cX6_dropOldest 56 = .ok (.aastore, 1) := by decide +kernel
theorem dX6_dropOldest_57 : decode cX6_dropOldest 57 = .ok (.aload_n 0, 1) := by decide +kernel
theorem dX6_dropOldest_58 : decode cX6_dropOldest 58 = .ok (.bipush 15, 2) := by decide +kernel
theorem dX6_dropOldest_60 : decode cX6_dropOldest 60 = .ok (.putfield 22, 3) := by decide +kernel
theorem dX6_dropOldest_63 : decode cX6_dropOldest 63 = .ok (.return_, 1) := by decide +kernel
set_option maxRecDepth 20000 in
theorem rX6_dropOldest_0 {E : EN} (hE : Ep E) {k : Nat} {mem : Mm} {Q : Mm → Prop} {y : Int} (hy : isPt y)
    (h : VM E mX6_dropOldest k mem 9 [(0, aR y), (1, aR (mem (y + 1) 0)), (2, aI 1)] [] (retV Q)) :
    VM E mX6_dropOldest k mem 0 [(0, aR y)] [] (retV Q) := by
  refine v_aload_n (pc := 0) dX6_dropOldest_0 0 rfl ?_
  refine m_getfin (pc := 1) (v := (y + 1)) hE dX6_dropOldest_1 flX6_11 rfl (pt0 hy) rfl ?_
  refine v_iconst (pc := 4) dX6_dropOldest_4 (by decide) ?_
  refine m_aald18 (pc := 5) (v := (mem (y + 1) 0)) dX6_dropOldest_5 (pt1 hy) (by omega) (by omega) rfl ?_
  refine v_astore_n (pc := 6) (al2 := [(1, aR (mem (y + 1) 0)), (0, aR y)]) dX6_dropOldest_6 (by decide) rfl ?_
  refine v_iconst (pc := 7) dX6_dropOldest_7 (by decide) ?_
  refine v_istore_n (pc := 8) (al2 := [(2, aI 1), (1, aR (mem (y + 1) 0)), (0, aR y)]) dX6_dropOldest_8 (by decide) rfl ?_
  exact VG_sub (al' := [(0, aR y), (1, aR (mem (y + 1) 0)), (2, aI 1)]) [2, 1, 0] rfl h
theorem eX6_dropOldest {E : EN} {k : Nat} {mem : Mm} {Q : Mm → Prop} {y : Int}  (h : VM E mX6_dropOldest k mem 0 [(0, aR y)] [] (retV Q)) : CV E mX6_dropOldest k mem [aR y] Q := CV_of rfl (Nat.le_of_ble_eq_true rfl) h (aNs_c (aNr_R _) (fun _ q => nomatch q))
set_option maxRecDepth 20000 in
theorem rX6_dropOldest_9 {E : EN} (hE : Ep E) {k : Nat} {mem : Mm} {Q : Mm → Prop} {y x1 x2 : Int} (hy : isPt y) (hx1 : isYd x1)
    (h : ((16 ≤ x2 → Q (aUp (aUp mem (y + 1) 15 x1) y 2 15)) ∧ (x2 < 16 → (R32 (x2 - 1)) ∧ (0 ≤ x2 ∧ x2 < 16) ∧ (0 ≤ (x2 - 1) ∧ (x2 - 1) < 16) ∧ (isYd (mem (y + 1) x2)) ∧ (R32 (x2 + 1)) ∧ VM E mX6_dropOldest k (aUp (aUp mem (y + 1) (x2 - 1) (mem (y + 1) x2)) (y + 2) (x2 - 1) (mem (y + 2) x2)) 9 [(0, aR y), (1, aR x1), (2, aI (x2 + 1))] [] (retV Q)))) :
    VM E mX6_dropOldest k mem 9 [(0, aR y), (1, aR x1), (2, aI x2)] [] (retV Q) := by
  refine v_iload_n (pc := 9) dX6_dropOldest_9 2 rfl ?_
  refine v_bipush (pc := 10) dX6_dropOldest_10 (by decide) ?_
  refine v_icmpge (pc := 12) (tgt := 49) dX6_dropOldest_12 (by decide) (fun c1 => ?_) (fun c1 => ?_)
  · have h := h.1 c1
    refine v_aload_n (pc := 49) dX6_dropOldest_49 0 rfl ?_
    refine m_getfin (pc := 50) (v := (y + 1)) hE dX6_dropOldest_50 flX6_11 rfl (pt0 hy) rfl ?_
    refine v_bipush (pc := 53) dX6_dropOldest_53 (by decide) ?_
    refine v_aload_n (pc := 55) dX6_dropOldest_55 1 rfl ?_
    refine v_aast18 (pc := 56) dX6_dropOldest_56 (pt1 hy) (yd0 hx1) (by omega) (by omega) (Or.inl fun _ => rfl) ?_
    refine v_aload_n (pc := 57) dX6_dropOldest_57 0 rfl ?_
    refine v_bipush (pc := 58) dX6_dropOldest_58 (by decide) ?_
    refine v_putf (pc := 60) dX6_dropOldest_60 flX6_22 ⟨_, _, rfl, Or.inl rfl⟩ rfl (by decide) (fun q => nomatch q) (Or.inl fun _ => rfl) (pt0 hy) ?_
    exact m_retV (pc := 63) dX6_dropOldest_63 rfl h
  · have h := h.2 c1
    refine v_aload_n (pc := 15) dX6_dropOldest_15 0 rfl ?_
    refine m_getfin (pc := 16) (v := (y + 1)) hE dX6_dropOldest_16 flX6_11 rfl (pt0 hy) rfl ?_
    refine v_iload_n (pc := 19) dX6_dropOldest_19 2 rfl ?_
    refine v_iconst (pc := 20) dX6_dropOldest_20 (by decide) ?_
    obtain ⟨o1, h⟩ := h
    refine m_isub (pc := 21) dX6_dropOldest_21 o1 ?_
    refine v_aload_n (pc := 22) dX6_dropOldest_22 0 rfl ?_
    refine m_getfin (pc := 23) (v := (y + 1)) hE dX6_dropOldest_23 flX6_11 rfl (pt0 hy) rfl ?_
    refine v_iload_n (pc := 26) dX6_dropOldest_26 2 rfl ?_
    obtain ⟨o2, h⟩ := h
    refine m_aald18 (pc := 27) (v := (mem (y + 1) x2)) dX6_dropOldest_27 (pt1 hy) o2.1 o2.2 rfl ?_
    obtain ⟨o3, h⟩ := h
    obtain ⟨o4, h⟩ := h
    refine v_aast18 (pc := 28) dX6_dropOldest_28 (pt1 hy) (yd0 o4) o3.1 o3.2 (Or.inl fun _ => rfl) ?_
    refine v_aload_n (pc := 29) dX6_dropOldest_29 0 rfl ?_
    refine m_getfin (pc := 30) (v := (y + 2)) hE dX6_dropOldest_30 flX6_17 rfl (pt0 hy) rfl ?_
    refine v_iload_n (pc := 33) dX6_dropOldest_33 2 rfl ?_
    refine v_iconst (pc := 34) dX6_dropOldest_34 (by decide) ?_
    refine m_isub (pc := 35) dX6_dropOldest_35 o1 ?_
    refine v_aload_n (pc := 36) dX6_dropOldest_36 0 rfl ?_
    refine m_getfin (pc := 37) (v := (y + 2)) hE dX6_dropOldest_37 flX6_17 rfl (pt0 hy) rfl ?_
    refine v_iload_n (pc := 40) dX6_dropOldest_40 2 rfl ?_
    refine m_iald (pc := 41) (v := (mem (y + 2) x2)) dX6_dropOldest_41 (pt2 hy) o2.1 o2.2 (aUp_rn (by omega)) ?_
    refine v_iast (pc := 42) dX6_dropOldest_42 (pt2 hy) o3.1 o3.2 ?_
    obtain ⟨o5, h⟩ := h
    refine m_iinc (pc := 43) (al2 := [(2, aI (x2 + 1)), (0, aR y), (1, aR x1)]) dX6_dropOldest_43 2 rfl (by decide) o5 rfl ?_
    refine v_goto (pc := 46) (tgt := 9) dX6_dropOldest_46 (by decide) ?_
    exact VG_sub (al' := [(0, aR y), (1, aR x1), (2, aI (x2 + 1))]) [1, 2, 0] rfl h

theorem dX6_takeBack_0 : decode cX6_takeBack 0 = .ok (.aload_n 0, 1) := by decide +kernel
theorem dX6_takeBack_1 : decode cX6_takeBack 1 = .ok (.getfield 22, 3) := by decide +kernel
theorem dX6_takeBack_4 : decode cX6_takeBack 4 = .ok (.iconst 1, 1) := by decide +kernel
theorem dX6_takeBack_5 : decode cX6_takeBack 5 = .ok (.if_icmp .lt 12, 3) := by decide +kernel
theorem dX6_takeBack_8 : decode cX6_takeBack 8 = .ok (.aload_n 0, 1) := by decide +kernel
theorem dX6_takeBack_9 : decode cX6_takeBack 9 = .ok (.getfield 22, 3) := by decide +kernel
theorem dX6_takeBack_12 : decode cX6_takeBack 12 = .ok (.bipush 16, 2) := by decide +kernel
theorem dX6_takeBack_14 : decode cX6_takeBack 14 = .ok (.if_icmp .le 6, 3) := by decide +kernel
theorem dX6_takeBack_17 : decode cX6_takeBack 17 = .ok (.bipush (-3), 2) := by decide +kernel
theorem dX6_takeBack_19 : decode cX6_takeBack 19 = .ok (.ireturn, 1) := by decide +kernel
theorem dX6_takeBack_20 : decode cX6_takeBack 20 = .ok (.aload_n 0, 1) := by decide +kernel
theorem dX6_takeBack_21 : decode cX6_takeBack 21 = .ok (.dup, 1) := by decide +kernel
theorem dX6_takeBack_22 : decode cX6_takeBack 22 = .ok (.getfield 22, 3) := by decide +kernel
theorem dX6_takeBack_25 : decode cX6_takeBack 25 = .ok (.iconst 1, 1) := by decide +kernel
theorem dX6_takeBack_26 : decode cX6_takeBack 26 = .ok (.isub, 1) := by decide +kernel
theorem dX6_takeBack_27 : decode cX6_takeBack 27 = .ok (.putfield 22, 3) := by decide +kernel
theorem dX6_takeBack_30 : decode cX6_takeBack 30 = .ok (.aload_n 1, 1) := by decide +kernel
theorem dX6_takeBack_31 : decode cX6_takeBack 31 = .ok (.aload_n 0, 1) := by decide +kernel
theorem dX6_takeBack_32 : decode cX6_takeBack 32 = .ok (.getfield 11, 3) := by decide +kernel
theorem dX6_takeBack_35 : decode cX6_takeBack 35 = .ok (.aload_n 0, 1) := by decide +kernel
theorem dX6_takeBack_36 : decode cX6_takeBack 36 = .ok (.getfield 22, 3) := by decide +kernel
theorem dX6_takeBack_39 : decode cX6_takeBack 39 = .ok (.aaload, 1) := by decide +kernel
theorem dX6_takeBack_40 : decode cX6_takeBack 40 = .ok (.invokevirtual 26, 3) := by decide +kernel
theorem dX6_takeBack_43 : decode cX6_takeBack 43 = .ok (.aload_n 0, 1) := by decide +kernel
theorem dX6_takeBack_44 : decode cX6_takeBack 44 = .ok (.getfield 17, 3) := by decide +kernel
theorem dX6_takeBack_47 : decode cX6_takeBack 47 = .ok (.aload_n 0, 1) := by decide +kernel
theorem dX6_takeBack_48 : decode cX6_takeBack 48 = .ok (.getfield 22, 3) := by decide +kernel
theorem dX6_takeBack_51 : decode cX6_takeBack 51 = .ok (.iaload, 1) := by decide +kernel
theorem dX6_takeBack_52 : decode cX6_takeBack 52 = .ok (.ireturn, 1) := by decide +kernel
set_option maxRecDepth 20000 in
theorem rX6_takeBack_0 {E : EN} (hE : Ep E) {k : Nat} {mem : Mm} {Q : Int → Mm → Prop} {y p0 : Int} (hy : isPt y) (hp0 : isYd p0)
    (h : (((mem y 2) < 1 → Q (-3) mem) ∧ (1 ≤ (mem y 2) → (((mem y 2) ≤ 16 → (R32 ((mem y 2) - 1)) ∧ (0 ≤ ((mem y 2) - 1) ∧ ((mem y 2) - 1) < 16) ∧ (CV E mX10_copyFrom k (aUp mem y 2 ((mem y 2) - 1)) [aR p0, aR (mem (y + 1) ((mem y 2) - 1))] (fun m3 => (0 ≤ (m3 y 2) ∧ (m3 y 2) < 16) ∧ Q (m3 (y + 2) (m3 y 2)) m3))) ∧ (16 < (mem y 2) → Q (-3) mem))))) :
    VM E mX6_takeBack (k + 1) mem 0 [(0, aR y), (1, aR p0)] [] (retI Q) := by
  refine v_aload_n (pc := 0) dX6_takeBack_0 0 rfl ?_
  refine m_getf (pc := 1) (t := 0) (v := (mem y 2)) dX6_takeBack_1 flX6_22 rfl (pt0 hy) rfl ?_
  refine v_iconst (pc := 4) dX6_takeBack_4 (by decide) ?_
  refine v_icmplt (pc := 5) (tgt := 17) dX6_takeBack_5 (by decide) (fun c1 => ?_) (fun c1 => ?_)
  · have h := h.1 c1
    refine v_bipush (pc := 17) dX6_takeBack_17 (by decide) ?_
    exact m_retI (pc := 19) dX6_takeBack_19 rfl h
  · have h := h.2 c1
    refine v_aload_n (pc := 8) dX6_takeBack_8 0 rfl ?_
    refine m_getf (pc := 9) (t := 0) (v := (mem y 2)) dX6_takeBack_9 flX6_22 rfl (pt0 hy) rfl ?_
    refine v_bipush (pc := 12) dX6_takeBack_12 (by decide) ?_
    refine v_icmple (pc := 14) (tgt := 20) dX6_takeBack_14 (by decide) (fun c1 => ?_) (fun c1 => ?_)
    · have h := h.1 c1
      refine v_aload_n (pc := 20) dX6_takeBack_20 0 rfl ?_
      refine v_dup (pc := 21) dX6_takeBack_21 rfl ?_
      refine m_getf (pc := 22) (t := 0) (v := (mem y 2)) dX6_takeBack_22 flX6_22 rfl (pt0 hy) rfl ?_
      refine v_iconst (pc := 25) dX6_takeBack_25 (by decide) ?_
      obtain ⟨o1, h⟩ := h
      refine m_isub (pc := 26) dX6_takeBack_26 o1 ?_
      refine v_putf (pc := 27) dX6_takeBack_27 flX6_22 ⟨_, _, rfl, Or.inl rfl⟩ rfl (by decide) (fun q => nomatch q) (Or.inl fun _ => rfl) (pt0 hy) ?_
      refine v_aload_n (pc := 30) dX6_takeBack_30 1 rfl ?_
      refine v_aload_n (pc := 31) dX6_takeBack_31 0 rfl ?_
      refine m_getfin (pc := 32) (v := (y + 1)) hE dX6_takeBack_32 flX6_11 rfl (pt0 hy) rfl ?_
      refine v_aload_n (pc := 35) dX6_takeBack_35 0 rfl ?_
      refine m_getf (pc := 36) (t := 0) (v := ((mem y 2) - 1)) dX6_takeBack_36 flX6_22 rfl (pt0 hy) (aUp_re) ?_
      obtain ⟨o2, h⟩ := h
      refine m_aald18 (pc := 39) (v := (mem (y + 1) ((mem y 2) - 1))) dX6_takeBack_39 (pt1 hy) o2.1 o2.2 (aUp_rn (by omega)) ?_
      refine m_invV (pc := 40) (mi' := mX10_copyFrom) (rest := []) [aR (mem (y + 1) ((mem y 2) - 1))] dX6_takeBack_40 (yd0 hp0) (by decide) rfl msX10_copyFrom mvX10_copyFrom lkX6_26 rfl (Nat.le_of_ble_eq_true rfl) (fun hn => CV_mono (h) (fun m3 h => ?_))
      refine v_aload_n (pc := 43) dX6_takeBack_43 0 rfl ?_
      refine m_getfin (pc := 44) (v := (y + 2)) hE dX6_takeBack_44 flX6_17 rfl (pt0 hy) rfl ?_
      refine v_aload_n (pc := 47) dX6_takeBack_47 0 rfl ?_
      refine m_getf (pc := 48) (t := 0) (v := (m3 y 2)) dX6_takeBack_48 flX6_22 rfl (pt0 hy) rfl ?_
      obtain ⟨o4, h⟩ := h
      refine m_iald (pc := 51) (v := (m3 (y + 2) (m3 y 2))) dX6_takeBack_51 (pt2 hy) o4.1 o4.2 rfl ?_
      exact m_retI (pc := 52) dX6_takeBack_52 rfl h
    · have h := h.2 c1
      refine v_bipush (pc := 17) dX6_takeBack_17 (by decide) ?_
      exact m_retI (pc := 19) dX6_takeBack_19 rfl h
theorem eX6_takeBack {E : EN} {k : Nat} {mem : Mm} {Q : Int → Mm → Prop} {y p0 : Int}  (h : VM E mX6_takeBack (k + 1) mem 0 [(0, aR y), (1, aR p0)] [] (retI Q)) : CI E mX6_takeBack (k + 1) mem [aR y, aR p0] Q := CI_of rfl (Nat.le_of_ble_eq_true rfl) h (aNs_c (aNr_R _) (aNs_c (aNr_R _) (fun _ q => nomatch q)))
