theorem dX1_copyFrom_0 : decode cX1_copyFrom 0 = .ok (.aload_n 0, 1) := by decide +kernel
theorem dX1_copyFrom_1 : decode cX1_copyFrom 1 = .ok (.aload_n 1, 1) := by decide +kernel
theorem dX1_copyFrom_2 : decode cX1_copyFrom 2 = .ok (.getfield 21, 3) := by decide +kernel
theorem dX1_copyFrom_5 : decode cX1_copyFrom 5 = .ok (.putfield 21, 3) := by decide +kernel
theorem dX1_copyFrom_8 : decode cX1_copyFrom 8 = .ok (.aload_n 1, 1) := by decide +kernel
theorem dX1_copyFrom_9 : decode cX1_copyFrom 9 = .ok (.getfield 9, 3) := by decide +kernel
theorem dX1_copyFrom_12 : decode cX1_copyFrom 12 = .ok (.iconst 0, 1) := by decide +kernel
theorem dX1_copyFrom_13 : decode cX1_copyFrom 13 = .ok (.aload_n 0, 1) := by decide +kernel
theorem dX1_copyFrom_14 : decode cX1_copyFrom 14 = .ok (.getfield 9, 3) := by decide +kernel
theorem dX1_copyFrom_17 : decode cX1_copyFrom 17 = .ok (.iconst 0, 1) := by decide +kernel
theorem dX1_copyFrom_18 : decode cX1_copyFrom 18 = .ok (.bipush 8, 2) := by decide +kernel
theorem dX1_copyFrom_20 : decode cX1_copyFrom 20 = .ok (.invokestatic 25, 3) := by decide +kernel
theorem dX1_copyFrom_23 : decode cX1_copyFrom 23 = .ok (.aload_n 1, 1) := by decide +kernel
theorem dX1_copyFrom_24 : decode cX1_copyFrom 24 = .ok (.getfield 15, 3) := by decide +kernel
theorem dX1_copyFrom_27 : decode cX1_copyFrom 27 = .ok (.iconst 0, 1) := by decide +kernel
theorem dX1_copyFrom_28 : decode cX1_copyFrom 28 = .ok (.aload_n 0, 1) := by decide +kernel
theorem dX1_copyFrom_29 : decode cX1_copyFrom 29 = .ok (.getfield 15, 3) := by decide +kernel
theorem dX1_copyFrom_32 : decode cX1_copyFrom 32 = .ok (.iconst 0, 1) := by decide +kernel
theorem dX1_copyFrom_33 : decode cX1_copyFrom 33 = .ok (.bipush 8, 2) := by decide +kernel
theorem dX1_copyFrom_35 : decode cX1_copyFrom 35 = .ok (.invokestatic 25, 3) := by decide +kernel
theorem dX1_copyFrom_38 : decode cX1_copyFrom 38 = .ok (.aload_n 1, 1) := by decide +kernel
theorem dX1_copyFrom_39 : decode cX1_copyFrom 39 = .ok (.getfield 18, 3) := by decide +kernel
theorem dX1_copyFrom_42 : decode cX1_copyFrom 42 = .ok (.iconst 0, 1) := by decide +kernel
theorem dX1_copyFrom_43 : decode cX1_copyFrom 43 = .ok (.aload_n 0, 1) := by decide +kernel
theorem dX1_copyFrom_44 : decode cX1_copyFrom 44 = .ok (.getfield 18, 3) := by decide +kernel
theorem dX1_copyFrom_47 : decode cX1_copyFrom 47 = .ok (.iconst 0, 1) := by decide +kernel
theorem dX1_copyFrom_48 : decode cX1_copyFrom 48 = .ok (.bipush 8, 2) := by decide +kernel
theorem dX1_copyFrom_50 : decode cX1_copyFrom 50 = .ok (.invokestatic 25, 3) := by decide +kernel
theorem dX1_copyFrom_53 : decode cX1_copyFrom 53 = .ok (.return_, 1) := by decide +kernel
set_option maxRecDepth 20000 in
theorem rX1_copyFrom_0 {E : EN} (hE : Ep E) {k : Nat} {mem : Mm} {Q : Mm → Prop} {y p0 : Int} (hy : isFd y) (hp0 : isFd p0)
    (h : Q (aCp (aCp (aCp (aUp mem y 0 (mem p0 0)) (p0 + 1) (y + 1) 8) (p0 + 2) (y + 2) 8) (p0 + 3) (y + 3) 8)) :
    VM E mX1_copyFrom (k + 1) mem 0 [(0, aR y), (1, aR p0)] [] (retV Q) := by
  refine v_aload_n (pc := 0) dX1_copyFrom_0 0 rfl ?_
  refine v_aload_n (pc := 1) dX1_copyFrom_1 1 rfl ?_
  refine m_getf (pc := 2) (t := 0) (v := (mem p0 0)) dX1_copyFrom_2 flX1_21 rfl (fd0 hp0) rfl ?_
  refine v_putf (pc := 5) dX1_copyFrom_5 flX1_21 ⟨_, _, rfl, Or.inl rfl⟩ rfl (by decide) (fun q => nomatch q) (Or.inl fun _ => rfl) (fd0 hy) ?_
  refine v_aload_n (pc := 8) dX1_copyFrom_8 1 rfl ?_
  refine m_getfin (pc := 9) (v := (p0 + 1)) hE dX1_copyFrom_9 flX1_9 rfl (fd0 hp0) rfl ?_
  refine v_iconst (pc := 12) dX1_copyFrom_12 (by decide) ?_
  refine v_aload_n (pc := 13) dX1_copyFrom_13 0 rfl ?_
  refine m_getfin (pc := 14) (v := (y + 1)) hE dX1_copyFrom_14 flX1_9 rfl (fd0 hy) rfl ?_
  refine v_iconst (pc := 17) dX1_copyFrom_17 (by decide) ?_
  refine v_bipush (pc := 18) dX1_copyFrom_18 (by decide) ?_
  refine m_copy (pc := 20) dX1_copyFrom_20 lmX1_25 nC sC iC (fd1 hp0) (fd1 hy) (by decide) (by decide) (by decide) (Nat.le_of_ble_eq_true rfl) ?_
  refine v_aload_n (pc := 23) dX1_copyFrom_23 1 rfl ?_
  refine m_getfin (pc := 24) (v := (p0 + 2)) hE dX1_copyFrom_24 flX1_15 rfl (fd0 hp0) rfl ?_
  refine v_iconst (pc := 27) dX1_copyFrom_27 (by decide) ?_
  refine v_aload_n (pc := 28) dX1_copyFrom_28 0 rfl ?_
  refine m_getfin (pc := 29) (v := (y + 2)) hE dX1_copyFrom_29 flX1_15 rfl (fd0 hy) rfl ?_
  refine v_iconst (pc := 32) dX1_copyFrom_32 (by decide) ?_
  refine v_bipush (pc := 33) dX1_copyFrom_33 (by decide) ?_
  refine m_copy (pc := 35) dX1_copyFrom_35 lmX1_25 nC sC iC (fd2 hp0) (fd2 hy) (by decide) (by decide) (by decide) (Nat.le_of_ble_eq_true rfl) ?_
  refine v_aload_n (pc := 38) dX1_copyFrom_38 1 rfl ?_
  refine m_getfin (pc := 39) (v := (p0 + 3)) hE dX1_copyFrom_39 flX1_18 rfl (fd0 hp0) rfl ?_
  refine v_iconst (pc := 42) dX1_copyFrom_42 (by decide) ?_
  refine v_aload_n (pc := 43) dX1_copyFrom_43 0 rfl ?_
  refine m_getfin (pc := 44) (v := (y + 3)) hE dX1_copyFrom_44 flX1_18 rfl (fd0 hy) rfl ?_
  refine v_iconst (pc := 47) dX1_copyFrom_47 (by decide) ?_
  refine v_bipush (pc := 48) dX1_copyFrom_48 (by decide) ?_
  refine m_copy (pc := 50) dX1_copyFrom_50 lmX1_25 nC sC iC (fd3 hp0) (fd3 hy) (by decide) (by decide) (by decide) (Nat.le_of_ble_eq_true rfl) ?_
  exact m_retV (pc := 53) dX1_copyFrom_53 rfl h
theorem eX1_copyFrom {E : EN} {k : Nat} {mem : Mm} {Q : Mm → Prop} {y p0 : Int}  (h : VM E mX1_copyFrom (k + 1) mem 0 [(0, aR y), (1, aR p0)] [] (retV Q)) : CV E mX1_copyFrom (k + 1) mem [aR y, aR p0] Q := CV_of rfl (Nat.le_of_ble_eq_true rfl) h (aNs_c (aNr_R _) (aNs_c (aNr_R _) (fun _ q => nomatch q)))

theorem dX1_add_0 : decode cX1_add 0 = .ok (.aload_n 0, 1) := by decide +kernel
theorem dX1_add_1 : decode cX1_add 1 = .ok (.getfield 21, 3) := by decide +kernel
theorem dX1_add_4 : decode cX1_add 4 = .ok (.bipush 8, 2) := by decide +kernel
theorem dX1_add_6 : decode cX1_add 6 = .ok (.if_icmp .lt 6, 3) := by decide +kernel
theorem dX1_add_9 : decode cX1_add 9 = .ok (.bipush (-5), 2) := by decide +kernel
theorem dX1_add_11 : decode cX1_add 11 = .ok (.ireturn, 1) := by decide +kernel
theorem dX1_add_12 : decode cX1_add 12 = .ok (.aload_n 0, 1) := by decide +kernel
theorem dX1_add_13 : decode cX1_add 13 = .ok (.getfield 9, 3) := by decide +kernel
theorem dX1_add_16 : decode cX1_add 16 = .ok (.aload_n 0, 1) := by decide +kernel
theorem dX1_add_17 : decode cX1_add 17 = .ok (.getfield 21, 3) := by decide +kernel
theorem dX1_add_20 : decode cX1_add 20 = .ok (.iload_n 1, 1) := by decide +kernel
theorem dX1_add_21 : decode cX1_add 21 = .ok (.iastore, 1) := by decide +kernel
theorem dX1_add_22 : decode cX1_add 22 = .ok (.aload_n 0, 1) := by decide +kernel
theorem dX1_add_23 : decode cX1_add 23 = .ok (.getfield 15, 3) := by decide +kernel
theorem dX1_add_26 : decode cX1_add 26 = .ok (.aload_n 0, 1) := by decide +kernel
theorem dX1_add_27 : decode cX1_add 27 = .ok (.getfield 21, 3) := by decide +kernel
theorem dX1_add_30 : decode cX1_add 30 = .ok (.iload_n 2, 1) := by decide +kernel
theorem dX1_add_31 : decode cX1_add 31 = .ok (.iastore, 1) := by decide +kernel
theorem dX1_add_32 : decode cX1_add 32 = .ok (.aload_n 0, 1) := by decide +kernel
theorem dX1_add_33 : decode cX1_add 33 = .ok (.getfield 18, 3) := by decide +kernel
theorem dX1_add_36 : decode cX1_add 36 = .ok (.aload_n 0, 1) := by decide +kernel
theorem dX1_add_37 : decode cX1_add 37 = .ok (.getfield 21, 3) := by decide +kernel
theorem dX1_add_40 : decode cX1_add 40 = .ok (.iload_n 3, 1) := by decide +kernel
theorem dX1_add_41 : decode cX1_add 41 = .ok (.iastore, 1) := by decide +kernel
theorem dX1_add_42 : decode cX1_add 42 = .ok (.aload_n 0, 1) := by decide +kernel
theorem dX1_add_43 : decode cX1_add 43 = .ok (.dup, 1) := by decide +kernel
theorem dX1_add_44 : decode cX1_add 44 = .ok (.getfield 21, 3) := by decide +kernel
theorem dX1_add_47 : decode cX1_add 47 = .ok (.iconst 1, 1) := by decide +kernel
theorem dX1_add_48 : decode cX1_add 48 = .ok (.iadd, 1) := by decide +kernel
theorem dX1_add_49 : decode cX1_add 49 = .ok (.putfield 21, 3) := by decide +kernel
theorem dX1_add_52 : decode cX1_add 52 = .ok (.aload_n 0, 1) := by decide +kernel
theorem dX1_add_53 : decode cX1_add 53 = .ok (.getfield 21, 3) := by decide +kernel
theorem dX1_add_56 : decode cX1_add 56 = .ok (.ireturn, 1) := by decide +kernel
set_option maxRecDepth 20000 in
theorem rX1_add_0 {E : EN} (hE : Ep E) {k : Nat} {mem : Mm} {Q : Int → Mm → Prop} {y p0 p1 p2 : Int} (hy : isFd y)
    (h : (((mem y 0) < 8 → (0 ≤ (mem y 0) ∧ (mem y 0) < 8) ∧ (R32 ((mem y 0) + 1)) ∧ Q ((mem y 0) + 1) (aUp (aUp (aUp (aUp mem (y + 1) (mem y 0) p0) (y + 2) (mem y 0) p1) (y + 3) (mem y 0) p2) y 0 ((mem y 0) + 1))) ∧ (8 ≤ (mem y 0) → Q (-5) mem))) :
    VM E mX1_add k mem 0 [(0, aR y), (1, aI p0), (2, aI p1), (3, aI p2)] [] (retI Q) := by
  refine v_aload_n (pc := 0) dX1_add_0 0 rfl ?_
  refine m_getf (pc := 1) (t := 0) (v := (mem y 0)) dX1_add_1 flX1_21 rfl (fd0 hy) rfl ?_
  refine v_bipush (pc := 4) dX1_add_4 (by decide) ?_
  refine v_icmplt (pc := 6) (tgt := 12) dX1_add_6 (by decide) (fun c1 => ?_) (fun c1 => ?_)
  · have h := h.1 c1
    refine v_aload_n (pc := 12) dX1_add_12 0 rfl ?_
    refine m_getfin (pc := 13) (v := (y + 1)) hE dX1_add_13 flX1_9 rfl (fd0 hy) rfl ?_
    refine v_aload_n (pc := 16) dX1_add_16 0 rfl ?_
    refine m_getf (pc := 17) (t := 0) (v := (mem y 0)) dX1_add_17 flX1_21 rfl (fd0 hy) rfl ?_
    refine v_iload_n (pc := 20) dX1_add_20 1 rfl ?_
    obtain ⟨o1, h⟩ := h
    refine v_iast (pc := 21) dX1_add_21 (fd1 hy) o1.1 o1.2 ?_
    refine v_aload_n (pc := 22) dX1_add_22 0 rfl ?_
    refine m_getfin (pc := 23) (v := (y + 2)) hE dX1_add_23 flX1_15 rfl (fd0 hy) rfl ?_
    refine v_aload_n (pc := 26) dX1_add_26 0 rfl ?_
    refine m_getf (pc := 27) (t := 0) (v := (mem y 0)) dX1_add_27 flX1_21 rfl (fd0 hy) (aUp_rn (by omega)) ?_
    refine v_iload_n (pc := 30) dX1_add_30 2 rfl ?_
    refine v_iast (pc := 31) dX1_add_31 (fd2 hy) o1.1 o1.2 ?_
    refine v_aload_n (pc := 32) dX1_add_32 0 rfl ?_
    refine m_getfin (pc := 33) (v := (y + 3)) hE dX1_add_33 flX1_18 rfl (fd0 hy) rfl ?_
    refine v_aload_n (pc := 36) dX1_add_36 0 rfl ?_
    refine m_getf (pc := 37) (t := 0) (v := (mem y 0)) dX1_add_37 flX1_21 rfl (fd0 hy) ((aUp_rn (by omega)).trans (aUp_rn (by omega))) ?_
    refine v_iload_n (pc := 40) dX1_add_40 3 rfl ?_
    refine v_iast (pc := 41) dX1_add_41 (fd3 hy) o1.1 o1.2 ?_
    refine v_aload_n (pc := 42) dX1_add_42 0 rfl ?_
    refine v_dup (pc := 43) dX1_add_43 rfl ?_
    refine m_getf (pc := 44) (t := 0) (v := (mem y 0)) dX1_add_44 flX1_21 rfl (fd0 hy) ((aUp_rn (by omega)).trans ((aUp_rn (by omega)).trans (aUp_rn (by omega)))) ?_
    refine v_iconst (pc := 47) dX1_add_47 (by decide) ?_
    obtain ⟨o2, h⟩ := h
    refine m_iadd (pc := 48) dX1_add_48 o2 ?_
    refine v_putf (pc := 49) dX1_add_49 flX1_21 ⟨_, _, rfl, Or.inl rfl⟩ rfl (by decide) (fun q => nomatch q) (Or.inl fun _ => rfl) (fd0 hy) ?_
    refine v_aload_n (pc := 52) dX1_add_52 0 rfl ?_
    refine m_getf (pc := 53) (t := 0) (v := ((mem y 0) + 1)) dX1_add_53 flX1_21 rfl (fd0 hy) (aUp_re) ?_
    exact m_retI (pc := 56) dX1_add_56 rfl h
  · have h := h.2 c1
    refine v_bipush (pc := 9) dX1_add_9 (by decide) ?_
    exact m_retI (pc := 11) dX1_add_11 rfl h
theorem eX1_add {E : EN} {k : Nat} {mem : Mm} {Q : Int → Mm → Prop} {y p0 p1 p2 : Int} (hr_p0 : R32 p0) (hr_p1 : R32 p1) (hr_p2 : R32 p2) (h : VM E mX1_add k mem 0 [(0, aR y), (1, aI p0), (2, aI p1), (3, aI p2)] [] (retI Q)) : CI E mX1_add k mem [aR y, aI p0, aI p1, aI p2] Q := CI_of rfl (Nat.le_of_ble_eq_true rfl) h (aNs_c (aNr_R _) (aNs_c (aNr_I hr_p0) (aNs_c (aNr_I hr_p1) (aNs_c (aNr_I hr_p2) (fun _ q => nomatch q)))))

theorem dX1_latest_0 : decode cX1_latest 0 = .ok (.iconst 0, 1) := by decide +kernel
theorem dX1_latest_1 : decode cX1_latest 1 = .ok (.istore_n 1, 1) := by decide +kernel
theorem dX1_latest_2 : decode cX1_latest 2 = .ok (.iconst 0, 1) := by decide +kernel
theorem dX1_latest_3 : decode cX1_latest 3 = .ok (.istore_n 2, 1) := by decide +kernel
theorem dX1_latest_4 : decode cX1_latest 4 = .ok (.iload_n 2, 1) := by decide +kernel
theorem dX1_latest_5 : decode cX1_latest 5 = .ok (.aload_n 0, 1) := by decide +kernel
theorem dX1_latest_6 : decode cX1_latest 6 = .ok (.getfield 21, 3) := by decide +kernel
theorem dX1_latest_9 : decode cX1_latest 9 = .ok (.if_icmp .ge 26, 3) := by decide +kernel
theorem dX1_latest_12 : decode cX1_latest 12 = .ok (.iload_n 2, 1) := by decide +kernel
theorem dX1_latest_13 : decode cX1_latest 13 = .ok (.bipush 8, 2) := by decide +kernel
theorem dX1_latest_15 : decode cX1_latest 15 = .ok (.if_icmp .ge 20, 3) := by decide +kernel
theorem dX1_latest_18 : decode cX1_latest 18 = .ok (.iload_n 1, 1) := by decide +kernel
theorem dX1_latest_19 : decode cX1_latest 19 = .ok (.aload_n 0, 1) := by decide +kernel
theorem dX1_latest_20 : decode cX1_latest 20 = .ok (.getfield 9, 3) := by decide +kernel
theorem dX1_latest_23 : decode cX1_latest 23 = .ok (.iload_n 2, 1) := by decide +kernel
theorem dX1_latest_24 : decode cX1_latest 24 = .ok (.iaload, 1) := by decide +kernel
theorem dX1_latest_25 : decode cX1_latest 25 = .ok (.invokestatic 31, 3) := by decide +kernel
theorem dX1_latest_28 : decode cX1_latest 28 = .ok (.istore_n 1, 1) := by decide +kernel
theorem dX1_latest_29 : decode cX1_latest 29 = .ok (.iinc 2 1, 3) := by decide +kernel
theorem dX1_latest_32 : decode cX1_latest 32 = .ok (.goto (-28), 3) := by decide +kernel
theorem dX1_latest_35 : decode cX1_latest 35 = .ok (.iload_n 1, 1) := by decide +kernel
theorem dX1_latest_36 : decode cX1_latest 36 = .ok (.ireturn, 1) := by decide +kernel
set_option maxRecDepth 20000 in
theorem rX1_latest_0 {E : EN} (hE : Ep E) {k : Nat} {mem : Mm} {Q : Int → Mm → Prop} {y : Int} (hy : isFd y)
    (h : VM E mX1_latest (k + 1) mem 4 [(0, aR y), (1, aI 0), (2, aI 0)] [] (retI Q)) :
    VM E mX1_latest (k + 1) mem 0 [(0, aR y)] [] (retI Q) := by
  refine v_iconst (pc := 0) dX1_latest_0 (by decide) ?_
  refine v_istore_n (pc := 1) (al2 := [(1, aI 0), (0, aR y)]) dX1_latest_1 (by decide) rfl ?_
  refine v_iconst (pc := 2) dX1_latest_2 (by decide) ?_
  refine v_istore_n (pc := 3) (al2 := [(2, aI 0), (1, aI 0), (0, aR y)]) dX1_latest_3 (by decide) rfl ?_
  exact VG_sub (al' := [(0, aR y), (1, aI 0), (2, aI 0)]) [2, 1, 0] rfl h
theorem eX1_latest {E : EN} {k : Nat} {mem : Mm} {Q : Int → Mm → Prop} {y : Int}  (h : VM E mX1_latest (k + 1) mem 0 [(0, aR y)] [] (retI Q)) : CI E mX1_latest (k + 1) mem [aR y] Q := CI_of rfl (Nat.le_of_ble_eq_true rfl) h (aNs_c (aNr_R _) (fun _ q => nomatch q))
set_option maxRecDepth 20000 in
theorem rX1_latest_4 {E : EN} (hE : Ep E) {k : Nat} {mem : Mm} {Q : Int → Mm → Prop} {y x1 x2 : Int} (hy : isFd y)
    (h : (((mem y 0) ≤ x2 → Q x1 mem) ∧ (x2 < (mem y 0) → ((8 ≤ x2 → Q x1 mem) ∧ (x2 < 8 → (0 ≤ x2 ∧ x2 < 8) ∧ (R32 (x2 + 1)) ∧ VM E mX1_latest (k + 1) mem 4 [(0, aR y), (1, aI (max x1 (mem (y + 1) x2))), (2, aI (x2 + 1))] [] (retI Q)))))) :
    VM E mX1_latest (k + 1) mem 4 [(0, aR y), (1, aI x1), (2, aI x2)] [] (retI Q) := by
  refine v_iload_n (pc := 4) dX1_latest_4 2 rfl ?_
  refine v_aload_n (pc := 5) dX1_latest_5 0 rfl ?_
  refine m_getf (pc := 6) (t := 0) (v := (mem y 0)) dX1_latest_6 flX1_21 rfl (fd0 hy) rfl ?_
  refine v_icmpge (pc := 9) (tgt := 35) dX1_latest_9 (by decide) (fun c1 => ?_) (fun c1 => ?_)
  · have h := h.1 c1
    refine v_iload_n (pc := 35) dX1_latest_35 1 rfl ?_
    exact m_retI (pc := 36) dX1_latest_36 rfl h
  · have h := h.2 c1
    refine v_iload_n (pc := 12) dX1_latest_12 2 rfl ?_
    refine v_bipush (pc := 13) dX1_latest_13 (by decide) ?_
    refine v_icmpge (pc := 15) (tgt := 35) dX1_latest_15 (by decide) (fun c1 => ?_) (fun c1 => ?_)
    · have h := h.1 c1
      refine v_iload_n (pc := 35) dX1_latest_35 1 rfl ?_
      exact m_retI (pc := 36) dX1_latest_36 rfl h
    · have h := h.2 c1
      refine v_iload_n (pc := 18) dX1_latest_18 1 rfl ?_
      refine v_aload_n (pc := 19) dX1_latest_19 0 rfl ?_
      refine m_getfin (pc := 20) (v := (y + 1)) hE dX1_latest_20 flX1_9 rfl (fd0 hy) rfl ?_
      refine v_iload_n (pc := 23) dX1_latest_23 2 rfl ?_
      obtain ⟨o1, h⟩ := h
      refine m_iald (pc := 24) (v := (mem (y + 1) x2)) dX1_latest_24 (fd1 hy) o1.1 o1.2 rfl ?_
      refine m_mmax (pc := 25) dX1_latest_25 lmX1_31 sM_max iM cM_max (Nat.le_of_ble_eq_true rfl) ?_
      refine v_istore_n (pc := 28) (al2 := [(1, aI (max x1 (mem (y + 1) x2))), (0, aR y), (2, aI x2)]) dX1_latest_28 (by decide) rfl ?_
      obtain ⟨o2, h⟩ := h
      refine m_iinc (pc := 29) (al2 := [(2, aI (x2 + 1)), (1, aI (max x1 (mem (y + 1) x2))), (0, aR y)]) dX1_latest_29 2 rfl (by decide) o2 rfl ?_
      refine v_goto (pc := 32) (tgt := 4) dX1_latest_32 (by decide) ?_
      exact VG_sub (al' := [(0, aR y), (1, aI (max x1 (mem (y + 1) x2))), (2, aI (x2 + 1))]) [2, 1, 0] rfl h

theorem dX1_agree_0 : decode cX1_agree 0 = .ok (.iconst 0, 1) := by decide +kernel
theorem dX1_agree_1 : decode cX1_agree 1 = .ok (.istore_n 3, 1) := by decide +kernel
theorem dX1_agree_2 : decode cX1_agree 2 = .ok (.iload_n 3, 1) := by decide +kernel
theorem dX1_agree_3 : decode cX1_agree 3 = .ok (.aload_n 0, 1) := by decide +kernel
theorem dX1_agree_4 : decode cX1_agree 4 = .ok (.getfield 21, 3) := by decide +kernel
theorem dX1_agree_7 : decode cX1_agree 7 = .ok (.if_icmp .ge 64, 3) := by decide +kernel
theorem dX1_agree_10 : decode cX1_agree 10 = .ok (.iload_n 3, 1) := by decide +kernel
theorem dX1_agree_11 : decode cX1_agree 11 = .ok (.bipush 8, 2) := by decide +kernel
theorem dX1_agree_13 : decode cX1_agree 13 = .ok (.if_icmp .ge 58, 3) := by decide +kernel
theorem dX1_agree_16 : decode cX1_agree 16 = .ok (.aload_n 0, 1) := by decide +kernel
theorem dX1_agree_17 : decode cX1_agree 17 = .ok (.getfield 9, 3) := by decide +kernel
theorem dX1_agree_20 : decode cX1_agree 20 = .ok (.iload_n 3, 1) := by decide +kernel
theorem dX1_agree_21 : decode cX1_agree 21 = .ok (.iaload, 1) := by decide +kernel
theorem dX1_agree_22 : decode cX1_agree 22 = .ok (.iload_n 2, 1) := by decide +kernel
theorem dX1_agree_23 : decode cX1_agree 23 = .ok (.if_icmp .ne 42, 3) := by decide +kernel
theorem dX1_agree_26 : decode cX1_agree 26 = .ok (.aload_n 1, 1) := by decide +kernel
theorem dX1_agree_27 : decode cX1_agree 27 = .ok (.aload_n 0, 1) := by decide +kernel
theorem dX1_agree_28 : decode cX1_agree 28 = .ok (.getfield 15, 3) := by decide +kernel
theorem dX1_agree_31 : decode cX1_agree 31 = .ok (.iload_n 3, 1) := by decide +kernel
theorem dX1_agree_32 : decode cX1_agree 32 = .ok (.iaload, 1) := by decide +kernel
theorem dX1_agree_33 : decode cX1_agree 33 = .ok (.invokevirtual 37, 3) := by decide +kernel
theorem dX1_agree_36 : decode cX1_agree 36 = .ok (.iconst (-1), 1) := by decide +kernel
theorem dX1_agree_37 : decode cX1_agree 37 = .ok (.if_icmp .ne 7, 3) := by decide +kernel
theorem dX1_agree_40 : decode cX1_agree 40 = .ok (.iconst 1, 1) := by decide +kernel
theorem dX1_agree_41 : decode cX1_agree 41 = .ok (.goto 4, 3) := by decide +kernel
theorem dX1_agree_44 : decode cX1_agree 44 = .ok (.iconst 0, 1) := by decide +kernel
theorem dX1_agree_45 : decode cX1_agree 45 = .ok (.aload_n 0, 1) := by decide +kernel
theorem dX1_agree_46 : decode cX1_agree 46 = .ok (.getfield 18, 3) := by decide +kernel
theorem dX1_agree_49 : decode cX1_agree 49 = .ok (.iload_n 3, 1) := by decide +kernel
theorem dX1_agree_50 : decode cX1_agree 50 = .ok (.iaload, 1) := by decide +kernel
theorem dX1_agree_51 : decode cX1_agree 51 = .ok (.iconst 1, 1) := by decide +kernel
theorem dX1_agree_52 : decode cX1_agree 52 = .ok (.if_icmp .ne 7, 3) := by decide +kernel
theorem dX1_agree_55 : decode cX1_agree 55 = .ok (.iconst 1, 1) := by decide +kernel
theorem dX1_agree_56 : decode cX1_agree 56 = .ok (.goto 4, 3) := by decide +kernel
theorem dX1_agree_59 : decode cX1_agree 59 = .ok (.iconst 0, 1) := by decide +kernel
theorem dX1_agree_60 : decode cX1_agree 60 = .ok (.if_icmp .ne 5, 3) := by decide +kernel
theorem dX1_agree_63 : decode cX1_agree 63 = .ok (.iconst 0, 1) := by decide +kernel
theorem dX1_agree_64 : decode cX1_agree 64 = .ok (.ireturn, 1) := by decide +kernel
theorem dX1_agree_65 : decode cX1_agree 65 = .ok (.iinc 3 1, 3) := by decide +kernel
theorem dX1_agree_68 : decode cX1_agree 68 = .ok (.goto (-66), 3) := by decide +kernel
theorem dX1_agree_71 : decode cX1_agree 71 = .ok (.iconst 1, 1) := by decide +kernel
theorem dX1_agree_72 : decode cX1_agree 72 = .ok (.ireturn, 1) := by decide +kernel
set_option maxRecDepth 20000 in
theorem rX1_agree_0 {E : EN} (hE : Ep E) {k : Nat} {mem : Mm} {Q : Int → Mm → Prop} {y p0 p1 : Int} (hy : isFd y) (hp0 : isYd p0)
    (h : VM E mX1_agree (k + 1) mem 2 [(0, aR y), (1, aR p0), (2, aI p1), (3, aI 0)] [] (retI Q)) :
    VM E mX1_agree (k + 1) mem 0 [(0, aR y), (1, aR p0), (2, aI p1)] [] (retI Q) := by
  refine v_iconst (pc := 0) dX1_agree_0 (by decide) ?_
  refine v_istore_n (pc := 1) (al2 := [(3, aI 0), (0, aR y), (1, aR p0), (2, aI p1)]) dX1_agree_1 (by decide) rfl ?_
  exact VG_sub (al' := [(0, aR y), (1, aR p0), (2, aI p1), (3, aI 0)]) [1, 2, 3, 0] rfl h
theorem eX1_agree {E : EN} {k : Nat} {mem : Mm} {Q : Int → Mm → Prop} {y p0 p1 : Int} (hr_p1 : R32 p1) (h : VM E mX1_agree (k + 1) mem 0 [(0, aR y), (1, aR p0), (2, aI p1)] [] (retI Q)) : CI E mX1_agree (k + 1) mem [aR y, aR p0, aI p1] Q := CI_of rfl (Nat.le_of_ble_eq_true rfl) h (aNs_c (aNr_R _) (aNs_c (aNr_R _) (aNs_c (aNr_I hr_p1) (fun _ q => nomatch q))))
set_option maxRecDepth 20000 in
theorem rX1_agree_2 {E : EN} (hE : Ep E) {k : Nat} {mem : Mm} {Q : Int → Mm → Prop} {y p0 p1 x3 : Int} (hy : isFd y) (hp0 : isYd p0)
    (h : (((mem y 0) ≤ x3 → Q 1 mem) ∧ (x3 < (mem y 0) → ((8 ≤ x3 → Q 1 mem) ∧ (x3 < 8 → (0 ≤ x3 ∧ x3 < 8) ∧ ((¬ (mem (y + 1) x3) = p1 → (R32 (x3 + 1)) ∧ VM E mX1_agree (k + 1) mem 2 [(0, aR y), (1, aR p0), (2, aI p1), (3, aI (x3 + 1))] [] (retI Q)) ∧ ((mem (y + 1) x3) = p1 → (R32 (mem (y + 2) x3) → CI E mX10_plotIn k mem [aR p0, aI (mem (y + 2) x3)] (fun r4 m3 => ((¬ r4 = (-1) → ((¬ (m3 (y + 3) x3) = 1 → Q 0 m3) ∧ ((m3 (y + 3) x3) = 1 → (R32 (x3 + 1)) ∧ VM E mX1_agree (k + 1) m3 2 [(0, aR y), (1, aR p0), (2, aI p1), (3, aI (x3 + 1))] [] (retI Q)))) ∧ (r4 = (-1) → ((¬ (m3 (y + 3) x3) = 1 → (R32 (x3 + 1)) ∧ VM E mX1_agree (k + 1) m3 2 [(0, aR y), (1, aR p0), (2, aI p1), (3, aI (x3 + 1))] [] (retI Q)) ∧ ((m3 (y + 3) x3) = 1 → Q 0 m3))))))))))))) :
    VM E mX1_agree (k + 1) mem 2 [(0, aR y), (1, aR p0), (2, aI p1), (3, aI x3)] [] (retI Q) := by
  refine v_iload_n (pc := 2) dX1_agree_2 3 rfl ?_
  refine v_aload_n (pc := 3) dX1_agree_3 0 rfl ?_
  refine m_getf (pc := 4) (t := 0) (v := (mem y 0)) dX1_agree_4 flX1_21 rfl (fd0 hy) rfl ?_
  refine v_icmpge (pc := 7) (tgt := 71) dX1_agree_7 (by decide) (fun c1 => ?_) (fun c1 => ?_)
  · have h := h.1 c1
    refine v_iconst (pc := 71) dX1_agree_71 (by decide) ?_
    exact m_retZ (pc := 72) dX1_agree_72 rfl (by decide) h
  · have h := h.2 c1
    refine v_iload_n (pc := 10) dX1_agree_10 3 rfl ?_
    refine v_bipush (pc := 11) dX1_agree_11 (by decide) ?_
    refine v_icmpge (pc := 13) (tgt := 71) dX1_agree_13 (by decide) (fun c1 => ?_) (fun c1 => ?_)
    · have h := h.1 c1
      refine v_iconst (pc := 71) dX1_agree_71 (by decide) ?_
      exact m_retZ (pc := 72) dX1_agree_72 rfl (by decide) h
    · have h := h.2 c1
      refine v_aload_n (pc := 16) dX1_agree_16 0 rfl ?_
      refine m_getfin (pc := 17) (v := (y + 1)) hE dX1_agree_17 flX1_9 rfl (fd0 hy) rfl ?_
      refine v_iload_n (pc := 20) dX1_agree_20 3 rfl ?_
      obtain ⟨o1, h⟩ := h
      refine m_iald (pc := 21) (v := (mem (y + 1) x3)) dX1_agree_21 (fd1 hy) o1.1 o1.2 rfl ?_
      refine v_iload_n (pc := 22) dX1_agree_22 2 rfl ?_
      refine v_icmpne (pc := 23) (tgt := 65) dX1_agree_23 (by decide) (fun c1 => ?_) (fun c1 => ?_)
      · have h := h.1 c1
        obtain ⟨o2, h⟩ := h
        refine m_iinc (pc := 65) (al2 := [(3, aI (x3 + 1)), (0, aR y), (1, aR p0), (2, aI p1)]) dX1_agree_65 3 rfl (by decide) o2 rfl ?_
        refine v_goto (pc := 68) (tgt := 2) dX1_agree_68 (by decide) ?_
        exact VG_sub (al' := [(0, aR y), (1, aR p0), (2, aI p1), (3, aI (x3 + 1))]) [1, 2, 3, 0] rfl h
      · have h := h.2 c1
        refine v_aload_n (pc := 26) dX1_agree_26 1 rfl ?_
        refine v_aload_n (pc := 27) dX1_agree_27 0 rfl ?_
        refine m_getfin (pc := 28) (v := (y + 2)) hE dX1_agree_28 flX1_15 rfl (fd0 hy) rfl ?_
        refine v_iload_n (pc := 31) dX1_agree_31 3 rfl ?_
        refine m_iald (pc := 32) (v := (mem (y + 2) x3)) dX1_agree_32 (fd2 hy) o1.1 o1.2 rfl ?_
        refine m_invI (pc := 33) (mi' := mX10_plotIn) (rest := []) [aI (mem (y + 2) x3)] dX1_agree_33 (yd0 hp0) (by decide) rfl msX10_plotIn mvX10_plotIn lkX1_37 rfl (Nat.le_of_ble_eq_true rfl) (fun hn => CI_mono (h (aaI hn 1 rfl)) (fun r4 m3 h => ?_))
        refine v_iconst (pc := 36) dX1_agree_36 (by decide) ?_
        refine v_icmpne (pc := 37) (tgt := 44) dX1_agree_37 (by decide) (fun c1 => ?_) (fun c1 => ?_)
        · have h := h.1 c1
          refine v_iconst (pc := 44) dX1_agree_44 (by decide) ?_
          refine v_aload_n (pc := 45) dX1_agree_45 0 rfl ?_
          refine m_getfin (pc := 46) (v := (y + 3)) hE dX1_agree_46 flX1_18 rfl (fd0 hy) rfl ?_
          refine v_iload_n (pc := 49) dX1_agree_49 3 rfl ?_
          refine m_iald (pc := 50) (v := (m3 (y + 3) x3)) dX1_agree_50 (fd3 hy) o1.1 o1.2 rfl ?_
          refine v_iconst (pc := 51) dX1_agree_51 (by decide) ?_
          refine v_icmpne (pc := 52) (tgt := 59) dX1_agree_52 (by decide) (fun c1 => ?_) (fun c1 => ?_)
          · have h := h.1 c1
            refine v_iconst (pc := 59) dX1_agree_59 (by decide) ?_
            refine v_icmpne (pc := 60) (tgt := 65) dX1_agree_60 (by decide) (fun c1 => absurd c1 (by decide)) (fun c1 => ?_)
            refine v_iconst (pc := 63) dX1_agree_63 (by decide) ?_
            exact m_retZ (pc := 64) dX1_agree_64 rfl (by decide) h
          · have h := h.2 c1
            refine v_iconst (pc := 55) dX1_agree_55 (by decide) ?_
            refine v_goto (pc := 56) (tgt := 60) dX1_agree_56 (by decide) ?_
            refine v_icmpne (pc := 60) (tgt := 65) dX1_agree_60 (by decide) (fun c1 => ?_) (fun c1 => absurd c1 (by decide))
            obtain ⟨o5, h⟩ := h
            refine m_iinc (pc := 65) (al2 := [(3, aI (x3 + 1)), (0, aR y), (1, aR p0), (2, aI p1)]) dX1_agree_65 3 rfl (by decide) o5 rfl ?_
            refine v_goto (pc := 68) (tgt := 2) dX1_agree_68 (by decide) ?_
            exact VG_sub (al' := [(0, aR y), (1, aR p0), (2, aI p1), (3, aI (x3 + 1))]) [1, 2, 3, 0] rfl h
        · have h := h.2 c1
          refine v_iconst (pc := 40) dX1_agree_40 (by decide) ?_
          refine v_goto (pc := 41) (tgt := 45) dX1_agree_41 (by decide) ?_
          refine v_aload_n (pc := 45) dX1_agree_45 0 rfl ?_
          refine m_getfin (pc := 46) (v := (y + 3)) hE dX1_agree_46 flX1_18 rfl (fd0 hy) rfl ?_
          refine v_iload_n (pc := 49) dX1_agree_49 3 rfl ?_
          refine m_iald (pc := 50) (v := (m3 (y + 3) x3)) dX1_agree_50 (fd3 hy) o1.1 o1.2 rfl ?_
          refine v_iconst (pc := 51) dX1_agree_51 (by decide) ?_
          refine v_icmpne (pc := 52) (tgt := 59) dX1_agree_52 (by decide) (fun c1 => ?_) (fun c1 => ?_)
          · have h := h.1 c1
            refine v_iconst (pc := 59) dX1_agree_59 (by decide) ?_
            refine v_icmpne (pc := 60) (tgt := 65) dX1_agree_60 (by decide) (fun c1 => ?_) (fun c1 => absurd c1 (by decide))
            obtain ⟨o6, h⟩ := h
            refine m_iinc (pc := 65) (al2 := [(3, aI (x3 + 1)), (0, aR y), (1, aR p0), (2, aI p1)]) dX1_agree_65 3 rfl (by decide) o6 rfl ?_
            refine v_goto (pc := 68) (tgt := 2) dX1_agree_68 (by decide) ?_
            exact VG_sub (al' := [(0, aR y), (1, aR p0), (2, aI p1), (3, aI (x3 + 1))]) [1, 2, 3, 0] rfl h
          · have h := h.2 c1
            refine v_iconst (pc := 55) dX1_agree_55 (by decide) ?_
            refine v_goto (pc := 56) (tgt := 60) dX1_agree_56 (by decide) ?_
            refine v_icmpne (pc := 60) (tgt := 65) dX1_agree_60 (by decide) (fun c1 => absurd c1 (by decide)) (fun c1 => ?_)
            refine v_iconst (pc := 63) dX1_agree_63 (by decide) ?_
            exact m_retZ (pc := 64) dX1_agree_64 rfl (by decide) h
