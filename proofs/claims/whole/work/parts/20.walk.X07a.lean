theorem dX7_append_0 : decode cX7_append 0 = .ok (.bipush 24, 2) := by decide +kernel
theorem dX7_append_2 : decode cX7_append 2 = .ok (.istore_n 2, 1) := by decide +kernel
theorem dX7_append_3 : decode cX7_append 3 = .ok (.iload_n 2, 1) := by decide +kernel
theorem dX7_append_4 : decode cX7_append 4 = .ok (.ifCond .lt 52, 3) := by decide +kernel
theorem dX7_append_7 : decode cX7_append 7 = .ok (.aload_n 0, 1) := by decide +kernel
theorem dX7_append_8 : decode cX7_append 8 = .ok (.getfield 25, 3) := by decide +kernel
theorem dX7_append_11 : decode cX7_append 11 = .ok (.ifCond .lt 45, 3) := by decide +kernel
theorem dX7_append_14 : decode cX7_append 14 = .ok (.aload_n 0, 1) := by decide +kernel
theorem dX7_append_15 : decode cX7_append 15 = .ok (.getfield 25, 3) := by decide +kernel
theorem dX7_append_18 : decode cX7_append 18 = .ok (.sipush 400, 3) := by decide +kernel
theorem dX7_append_21 : decode cX7_append 21 = .ok (.if_icmp .ge 35, 3) := by decide +kernel
theorem dX7_append_24 : decode cX7_append 24 = .ok (.aload_n 0, 1) := by decide +kernel
theorem dX7_append_25 : decode cX7_append 25 = .ok (.getfield 9, 3) := by decide +kernel
theorem dX7_append_28 : decode cX7_append 28 = .ok (.aload_n 0, 1) := by decide +kernel
theorem dX7_append_29 : decode cX7_append 29 = .ok (.getfield 25, 3) := by decide +kernel
theorem dX7_append_32 : decode cX7_append 32 = .ok (.iload_n 1, 1) := by decide +kernel
theorem dX7_append_33 : decode cX7_append 33 = .ok (.iload_n 2, 1) := by decide +kernel
theorem dX7_append_34 : decode cX7_append 34 = .ok (.iushr, 1) := by decide +kernel
theorem dX7_append_35 : decode cX7_append 35 = .ok (.sipush 255, 3) := by decide +kernel
theorem dX7_append_38 : decode cX7_append 38 = .ok (.iand, 1) := by decide +kernel
theorem dX7_append_39 : decode cX7_append 39 = .ok (.iastore, 1) := by decide +kernel
theorem dX7_append_40 : decode cX7_append 40 = .ok (.aload_n 0, 1) := by decide +kernel
theorem dX7_append_41 : decode cX7_append 41 = .ok (.dup, 1) := by decide +kernel
theorem dX7_append_42 : decode cX7_append 42 = .ok (.getfield 25, 3) := by decide +kernel
theorem dX7_append_45 : decode cX7_append 45 = .ok (.iconst 1, 1) := by decide +kernel
theorem dX7_append_46 : decode cX7_append 46 = .ok (.iadd, 1) := by decide +kernel
theorem dX7_append_47 : decode cX7_append 47 = .ok (.putfield 25, 3) := by decide +kernel
theorem dX7_append_50 : decode cX7_append 50 = .ok (.iinc 2 (-8), 3) := by decide +kernel
theorem dX7_append_53 : decode cX7_append 53 = .ok (.goto (-50), 3) := by decide +kernel
theorem dX7_append_56 : decode cX7_append 56 = .ok (.return_, 1) := by decide +kernel
set_option maxRecDepth 20000 in
theorem rX7_append_0 {E : EN} (hE : Ep E) {k : Nat} {mem : Mm} {Q : Mm → Prop} {p0 : Int}
    (h : VM E mX7_append k mem 3 [(0, aR 591), (1, aI p0), (2, aI 24)] [] (retV Q)) :
    VM E mX7_append k mem 0 [(0, aR 591), (1, aI p0)] [] (retV Q) := by
  refine v_bipush (pc := 0) dX7_append_0 (by decide) ?_
  refine v_istore_n (pc := 2) (al2 := [(2, aI 24), (0, aR 591), (1, aI p0)]) dX7_append_2 (by decide) rfl ?_
  exact VG_sub (al' := [(0, aR 591), (1, aI p0), (2, aI 24)]) [1, 2, 0] rfl h
theorem eX7_append {E : EN} {k : Nat} {mem : Mm} {Q : Mm → Prop} {p0 : Int} (hr_p0 : R32 p0) (h : VM E mX7_append k mem 0 [(0, aR 591), (1, aI p0)] [] (retV Q)) : CV E mX7_append k mem [aR 591, aI p0] Q := CV_of rfl (Nat.le_of_ble_eq_true rfl) h (aNs_c (aNr_R _) (aNs_c (aNr_I hr_p0) (fun _ q => nomatch q)))
set_option maxRecDepth 20000 in
theorem rX7_append_3 {E : EN} (hE : Ep E) {k : Nat} {mem : Mm} {Q : Mm → Prop} {p0 x2 : Int}
    (h : ((x2 < 0 → Q mem) ∧ (0 ≤ x2 → (((mem 591 2) < 0 → Q mem) ∧ (0 ≤ (mem 591 2) → ((400 ≤ (mem 591 2) → Q mem) ∧ ((mem 591 2) < 400 → (0 ≤ (mem 591 2) ∧ (mem 591 2) < 400) ∧ (R32 ((mem 591 2) + 1)) ∧ (R32 (x2 + (-8))) ∧ VM E mX7_append k (aUp (aUp mem 592 (mem 591 2) (xAnd (xUshr p0 x2) 255)) 591 2 ((mem 591 2) + 1)) 3 [(0, aR 591), (1, aI p0), (2, aI (x2 + (-8)))] [] (retV Q)))))))) :
    VM E mX7_append k mem 3 [(0, aR 591), (1, aI p0), (2, aI x2)] [] (retV Q) := by
  refine v_iload_n (pc := 3) dX7_append_3 2 rfl ?_
  refine v_iflt (pc := 4) (tgt := 56) dX7_append_4 (by decide) (fun c1 => ?_) (fun c1 => ?_)
  · have h := h.1 c1
    exact m_retV (pc := 56) dX7_append_56 rfl h
  · have h := h.2 c1
    refine v_aload_n (pc := 7) dX7_append_7 0 rfl ?_
    refine m_getf (pc := 8) (t := 0) (v := (mem 591 2)) dX7_append_8 flX7_25 rfl at591 rfl ?_
    refine v_iflt (pc := 11) (tgt := 56) dX7_append_11 (by decide) (fun c1 => ?_) (fun c1 => ?_)
    · have h := h.1 c1
      exact m_retV (pc := 56) dX7_append_56 rfl h
    · have h := h.2 c1
      refine v_aload_n (pc := 14) dX7_append_14 0 rfl ?_
      refine m_getf (pc := 15) (t := 0) (v := (mem 591 2)) dX7_append_15 flX7_25 rfl at591 rfl ?_
      refine v_sipush (pc := 18) dX7_append_18 (by decide) ?_
      refine v_icmpge (pc := 21) (tgt := 56) dX7_append_21 (by decide) (fun c1 => ?_) (fun c1 => ?_)
      · have h := h.1 c1
        exact m_retV (pc := 56) dX7_append_56 rfl h
      · have h := h.2 c1
        refine v_aload_n (pc := 24) dX7_append_24 0 rfl ?_
        refine m_getfin (pc := 25) (v := 592) hE dX7_append_25 flX7_9 rfl at591 rfl ?_
        refine v_aload_n (pc := 28) dX7_append_28 0 rfl ?_
        refine m_getf (pc := 29) (t := 0) (v := (mem 591 2)) dX7_append_29 flX7_25 rfl at591 rfl ?_
        refine v_iload_n (pc := 32) dX7_append_32 1 rfl ?_
        refine v_iload_n (pc := 33) dX7_append_33 2 rfl ?_
        refine v_iushr (pc := 34) dX7_append_34 ?_
        refine v_sipush (pc := 35) dX7_append_35 (by decide) ?_
        refine v_iand (pc := 38) dX7_append_38 ?_
        obtain ⟨o1, h⟩ := h
        refine v_iast (pc := 39) dX7_append_39 at592 o1.1 o1.2 ?_
        refine v_aload_n (pc := 40) dX7_append_40 0 rfl ?_
        refine v_dup (pc := 41) dX7_append_41 rfl ?_
        refine m_getf (pc := 42) (t := 0) (v := (mem 591 2)) dX7_append_42 flX7_25 rfl at591 (aUp_rn (by omega)) ?_
        refine v_iconst (pc := 45) dX7_append_45 (by decide) ?_
        obtain ⟨o2, h⟩ := h
        refine m_iadd (pc := 46) dX7_append_46 o2 ?_
        refine v_putf (pc := 47) dX7_append_47 flX7_25 ⟨_, _, rfl, Or.inl rfl⟩ rfl (by decide) (fun q => nomatch q) (Or.inl fun _ => rfl) at591 ?_
        obtain ⟨o3, h⟩ := h
        refine m_iinc (pc := 50) (al2 := [(2, aI (x2 + (-8))), (0, aR 591), (1, aI p0)]) dX7_append_50 2 rfl (by decide) o3 rfl ?_
        refine v_goto (pc := 53) (tgt := 3) dX7_append_53 (by decide) ?_
        exact VG_sub (al' := [(0, aR 591), (1, aI p0), (2, aI (x2 + (-8)))]) [1, 2, 0] rfl h

theorem dX7_read_0 : decode cX7_read 0 = .ok (.aload_n 0, 1) := by decide +kernel
theorem dX7_read_1 : decode cX7_read 1 = .ok (.aload_n 0, 1) := by decide +kernel
theorem dX7_read_2 : decode cX7_read 2 = .ok (.getfield 25, 3) := by decide +kernel
theorem dX7_read_5 : decode cX7_read 5 = .ok (.sipush 400, 3) := by decide +kernel
theorem dX7_read_8 : decode cX7_read 8 = .ok (.invokestatic 29, 3) := by decide +kernel
theorem dX7_read_11 : decode cX7_read 11 = .ok (.putfield 35, 3) := by decide +kernel
theorem dX7_read_14 : decode cX7_read 14 = .ok (.aload_n 0, 1) := by decide +kernel
theorem dX7_read_15 : decode cX7_read 15 = .ok (.iconst 0, 1) := by decide +kernel
theorem dX7_read_16 : decode cX7_read 16 = .ok (.putfield 25, 3) := by decide +kernel
theorem dX7_read_19 : decode cX7_read 19 = .ok (.aload_n 0, 1) := by decide +kernel
theorem dX7_read_20 : decode cX7_read 20 = .ok (.aload_n 1, 1) := by decide +kernel
theorem dX7_read_21 : decode cX7_read 21 = .ok (.putfield 22, 3) := by decide +kernel
theorem dX7_read_24 : decode cX7_read 24 = .ok (.aload_n 0, 1) := by decide +kernel
theorem dX7_read_25 : decode cX7_read 25 = .ok (.iload_n 2, 1) := by decide +kernel
theorem dX7_read_26 : decode cX7_read 26 = .ok (.putfield 38, 3) := by decide +kernel
theorem dX7_read_29 : decode cX7_read 29 = .ok (.aload_n 0, 1) := by decide +kernel
theorem dX7_read_30 : decode cX7_read 30 = .ok (.iconst 0, 1) := by decide +kernel
theorem dX7_read_31 : decode cX7_read 31 = .ok (.putfield 42, 3) := by decide +kernel
theorem dX7_read_34 : decode cX7_read 34 = .ok (.aload_n 0, 1) := by decide +kernel
theorem dX7_read_35 : decode cX7_read 35 = .ok (.iconst 0, 1) := by decide +kernel
theorem dX7_read_36 : decode cX7_read 36 = .ok (.putfield 45, 3) := by decide +kernel
theorem dX7_read_39 : decode cX7_read 39 = .ok (.aload_n 0, 1) := by decide +kernel
theorem dX7_read_40 : decode cX7_read 40 = .ok (.getfield 22, 3) := by decide +kernel
theorem dX7_read_43 : decode cX7_read 43 = .ok (.invokevirtual 48, 3) := by decide +kernel
theorem dX7_read_46 : decode cX7_read 46 = .ok (.aload_n 0, 1) := by decide +kernel
theorem dX7_read_47 : decode cX7_read 47 = .ok (.invokevirtual 51, 3) := by decide +kernel
theorem dX7_read_50 : decode cX7_read 50 = .ok (.iconst 0, 1) := by decide +kernel
theorem dX7_read_51 : decode cX7_read 51 = .ok (.istore_n 3, 1) := by decide +kernel
theorem dX7_read_52 : decode cX7_read 52 = .ok (.iload_n 3, 1) := by decide +kernel
theorem dX7_read_53 : decode cX7_read 53 = .ok (.bipush 12, 2) := by decide +kernel
theorem dX7_read_55 : decode cX7_read 55 = .ok (.if_icmp .ge 61, 3) := by decide +kernel
theorem dX7_read_58 : decode cX7_read 58 = .ok (.aload_n 0, 1) := by decide +kernel
theorem dX7_read_59 : decode cX7_read 59 = .ok (.invokevirtual 54, 3) := by decide +kernel
theorem dX7_read_62 : decode cX7_read 62 = .ok (.ifCond .ne 8, 3) := by decide +kernel
theorem dX7_read_65 : decode cX7_read 65 = .ok (.aload_n 0, 1) := by decide +kernel
theorem dX7_read_66 : decode cX7_read 66 = .ok (.getfield 58, 3) := by decide +kernel
theorem dX7_read_69 : decode cX7_read 69 = .ok (.ireturn, 1) := by decide +kernel
theorem dX7_read_70 : decode cX7_read 70 = .ok (.aload_n 0, 1) := by decide +kernel
theorem dX7_read_71 : decode cX7_read 71 = .ok (.getfield 22, 3) := by decide +kernel
theorem dX7_read_74 : decode cX7_read 74 = .ok (.dup, 1) := by decide +kernel
theorem dX7_read_75 : decode cX7_read 75 = .ok (.getfield 61, 3) := by decide +kernel
theorem dX7_read_78 : decode cX7_read 78 = .ok (.iconst 1, 1) := by decide +kernel
theorem dX7_read_79 : decode cX7_read 79 = .ok (.iadd, 1) := by decide +kernel
theorem dX7_read_80 : decode cX7_read 80 = .ok (.putfield 61, 3) := by decide +kernel
theorem dX7_read_83 : decode cX7_read 83 = .ok (.aload_n 0, 1) := by decide +kernel
theorem dX7_read_84 : decode cX7_read 84 = .ok (.getfield 64, 3) := by decide +kernel
theorem dX7_read_87 : decode cX7_read 87 = .ok (.ifCond .ne 5, 3) := by decide +kernel
theorem dX7_read_90 : decode cX7_read 90 = .ok (.iconst (-1), 1) := by decide +kernel
theorem dX7_read_91 : decode cX7_read 91 = .ok (.ireturn, 1) := by decide +kernel
theorem dX7_read_92 : decode cX7_read 92 = .ok (.aload_n 0, 1) := by decide +kernel
theorem dX7_read_93 : decode cX7_read 93 = .ok (.bipush 59, 2) := by decide +kernel
theorem dX7_read_95 : decode cX7_read 95 = .ok (.invokevirtual 67, 3) := by decide +kernel
theorem dX7_read_98 : decode cX7_read 98 = .ok (.ifCond .ne 8, 3) := by decide +kernel
theorem dX7_read_101 : decode cX7_read 101 = .ok (.aload_n 0, 1) := by decide +kernel
theorem dX7_read_102 : decode cX7_read 102 = .ok (.getfield 58, 3) := by decide +kernel
theorem dX7_read_105 : decode cX7_read 105 = .ok (.ireturn, 1) := by decide +kernel
theorem dX7_read_106 : decode cX7_read 106 = .ok (.aload_n 0, 1) := by decide +kernel
theorem dX7_read_107 : decode cX7_read 107 = .ok (.invokevirtual 51, 3) := by decide +kernel
theorem dX7_read_110 : decode cX7_read 110 = .ok (.iinc 3 1, 3) := by decide +kernel
theorem dX7_read_113 : decode cX7_read 113 = .ok (.goto (-61), 3) := by decide +kernel
theorem dX7_read_116 : decode cX7_read 116 = .ok (.aload_n 0, 1) := by decide +kernel
theorem dX7_read_117 : decode cX7_read 117 = .ok (.getfield 58, 3) := by decide +kernel
theorem dX7_read_120 : decode cX7_read 120 = .ok (.ireturn, 1) := by decide +kernel
set_option maxRecDepth 20000 in
theorem rX7_read_0 {E : EN} (hE : Ep E) {k : Nat} {mem : Mm} {Q : Int → Mm → Prop} {p0 p1 : Int} (hp0 : isTx p0)
    (h : (p1 = 0 ∨ p1 = 1) ∧ (isTx p0) ∧ (CV E mX9_clear k (aUp (aUp (aUp (aUp (aUp (aUp mem 591 3 (min (mem 591 2) 400)) 591 2 0) 591 4 p0) 591 5 p1) 591 6 0) 591 8 0) [aR p0] (fun m3 => (CV E mX7_advance k m3 [aR 591] (fun m4 => VM E mX7_read (k + 1) m4 52 [(0, aR 591), (3, aI 0)] [] (retI Q)))))) :
    VM E mX7_read (k + 1) mem 0 [(0, aR 591), (1, aR p0), (2, aI p1)] [] (retI Q) := by
  refine v_aload_n (pc := 0) dX7_read_0 0 rfl ?_
  refine v_aload_n (pc := 1) dX7_read_1 0 rfl ?_
  refine m_getf (pc := 2) (t := 0) (v := (mem 591 2)) dX7_read_2 flX7_25 rfl at591 rfl ?_
  refine v_sipush (pc := 5) dX7_read_5 (by decide) ?_
  refine m_mmin (pc := 8) dX7_read_8 lmX7_29 sM_min iM cM_min (Nat.le_of_ble_eq_true rfl) ?_
  refine v_putf (pc := 11) dX7_read_11 flX7_35 ⟨_, _, rfl, Or.inl rfl⟩ rfl (by decide) (fun q => nomatch q) (Or.inl fun _ => rfl) at591 ?_
  refine v_aload_n (pc := 14) dX7_read_14 0 rfl ?_
  refine v_iconst (pc := 15) dX7_read_15 (by decide) ?_
  refine v_putf (pc := 16) dX7_read_16 flX7_25 ⟨_, _, rfl, Or.inl rfl⟩ rfl (by decide) (fun q => nomatch q) (Or.inl fun _ => rfl) at591 ?_
  refine v_aload_n (pc := 19) dX7_read_19 0 rfl ?_
  refine v_aload_n (pc := 20) dX7_read_20 1 rfl ?_
  refine v_putf (pc := 21) dX7_read_21 flX7_22 ⟨_, _, rfl, Or.inl rfl⟩ rfl (by decide) (fun q => nomatch q) (Or.inl fun _ => rfl) at591 ?_
  refine v_aload_n (pc := 24) dX7_read_24 0 rfl ?_
  refine v_iload_n (pc := 25) dX7_read_25 2 rfl ?_
  obtain ⟨o1, h⟩ := h
  refine v_putf (pc := 26) dX7_read_26 flX7_38 ⟨_, _, rfl, Or.inl rfl⟩ rfl (by decide) (fun _ => o1) (Or.inl fun _ => rfl) at591 ?_
  refine v_aload_n (pc := 29) dX7_read_29 0 rfl ?_
  refine v_iconst (pc := 30) dX7_read_30 (by decide) ?_
  refine v_putf (pc := 31) dX7_read_31 flX7_42 ⟨_, _, rfl, Or.inl rfl⟩ rfl (by decide) (fun q => nomatch q) (Or.inl fun _ => rfl) at591 ?_
  refine v_aload_n (pc := 34) dX7_read_34 0 rfl ?_
  refine v_iconst (pc := 35) dX7_read_35 (by decide) ?_
  refine v_putf (pc := 36) dX7_read_36 flX7_45 ⟨_, _, rfl, Or.inl rfl⟩ rfl (by decide) (fun q => nomatch q) (Or.inl fun _ => rfl) at591 ?_
  refine v_aload_n (pc := 39) dX7_read_39 0 rfl ?_
  refine m_getf (pc := 40) (t := 2) (v := p0) dX7_read_40 flX7_22 rfl at591 ((aUp_ri (by decide)).trans ((aUp_ri (by decide)).trans ((aUp_ri (by decide)).trans (aUp_re)))) ?_
  obtain ⟨o2, h⟩ := h
  refine m_invV (pc := 43) (mi' := mX9_clear) (rest := []) [] dX7_read_43 (tx0 o2) (by decide) rfl msX9_clear mvX9_clear lkX7_48 rfl (Nat.le_of_ble_eq_true rfl) (fun hn => CV_mono (h) (fun m3 h => ?_))
  refine v_aload_n (pc := 46) dX7_read_46 0 rfl ?_
  refine m_invV (pc := 47) (mi' := mX7_advance) (rest := []) [] dX7_read_47 at591 (by decide) rfl msX7_advance mvX7_advance lkX7_51 rfl (Nat.le_of_ble_eq_true rfl) (fun hn => CV_mono (h) (fun m4 h => ?_))
  refine v_iconst (pc := 50) dX7_read_50 (by decide) ?_
  refine v_istore_n (pc := 51) (al2 := [(3, aI 0), (0, aR 591), (1, aR p0), (2, aI p1)]) dX7_read_51 (by decide) rfl ?_
  exact VG_sub (al' := [(0, aR 591), (3, aI 0)]) [1, 0] rfl h
theorem eX7_read {E : EN} {k : Nat} {mem : Mm} {Q : Int → Mm → Prop} {p0 p1 : Int} (hr_p1 : R32 p1) (h : VM E mX7_read (k + 1) mem 0 [(0, aR 591), (1, aR p0), (2, aI p1)] [] (retI Q)) : CI E mX7_read (k + 1) mem [aR 591, aR p0, aI p1] Q := CI_of rfl (Nat.le_of_ble_eq_true rfl) h (aNs_c (aNr_R _) (aNs_c (aNr_R _) (aNs_c (aNr_I hr_p1) (fun _ q => nomatch q))))
set_option maxRecDepth 20000 in
theorem rX7_read_52 {E : EN} (hE : Ep E) {k : Nat} {mem : Mm} {Q : Int → Mm → Prop} {p0 p1 x3 : Int} (hp0 : isTx p0)
    (h : ((12 ≤ x3 → Q (mem 591 7) mem) ∧ (x3 < 12 → (CI E mX7_readClause k mem [aR 591] (fun r2 m1 => ((¬ r2 = 0 → (isTx (m1 591 4)) ∧ (R32 ((m1 (m1 591 4) 0) + 1)) ∧ ((¬ ((aUp m1 (m1 591 4) 0 ((m1 (m1 591 4) 0) + 1)) 591 9) = 0 → (CI E mX7_isSign k (aUp m1 (m1 591 4) 0 ((m1 (m1 591 4) 0) + 1)) [aR 591, aI 59] (fun r6 m5 => ((¬ r6 = 0 → (CV E mX7_advance k m5 [aR 591] (fun m7 => (R32 (x3 + 1)) ∧ VM E mX7_read (k + 1) m7 52 [(0, aR 591), (3, aI (x3 + 1))] [] (retI Q)))) ∧ (r6 = 0 → Q (m5 591 7) m5))))) ∧ (((aUp m1 (m1 591 4) 0 ((m1 (m1 591 4) 0) + 1)) 591 9) = 0 → Q (-1) (aUp m1 (m1 591 4) 0 ((m1 (m1 591 4) 0) + 1))))) ∧ (r2 = 0 → Q (m1 591 7) m1))))))) :
    VM E mX7_read (k + 1) mem 52 [(0, aR 591), (3, aI x3)] [] (retI Q) := by
  refine v_iload_n (pc := 52) dX7_read_52 1 rfl ?_
  refine v_bipush (pc := 53) dX7_read_53 (by decide) ?_
  refine v_icmpge (pc := 55) (tgt := 116) dX7_read_55 (by decide) (fun c1 => ?_) (fun c1 => ?_)
  · have h := h.1 c1
    refine v_aload_n (pc := 116) dX7_read_116 0 rfl ?_
    refine m_getf (pc := 117) (t := 0) (v := (mem 591 7)) dX7_read_117 flX7_58 rfl at591 rfl ?_
    exact m_retI (pc := 120) dX7_read_120 rfl h
  · have h := h.2 c1
    refine v_aload_n (pc := 58) dX7_read_58 0 rfl ?_
    refine m_invI (pc := 59) (mi' := mX7_readClause) (rest := []) [] dX7_read_59 at591 (by decide) rfl msX7_readClause mvX7_readClause lkX7_54 rfl (Nat.le_of_ble_eq_true rfl) (fun hn => CI_mono (h) (fun r2 m1 h => ?_))
    refine v_ifne (pc := 62) (tgt := 70) dX7_read_62 (by decide) (fun c1 => ?_) (fun c1 => ?_)
    · have h := h.1 c1
      refine v_aload_n (pc := 70) dX7_read_70 0 rfl ?_
      refine m_getf (pc := 71) (t := 2) (v := (m1 591 4)) dX7_read_71 flX7_22 rfl at591 rfl ?_
      refine v_dup (pc := 74) dX7_read_74 rfl ?_
      obtain ⟨o3, h⟩ := h
      refine m_getf (pc := 75) (t := 0) (v := (m1 (m1 591 4) 0)) dX7_read_75 flX7_61 rfl (tx0 o3) rfl ?_
      refine v_iconst (pc := 78) dX7_read_78 (by decide) ?_
      obtain ⟨o4, h⟩ := h
      refine m_iadd (pc := 79) dX7_read_79 o4 ?_
      refine v_putf (pc := 80) dX7_read_80 flX7_61 ⟨_, _, rfl, Or.inl rfl⟩ rfl (by decide) (fun q => nomatch q) (Or.inl fun _ => rfl) (tx0 o3) ?_
      refine v_aload_n (pc := 83) dX7_read_83 0 rfl ?_
      refine m_getf (pc := 84) (t := 0) (v := ((aUp m1 (m1 591 4) 0 ((m1 (m1 591 4) 0) + 1)) 591 9)) dX7_read_84 flX7_64 rfl at591 rfl ?_
      refine v_ifne (pc := 87) (tgt := 92) dX7_read_87 (by decide) (fun c1 => ?_) (fun c1 => ?_)
      · have h := h.1 c1
        refine v_aload_n (pc := 92) dX7_read_92 0 rfl ?_
        refine v_bipush (pc := 93) dX7_read_93 (by decide) ?_
        refine m_invI (pc := 95) (mi' := mX7_isSign) (rest := []) [aI 59] dX7_read_95 at591 (by decide) rfl msX7_isSign mvX7_isSign lkX7_67 rfl (Nat.le_of_ble_eq_true rfl) (fun hn => CI_mono (h) (fun r6 m5 h => ?_))
        refine v_ifne (pc := 98) (tgt := 106) dX7_read_98 (by decide) (fun c1 => ?_) (fun c1 => ?_)
        · have h := h.1 c1
          refine v_aload_n (pc := 106) dX7_read_106 0 rfl ?_
          refine m_invV (pc := 107) (mi' := mX7_advance) (rest := []) [] dX7_read_107 at591 (by decide) rfl msX7_advance mvX7_advance lkX7_51 rfl (Nat.le_of_ble_eq_true rfl) (fun hn => CV_mono (h) (fun m7 h => ?_))
          obtain ⟨o8, h⟩ := h
          refine m_iinc (pc := 110) (al2 := [(3, aI (x3 + 1)), (0, aR 591)]) dX7_read_110 1 rfl (by decide) o8 rfl ?_
          refine v_goto (pc := 113) (tgt := 52) dX7_read_113 (by decide) ?_
          exact VG_sub (al' := [(0, aR 591), (3, aI (x3 + 1))]) [1, 0] rfl h
        · have h := h.2 c1
          refine v_aload_n (pc := 101) dX7_read_101 0 rfl ?_
          refine m_getf (pc := 102) (t := 0) (v := (m5 591 7)) dX7_read_102 flX7_58 rfl at591 rfl ?_
          exact m_retI (pc := 105) dX7_read_105 rfl h
      · have h := h.2 c1
        refine v_iconst (pc := 90) dX7_read_90 (by decide) ?_
        exact m_retI (pc := 91) dX7_read_91 rfl h
    · have h := h.2 c1
      refine v_aload_n (pc := 65) dX7_read_65 0 rfl ?_
      refine m_getf (pc := 66) (t := 0) (v := (m1 591 7)) dX7_read_66 flX7_58 rfl at591 rfl ?_
      exact m_retI (pc := 69) dX7_read_69 rfl h

theorem dX7_readClause_0 : decode cX7_readClause 0 = .ok (.aload_n 0, 1) := by decide +kernel
theorem dX7_readClause_1 : decode cX7_readClause 1 = .ok (.getfield 22, 3) := by decide +kernel
theorem dX7_readClause_4 : decode cX7_readClause 4 = .ok (.getfield 61, 3) := by decide +kernel
theorem dX7_readClause_7 : decode cX7_readClause 7 = .ok (.istore_n 1, 1) := by decide +kernel
theorem dX7_readClause_8 : decode cX7_readClause 8 = .ok (.aload_n 0, 1) := by decide +kernel
theorem dX7_readClause_9 : decode cX7_readClause 9 = .ok (.aload_n 0, 1) := by decide +kernel
theorem dX7_readClause_10 : decode cX7_readClause 10 = .ok (.getfield 38, 3) := by decide +kernel
theorem dX7_readClause_13 : decode cX7_readClause 13 = .ok (.ifCond .eq 8, 3) := by decide +kernel
theorem dX7_readClause_16 : decode cX7_readClause 16 = .ok (.ldc 71, 2) := by decide +kernel
theorem dX7_readClause_18 : decode cX7_readClause 18 = .ok (.goto 5, 3) := by decide +kernel
theorem dX7_readClause_21 : decode cX7_readClause 21 = .ok (.ldc 73, 2) := by decide +kernel
theorem dX7_readClause_23 : decode cX7_readClause 23 = .ok (.invokevirtual 75, 3) := by decide +kernel
theorem dX7_readClause_26 : decode cX7_readClause 26 = .ok (.istore_n 2, 1) := by decide +kernel
theorem dX7_readClause_27 : decode cX7_readClause 27 = .ok (.iload_n 2, 1) := by decide +kernel
theorem dX7_readClause_28 : decode cX7_readClause 28 = .ok (.iconst (-1), 1) := by decide +kernel
theorem dX7_readClause_29 : decode cX7_readClause 29 = .ok (.if_icmp .eq 13, 3) := by decide +kernel
theorem dX7_readClause_32 : decode cX7_readClause 32 = .ok (.iload_n 1, 1) := by decide +kernel
theorem dX7_readClause_33 : decode cX7_readClause 33 = .ok (.ifCond .lt 9, 3) := by decide +kernel
theorem dX7_readClause_36 : decode cX7_readClause 36 = .ok (.iload_n 1, 1) := by decide +kernel
theorem dX7_readClause_37 : decode cX7_readClause 37 = .ok (.bipush 12, 2) := by decide +kernel
theorem dX7_readClause_39 : decode cX7_readClause 39 = .ok (.if_icmp .lt 5, 3) := by decide +kernel
theorem dX7_readClause_42 : decode cX7_readClause 42 = .ok (.iconst 0, 1) := by decide +kernel
theorem dX7_readClause_43 : decode cX7_readClause 43 = .ok (.ireturn, 1) := by decide +kernel
theorem dX7_readClause_44 : decode cX7_readClause 44 = .ok (.aload_n 0, 1) := by decide +kernel
theorem dX7_readClause_45 : decode cX7_readClause 45 = .ok (.getfield 22, 3) := by decide +kernel
theorem dX7_readClause_48 : decode cX7_readClause 48 = .ok (.iload_n 2, 1) := by decide +kernel
theorem dX7_readClause_49 : decode cX7_readClause 49 = .ok (.invokevirtual 79, 3) := by decide +kernel
theorem dX7_readClause_52 : decode cX7_readClause 52 = .ok (.aload_n 0, 1) := by decide +kernel
theorem dX7_readClause_53 : decode cX7_readClause 53 = .ok (.invokevirtual 51, 3) := by decide +kernel
theorem dX7_readClause_56 : decode cX7_readClause 56 = .ok (.aload_n 0, 1) := by decide +kernel
theorem dX7_readClause_57 : decode cX7_readClause 57 = .ok (.getfield 38, 3) := by decide +kernel
theorem dX7_readClause_60 : decode cX7_readClause 60 = .ok (.ifCond .eq 15, 3) := by decide +kernel
theorem dX7_readClause_63 : decode cX7_readClause 63 = .ok (.aload_n 0, 1) := by decide +kernel
theorem dX7_readClause_64 : decode cX7_readClause 64 = .ok (.iload_n 2, 1) := by decide +kernel
theorem dX7_readClause_65 : decode cX7_readClause 65 = .ok (.iload_n 1, 1) := by decide +kernel
theorem dX7_readClause_66 : decode cX7_readClause 66 = .ok (.invokevirtual 83, 3) := by decide +kernel
theorem dX7_readClause_69 : decode cX7_readClause 69 = .ok (.ifCond .ne 28, 3) := by decide +kernel
theorem dX7_readClause_72 : decode cX7_readClause 72 = .ok (.goto 23, 3) := by decide +kernel
theorem dX7_readClause_75 : decode cX7_readClause 75 = .ok (.iload_n 2, 1) := by decide +kernel
theorem dX7_readClause_76 : decode cX7_readClause 76 = .ok (.iconst 1, 1) := by decide +kernel
theorem dX7_readClause_77 : decode cX7_readClause 77 = .ok (.if_icmp .gt 20, 3) := by decide +kernel
theorem dX7_readClause_80 : decode cX7_readClause 80 = .ok (.aload_n 0, 1) := by decide +kernel
theorem dX7_readClause_81 : decode cX7_readClause 81 = .ok (.aload_n 0, 1) := by decide +kernel
theorem dX7_readClause_82 : decode cX7_readClause 82 = .ok (.getfield 22, 3) := by decide +kernel
theorem dX7_readClause_85 : decode cX7_readClause 85 = .ok (.getfield 87, 3) := by decide +kernel
theorem dX7_readClause_88 : decode cX7_readClause 88 = .ok (.iload_n 1, 1) := by decide +kernel
theorem dX7_readClause_89 : decode cX7_readClause 89 = .ok (.invokevirtual 90, 3) := by decide +kernel
theorem dX7_readClause_92 : decode cX7_readClause 92 = .ok (.ifCond .ne 5, 3) := by decide +kernel
theorem dX7_readClause_95 : decode cX7_readClause 95 = .ok (.iconst 0, 1) := by decide +kernel
theorem dX7_readClause_96 : decode cX7_readClause 96 = .ok (.ireturn, 1) := by decide +kernel
theorem dX7_readClause_97 : decode cX7_readClause 97 = .ok (.aload_n 0, 1) := by decide +kernel
theorem dX7_readClause_98 : decode cX7_readClause 98 = .ok (.ldc 94, 2) := by decide +kernel
theorem dX7_readClause_100 : decode cX7_readClause 100 = .ok (.invokevirtual 96, 3) := by decide +kernel
theorem dX7_readClause_103 : decode cX7_readClause 103 = .ok (.ifCond .ne 5, 3) := by decide +kernel
theorem dX7_readClause_106 : decode cX7_readClause 106 = .ok (.iconst 1, 1) := by decide +kernel
theorem dX7_readClause_107 : decode cX7_readClause 107 = .ok (.ireturn, 1) := by decide +kernel
theorem dX7_readClause_108 : decode cX7_readClause 108 = .ok (.aload_n 0, 1) := by decide +kernel
theorem dX7_readClause_109 : decode cX7_readClause 109 = .ok (.invokevirtual 51, 3) := by decide +kernel
theorem dX7_readClause_112 : decode cX7_readClause 112 = .ok (.aload_n 0, 1) := by decide +kernel
theorem dX7_readClause_113 : decode cX7_readClause 113 = .ok (.getfield 22, 3) := by decide +kernel
theorem dX7_readClause_116 : decode cX7_readClause 116 = .ok (.getfield 100, 3) := by decide +kernel
theorem dX7_readClause_119 : decode cX7_readClause 119 = .ok (.iload_n 1, 1) := by decide +kernel
theorem dX7_readClause_120 : decode cX7_readClause 120 = .ok (.aload_n 0, 1) := by decide +kernel
theorem dX7_readClause_121 : decode cX7_readClause 121 = .ok (.getfield 22, 3) := by decide +kernel
theorem dX7_readClause_124 : decode cX7_readClause 124 = .ok (.getfield 103, 3) := by decide +kernel
theorem dX7_readClause_127 : decode cX7_readClause 127 = .ok (.iastore, 1) := by decide +kernel
theorem dX7_readClause_128 : decode cX7_readClause 128 = .ok (.aload_n 0, 1) := by decide +kernel
theorem dX7_readClause_129 : decode cX7_readClause 129 = .ok (.iconst 0, 1) := by decide +kernel
theorem dX7_readClause_130 : decode cX7_readClause 130 = .ok (.invokevirtual 106, 3) := by decide +kernel
theorem dX7_readClause_133 : decode cX7_readClause 133 = .ok (.ifCond .ne 5, 3) := by decide +kernel
theorem dX7_readClause_136 : decode cX7_readClause 136 = .ok (.iconst 0, 1) := by decide +kernel
theorem dX7_readClause_137 : decode cX7_readClause 137 = .ok (.ireturn, 1) := by decide +kernel
theorem dX7_readClause_138 : decode cX7_readClause 138 = .ok (.aload_n 0, 1) := by decide +kernel
theorem dX7_readClause_139 : decode cX7_readClause 139 = .ok (.getfield 22, 3) := by decide +kernel
theorem dX7_readClause_142 : decode cX7_readClause 142 = .ok (.iconst 5, 1) := by decide +kernel
theorem dX7_readClause_143 : decode cX7_readClause 143 = .ok (.iconst 0, 1) := by decide +kernel
theorem dX7_readClause_144 : decode cX7_readClause 144 = .ok (.invokevirtual 109, 3) := by decide +kernel
theorem dX7_readClause_147 : decode cX7_readClause 147 = .ok (.pop, 1) := by decide +kernel
theorem dX7_readClause_148 : decode cX7_readClause 148 = .ok (.iconst 1, 1) := by decide +kernel
theorem dX7_readClause_149 : decode cX7_readClause 149 = .ok (.ireturn, 1) := by decide +kernel
set_option maxRecDepth 20000 in
theorem rX7_readClause_0 {E : EN} (hE : Ep E) {k : Nat} {mem : Mm} {Q : Int → Mm → Prop} (hSt : aStr E)
    (h : (isTx (mem 591 4)) ∧ (((mem 591 5) = 0 → (CI E mX7_wordIn k mem [aR 591, aF (strA E 1)] (fun r3 m2 => ((r3 = (-1) → VM E mX7_readClause (k + 1) m2 42 [] [] (retI Q)) ∧ (¬ r3 = (-1) → (((mem (mem 591 4) 0) < 0 → VM E mX7_readClause (k + 1) m2 42 [] [] (retI Q)) ∧ (0 ≤ (mem (mem 591 4) 0) → (((mem (mem 591 4) 0) < 12 → (isTx (m2 591 4)) ∧ (R32 r3 → CV E mX9_open k m2 [aR (m2 591 4), aI r3] (fun m5 => (CV E mX7_advance k m5 [aR 591] (fun m6 => (((m6 591 5) = 0 → ((1 < r3 → VM E mX7_readClause (k + 1) m6 97 [(0, aR 591), (1, aI (mem (mem 591 4) 0))] [] (retI Q)) ∧ (r3 ≤ 1 → (isTx (m6 591 4)) ∧ (R32 (mem (mem 591 4) 0) → CI E mX7_readWholeSum k m6 [aR 591, aR ((m6 591 4) + 3), aI (mem (mem 591 4) 0)] (fun r9 m8 => ((¬ r9 = 0 → VM E mX7_readClause (k + 1) m8 97 [(0, aR 591), (1, aI (mem (mem 591 4) 0))] [] (retI Q)) ∧ (r9 = 0 → VM E mX7_readClause (k + 1) m8 95 [] [] (retI Q)))))))) ∧ (¬ (m6 591 5) = 0 → (R32 r3 → R32 (mem (mem 591 4) 0) → CI E mX7_readActs k m6 [aR 591, aI r3, aI (mem (mem 591 4) 0)] (fun r11 m10 => ((¬ r11 = 0 → VM E mX7_readClause (k + 1) m10 97 [(0, aR 591), (1, aI (mem (mem 591 4) 0))] [] (retI Q)) ∧ (r11 = 0 → VM E mX7_readClause (k + 1) m10 95 [] [] (retI Q)))))))))))) ∧ (12 ≤ (mem (mem 591 4) 0) → VM E mX7_readClause (k + 1) m2 42 [] [] (retI Q)))))))))) ∧ (¬ (mem 591 5) = 0 → (CI E mX7_wordIn k mem [aR 591, aF (strA E 0)] (fun r13 m12 => ((r13 = (-1) → VM E mX7_readClause (k + 1) m12 42 [] [] (retI Q)) ∧ (¬ r13 = (-1) → (((mem (mem 591 4) 0) < 0 → VM E mX7_readClause (k + 1) m12 42 [] [] (retI Q)) ∧ (0 ≤ (mem (mem 591 4) 0) → (((mem (mem 591 4) 0) < 12 → (isTx (m12 591 4)) ∧ (R32 r13 → CV E mX9_open k m12 [aR (m12 591 4), aI r13] (fun m15 => (CV E mX7_advance k m15 [aR 591] (fun m16 => (((m16 591 5) = 0 → ((1 < r13 → VM E mX7_readClause (k + 1) m16 97 [(0, aR 591), (1, aI (mem (mem 591 4) 0))] [] (retI Q)) ∧ (r13 ≤ 1 → (isTx (m16 591 4)) ∧ (R32 (mem (mem 591 4) 0) → CI E mX7_readWholeSum k m16 [aR 591, aR ((m16 591 4) + 3), aI (mem (mem 591 4) 0)] (fun r19 m18 => ((¬ r19 = 0 → VM E mX7_readClause (k + 1) m18 97 [(0, aR 591), (1, aI (mem (mem 591 4) 0))] [] (retI Q)) ∧ (r19 = 0 → VM E mX7_readClause (k + 1) m18 95 [] [] (retI Q)))))))) ∧ (¬ (m16 591 5) = 0 → (R32 r13 → R32 (mem (mem 591 4) 0) → CI E mX7_readActs k m16 [aR 591, aI r13, aI (mem (mem 591 4) 0)] (fun r21 m20 => ((¬ r21 = 0 → VM E mX7_readClause (k + 1) m20 97 [(0, aR 591), (1, aI (mem (mem 591 4) 0))] [] (retI Q)) ∧ (r21 = 0 → VM E mX7_readClause (k + 1) m20 95 [] [] (retI Q)))))))))))) ∧ (12 ≤ (mem (mem 591 4) 0) → VM E mX7_readClause (k + 1) m12 42 [] [] (retI Q)))))))))))) :
    VM E mX7_readClause (k + 1) mem 0 [(0, aR 591)] [] (retI Q) := by
  refine v_aload_n (pc := 0) dX7_readClause_0 0 rfl ?_
  refine m_getf (pc := 1) (t := 2) (v := (mem 591 4)) dX7_readClause_1 flX7_22 rfl at591 rfl ?_
  obtain ⟨o1, h⟩ := h
  refine m_getf (pc := 4) (t := 0) (v := (mem (mem 591 4) 0)) dX7_readClause_4 flX7_61 rfl (tx0 o1) rfl ?_
  refine v_istore_n (pc := 7) (al2 := [(1, aI (mem (mem 591 4) 0)), (0, aR 591)]) dX7_readClause_7 (by decide) rfl ?_
  refine v_aload_n (pc := 8) dX7_readClause_8 1 rfl ?_
  refine v_aload_n (pc := 9) dX7_readClause_9 1 rfl ?_
  refine m_getf (pc := 10) (t := 0) (v := (mem 591 5)) dX7_readClause_10 flX7_38 rfl at591 rfl ?_
  refine v_ifeq (pc := 13) (tgt := 21) dX7_readClause_13 (by decide) (fun c1 => ?_) (fun c1 => ?_)
  · have h := h.1 c1
    refine m_ldcS (pc := 21) (i := 1) hSt dX7_readClause_21 (by decide) rfl ?_
    refine m_invI (pc := 23) (mi' := mX7_wordIn) (rest := []) [aF (strA E 1)] dX7_readClause_23 at591 (by decide) rfl msX7_wordIn mvX7_wordIn lkX7_75 rfl (Nat.le_of_ble_eq_true rfl) (fun hn => CI_mono (h) (fun r3 m2 h => ?_))
    refine v_istore_n (pc := 26) (al2 := [(2, aI r3), (1, aI (mem (mem 591 4) 0)), (0, aR 591)]) dX7_readClause_26 (by decide) rfl ?_
    refine v_iload_n (pc := 27) dX7_readClause_27 0 rfl ?_
    refine v_iconst (pc := 28) dX7_readClause_28 (by decide) ?_
    refine v_icmpeq (pc := 29) (tgt := 42) dX7_readClause_29 (by decide) (fun c1 => ?_) (fun c1 => ?_)
    · have h := h.1 c1
      exact VG_sub (al' := []) [] rfl h
    · have h := h.2 c1
      refine v_iload_n (pc := 32) dX7_readClause_32 1 rfl ?_
      refine v_iflt (pc := 33) (tgt := 42) dX7_readClause_33 (by decide) (fun c1 => ?_) (fun c1 => ?_)
      · have h := h.1 c1
        exact VG_sub (al' := []) [] rfl h
      · have h := h.2 c1
        refine v_iload_n (pc := 36) dX7_readClause_36 1 rfl ?_
        refine v_bipush (pc := 37) dX7_readClause_37 (by decide) ?_
        refine v_icmplt (pc := 39) (tgt := 44) dX7_readClause_39 (by decide) (fun c1 => ?_) (fun c1 => ?_)
        · have h := h.1 c1
          refine v_aload_n (pc := 44) dX7_readClause_44 2 rfl ?_
          refine m_getf (pc := 45) (t := 2) (v := (m2 591 4)) dX7_readClause_45 flX7_22 rfl at591 rfl ?_
          refine v_iload_n (pc := 48) dX7_readClause_48 0 rfl ?_
          obtain ⟨o4, h⟩ := h
          refine m_invV (pc := 49) (mi' := mX9_open) (rest := []) [aI r3] dX7_readClause_49 (tx0 o4) (by decide) rfl msX9_open mvX9_open lkX7_79 rfl (Nat.le_of_ble_eq_true rfl) (fun hn => CV_mono (h (aaI hn 1 rfl)) (fun m5 h => ?_))
          refine v_aload_n (pc := 52) dX7_readClause_52 2 rfl ?_
          refine m_invV (pc := 53) (mi' := mX7_advance) (rest := []) [] dX7_readClause_53 at591 (by decide) rfl msX7_advance mvX7_advance lkX7_51 rfl (Nat.le_of_ble_eq_true rfl) (fun hn => CV_mono (h) (fun m6 h => ?_))
          refine v_aload_n (pc := 56) dX7_readClause_56 2 rfl ?_
          refine m_getf (pc := 57) (t := 0) (v := (m6 591 5)) dX7_readClause_57 flX7_38 rfl at591 rfl ?_
          refine v_ifeq (pc := 60) (tgt := 75) dX7_readClause_60 (by decide) (fun c1 => ?_) (fun c1 => ?_)
          · have h := h.1 c1
            refine v_iload_n (pc := 75) dX7_readClause_75 0 rfl ?_
            refine v_iconst (pc := 76) dX7_readClause_76 (by decide) ?_
            refine v_icmpgt (pc := 77) (tgt := 97) dX7_readClause_77 (by decide) (fun c1 => ?_) (fun c1 => ?_)
            · have h := h.1 c1
              exact VG_sub (al' := [(0, aR 591), (1, aI (mem (mem 591 4) 0))]) [2, 1] rfl h
            · have h := h.2 c1
              refine v_aload_n (pc := 80) dX7_readClause_80 2 rfl ?_
              refine v_aload_n (pc := 81) dX7_readClause_81 2 rfl ?_
              refine m_getf (pc := 82) (t := 2) (v := (m6 591 4)) dX7_readClause_82 flX7_22 rfl at591 rfl ?_
              obtain ⟨o7, h⟩ := h
              refine m_getfin (pc := 85) (v := ((m6 591 4) + 3)) hE dX7_readClause_85 flX7_87 rfl (tx0 o7) rfl ?_
              refine v_iload_n (pc := 88) dX7_readClause_88 1 rfl ?_
              refine m_invI (pc := 89) (mi' := mX7_readWholeSum) (rest := []) [aR ((m6 591 4) + 3), aI (mem (mem 591 4) 0)] dX7_readClause_89 at591 (by decide) rfl msX7_readWholeSum mvX7_readWholeSum lkX7_90 rfl (Nat.le_of_ble_eq_true rfl) (fun hn => CI_mono (h (aaI hn 2 rfl)) (fun r9 m8 h => ?_))
              refine v_ifne (pc := 92) (tgt := 97) dX7_readClause_92 (by decide) (fun c1 => ?_) (fun c1 => ?_)
              · have h := h.1 c1
                exact VG_sub (al' := [(0, aR 591), (1, aI (mem (mem 591 4) 0))]) [2, 1] rfl h
              · have h := h.2 c1
                exact VG_sub (al' := []) [] rfl h
          · have h := h.2 c1
            refine v_aload_n (pc := 63) dX7_readClause_63 2 rfl ?_
            refine v_iload_n (pc := 64) dX7_readClause_64 0 rfl ?_
            refine v_iload_n (pc := 65) dX7_readClause_65 1 rfl ?_
            refine m_invI (pc := 66) (mi' := mX7_readActs) (rest := []) [aI r3, aI (mem (mem 591 4) 0)] dX7_readClause_66 at591 (by decide) rfl msX7_readActs mvX7_readActs lkX7_83 rfl (Nat.le_of_ble_eq_true rfl) (fun hn => CI_mono (h (aaI hn 1 rfl) (aaI hn 2 rfl)) (fun r11 m10 h => ?_))
            refine v_ifne (pc := 69) (tgt := 97) dX7_readClause_69 (by decide) (fun c1 => ?_) (fun c1 => ?_)
            · have h := h.1 c1
              exact VG_sub (al' := [(0, aR 591), (1, aI (mem (mem 591 4) 0))]) [2, 1] rfl h
            · have h := h.2 c1
              refine v_goto (pc := 72) (tgt := 95) dX7_readClause_72 (by decide) ?_
              exact VG_sub (al' := []) [] rfl h
        · have h := h.2 c1
          exact VG_sub (al' := []) [] rfl h
  · have h := h.2 c1
    refine m_ldcS (pc := 16) (i := 0) hSt dX7_readClause_16 (by decide) rfl ?_
    refine v_goto (pc := 18) (tgt := 23) dX7_readClause_18 (by decide) ?_
    refine m_invI (pc := 23) (mi' := mX7_wordIn) (rest := []) [aF (strA E 0)] dX7_readClause_23 at591 (by decide) rfl msX7_wordIn mvX7_wordIn lkX7_75 rfl (Nat.le_of_ble_eq_true rfl) (fun hn => CI_mono (h) (fun r13 m12 h => ?_))
    refine v_istore_n (pc := 26) (al2 := [(2, aI r13), (1, aI (mem (mem 591 4) 0)), (0, aR 591)]) dX7_readClause_26 (by decide) rfl ?_
    refine v_iload_n (pc := 27) dX7_readClause_27 0 rfl ?_
    refine v_iconst (pc := 28) dX7_readClause_28 (by decide) ?_
    refine v_icmpeq (pc := 29) (tgt := 42) dX7_readClause_29 (by decide) (fun c1 => ?_) (fun c1 => ?_)
    · have h := h.1 c1
      exact VG_sub (al' := []) [] rfl h
    · have h := h.2 c1
      refine v_iload_n (pc := 32) dX7_readClause_32 1 rfl ?_
      refine v_iflt (pc := 33) (tgt := 42) dX7_readClause_33 (by decide) (fun c1 => ?_) (fun c1 => ?_)
      · have h := h.1 c1
        exact VG_sub (al' := []) [] rfl h
      · have h := h.2 c1
        refine v_iload_n (pc := 36) dX7_readClause_36 1 rfl ?_
        refine v_bipush (pc := 37) dX7_readClause_37 (by decide) ?_
        refine v_icmplt (pc := 39) (tgt := 44) dX7_readClause_39 (by decide) (fun c1 => ?_) (fun c1 => ?_)
        · have h := h.1 c1
          refine v_aload_n (pc := 44) dX7_readClause_44 2 rfl ?_
          refine m_getf (pc := 45) (t := 2) (v := (m12 591 4)) dX7_readClause_45 flX7_22 rfl at591 rfl ?_
          refine v_iload_n (pc := 48) dX7_readClause_48 0 rfl ?_
          obtain ⟨o14, h⟩ := h
          refine m_invV (pc := 49) (mi' := mX9_open) (rest := []) [aI r13] dX7_readClause_49 (tx0 o14) (by decide) rfl msX9_open mvX9_open lkX7_79 rfl (Nat.le_of_ble_eq_true rfl) (fun hn => CV_mono (h (aaI hn 1 rfl)) (fun m15 h => ?_))
          refine v_aload_n (pc := 52) dX7_readClause_52 2 rfl ?_
          refine m_invV (pc := 53) (mi' := mX7_advance) (rest := []) [] dX7_readClause_53 at591 (by decide) rfl msX7_advance mvX7_advance lkX7_51 rfl (Nat.le_of_ble_eq_true rfl) (fun hn => CV_mono (h) (fun m16 h => ?_))
          refine v_aload_n (pc := 56) dX7_readClause_56 2 rfl ?_
          refine m_getf (pc := 57) (t := 0) (v := (m16 591 5)) dX7_readClause_57 flX7_38 rfl at591 rfl ?_
          refine v_ifeq (pc := 60) (tgt := 75) dX7_readClause_60 (by decide) (fun c1 => ?_) (fun c1 => ?_)
          · have h := h.1 c1
            refine v_iload_n (pc := 75) dX7_readClause_75 0 rfl ?_
            refine v_iconst (pc := 76) dX7_readClause_76 (by decide) ?_
            refine v_icmpgt (pc := 77) (tgt := 97) dX7_readClause_77 (by decide) (fun c1 => ?_) (fun c1 => ?_)
            · have h := h.1 c1
              exact VG_sub (al' := [(0, aR 591), (1, aI (mem (mem 591 4) 0))]) [2, 1] rfl h
            · have h := h.2 c1
              refine v_aload_n (pc := 80) dX7_readClause_80 2 rfl ?_
              refine v_aload_n (pc := 81) dX7_readClause_81 2 rfl ?_
              refine m_getf (pc := 82) (t := 2) (v := (m16 591 4)) dX7_readClause_82 flX7_22 rfl at591 rfl ?_
              obtain ⟨o17, h⟩ := h
              refine m_getfin (pc := 85) (v := ((m16 591 4) + 3)) hE dX7_readClause_85 flX7_87 rfl (tx0 o17) rfl ?_
              refine v_iload_n (pc := 88) dX7_readClause_88 1 rfl ?_
              refine m_invI (pc := 89) (mi' := mX7_readWholeSum) (rest := []) [aR ((m16 591 4) + 3), aI (mem (mem 591 4) 0)] dX7_readClause_89 at591 (by decide) rfl msX7_readWholeSum mvX7_readWholeSum lkX7_90 rfl (Nat.le_of_ble_eq_true rfl) (fun hn => CI_mono (h (aaI hn 2 rfl)) (fun r19 m18 h => ?_))
              refine v_ifne (pc := 92) (tgt := 97) dX7_readClause_92 (by decide) (fun c1 => ?_) (fun c1 => ?_)
              · have h := h.1 c1
                exact VG_sub (al' := [(0, aR 591), (1, aI (mem (mem 591 4) 0))]) [2, 1] rfl h
              · have h := h.2 c1
                exact VG_sub (al' := []) [] rfl h
          · have h := h.2 c1
            refine v_aload_n (pc := 63) dX7_readClause_63 2 rfl ?_
            refine v_iload_n (pc := 64) dX7_readClause_64 0 rfl ?_
            refine v_iload_n (pc := 65) dX7_readClause_65 1 rfl ?_
            refine m_invI (pc := 66) (mi' := mX7_readActs) (rest := []) [aI r13, aI (mem (mem 591 4) 0)] dX7_readClause_66 at591 (by decide) rfl msX7_readActs mvX7_readActs lkX7_83 rfl (Nat.le_of_ble_eq_true rfl) (fun hn => CI_mono (h (aaI hn 1 rfl) (aaI hn 2 rfl)) (fun r21 m20 h => ?_))
            refine v_ifne (pc := 69) (tgt := 97) dX7_readClause_69 (by decide) (fun c1 => ?_) (fun c1 => ?_)
            · have h := h.1 c1
              exact VG_sub (al' := [(0, aR 591), (1, aI (mem (mem 591 4) 0))]) [2, 1] rfl h
            · have h := h.2 c1
              refine v_goto (pc := 72) (tgt := 95) dX7_readClause_72 (by decide) ?_
              exact VG_sub (al' := []) [] rfl h
        · have h := h.2 c1
          exact VG_sub (al' := []) [] rfl h
theorem eX7_readClause {E : EN} {k : Nat} {mem : Mm} {Q : Int → Mm → Prop}  (h : VM E mX7_readClause (k + 1) mem 0 [(0, aR 591)] [] (retI Q)) : CI E mX7_readClause (k + 1) mem [aR 591] Q := CI_of rfl (Nat.le_of_ble_eq_true rfl) h (aNs_c (aNr_R _) (fun _ q => nomatch q))
set_option maxRecDepth 20000 in
theorem rX7_readClause_42 {E : EN} (hE : Ep E) {k : Nat} {mem : Mm} {Q : Int → Mm → Prop}
    (h : Q 0 mem) :
    VM E mX7_readClause (k + 1) mem 42 [] [] (retI Q) := by
  refine v_iconst (pc := 42) dX7_readClause_42 (by decide) ?_
  exact m_retZ (pc := 43) dX7_readClause_43 rfl (by decide) h
set_option maxRecDepth 20000 in
theorem rX7_readClause_97 {E : EN} (hE : Ep E) {k : Nat} {mem : Mm} {Q : Int → Mm → Prop} (hSt : aStr E) {x1 : Int}
    (h : (CI E mX7_isWord k mem [aR 591, aF (strA E 2)] (fun r2 m1 => ((¬ r2 = 0 → (CV E mX7_advance k m1 [aR 591] (fun m3 => (isTx (m3 591 4)) ∧ (0 ≤ x1 ∧ x1 < 12) ∧ (CI E mX7_readTest k (aUp m3 ((m3 591 4) + 5) x1 (m3 (m3 591 4) 8)) [aR 591, aI 0] (fun r7 m6 => ((¬ r7 = 0 → (isTx (m6 591 4)) ∧ (CI E mX9_emit k m6 [aR (m6 591 4), aI 5, aI 0] (fun r10 m9 => Q 1 m9))) ∧ (r7 = 0 → Q 0 m6))))))) ∧ (r2 = 0 → Q 1 m1))))) :
    VM E mX7_readClause (k + 1) mem 97 [(0, aR 591), (1, aI x1)] [] (retI Q) := by
  refine v_aload_n (pc := 97) dX7_readClause_97 0 rfl ?_
  refine m_ldcS (pc := 98) (i := 2) hSt dX7_readClause_98 (by decide) rfl ?_
  refine m_invI (pc := 100) (mi' := mX7_isWord) (rest := []) [aF (strA E 2)] dX7_readClause_100 at591 (by decide) rfl msX7_isWord mvX7_isWord lkX7_96 rfl (Nat.le_of_ble_eq_true rfl) (fun hn => CI_mono (h) (fun r2 m1 h => ?_))
  refine v_ifne (pc := 103) (tgt := 108) dX7_readClause_103 (by decide) (fun c1 => ?_) (fun c1 => ?_)
  · have h := h.1 c1
    refine v_aload_n (pc := 108) dX7_readClause_108 0 rfl ?_
    refine m_invV (pc := 109) (mi' := mX7_advance) (rest := []) [] dX7_readClause_109 at591 (by decide) rfl msX7_advance mvX7_advance lkX7_51 rfl (Nat.le_of_ble_eq_true rfl) (fun hn => CV_mono (h) (fun m3 h => ?_))
    refine v_aload_n (pc := 112) dX7_readClause_112 0 rfl ?_
    refine m_getf (pc := 113) (t := 2) (v := (m3 591 4)) dX7_readClause_113 flX7_22 rfl at591 rfl ?_
    obtain ⟨o4, h⟩ := h
    refine m_getfin (pc := 116) (v := ((m3 591 4) + 5)) hE dX7_readClause_116 flX7_100 rfl (tx0 o4) rfl ?_
    refine v_iload_n (pc := 119) dX7_readClause_119 1 rfl ?_
    refine v_aload_n (pc := 120) dX7_readClause_120 0 rfl ?_
    refine m_getf (pc := 121) (t := 2) (v := (m3 591 4)) dX7_readClause_121 flX7_22 rfl at591 rfl ?_
    refine m_getf (pc := 124) (t := 0) (v := (m3 (m3 591 4) 8)) dX7_readClause_124 flX7_103 rfl (tx0 o4) rfl ?_
    obtain ⟨o5, h⟩ := h
    refine v_iast (pc := 127) dX7_readClause_127 (tx5 o4) o5.1 o5.2 ?_
    refine v_aload_n (pc := 128) dX7_readClause_128 0 rfl ?_
    refine v_iconst (pc := 129) dX7_readClause_129 (by decide) ?_
    refine m_invI (pc := 130) (mi' := mX7_readTest) (rest := []) [aI 0] dX7_readClause_130 at591 (by decide) rfl msX7_readTest mvX7_readTest lkX7_106 rfl (Nat.le_of_ble_eq_true rfl) (fun hn => CI_mono (h) (fun r7 m6 h => ?_))
    refine v_ifne (pc := 133) (tgt := 138) dX7_readClause_133 (by decide) (fun c1 => ?_) (fun c1 => ?_)
    · have h := h.1 c1
      refine v_aload_n (pc := 138) dX7_readClause_138 0 rfl ?_
      refine m_getf (pc := 139) (t := 2) (v := (m6 591 4)) dX7_readClause_139 flX7_22 rfl at591 rfl ?_
      refine v_iconst (pc := 142) dX7_readClause_142 (by decide) ?_
      refine v_iconst (pc := 143) dX7_readClause_143 (by decide) ?_
      obtain ⟨o8, h⟩ := h
      refine m_invI (pc := 144) (mi' := mX9_emit) (rest := []) [aI 5, aI 0] dX7_readClause_144 (tx0 o8) (by decide) rfl msX9_emit mvX9_emit lkX7_109 rfl (Nat.le_of_ble_eq_true rfl) (fun hn => CI_mono (h) (fun r10 m9 h => ?_))
      refine v_pop (pc := 147) dX7_readClause_147 rfl ?_
      refine v_iconst (pc := 148) dX7_readClause_148 (by decide) ?_
      exact m_retZ (pc := 149) dX7_readClause_149 rfl (by decide) h
    · have h := h.2 c1
      refine v_iconst (pc := 136) dX7_readClause_136 (by decide) ?_
      exact m_retZ (pc := 137) dX7_readClause_137 rfl (by decide) h
  · have h := h.2 c1
    refine v_iconst (pc := 106) dX7_readClause_106 (by decide) ?_
    exact m_retZ (pc := 107) dX7_readClause_107 rfl (by decide) h
set_option maxRecDepth 20000 in
theorem rX7_readClause_95 {E : EN} (hE : Ep E) {k : Nat} {mem : Mm} {Q : Int → Mm → Prop}
    (h : Q 0 mem) :
    VM E mX7_readClause (k + 1) mem 95 [] [] (retI Q) := by
  refine v_iconst (pc := 95) dX7_readClause_95 (by decide) ?_
  exact m_retZ (pc := 96) dX7_readClause_96 rfl (by decide) h

theorem dX7_readActs_0 : decode cX7_readActs 0 = .ok (.iload_n 1, 1) := by decide +kernel
theorem dX7_readActs_1 : decode cX7_readActs 1 = .ok (.iconst 3, 1) := by decide +kernel
theorem dX7_readActs_2 : decode cX7_readActs 2 = .ok (.if_icmp .eq 20, 3) := by decide +kernel
theorem dX7_readActs_5 : decode cX7_readActs 5 = .ok (.aload_n 0, 1) := by decide +kernel
theorem dX7_readActs_6 : decode cX7_readActs 6 = .ok (.aload_n 0, 1) := by decide +kernel
theorem dX7_readActs_7 : decode cX7_readActs 7 = .ok (.getfield 22, 3) := by decide +kernel
theorem dX7_readActs_10 : decode cX7_readActs 10 = .ok (.getfield 87, 3) := by decide +kernel
theorem dX7_readActs_13 : decode cX7_readActs 13 = .ok (.iload_n 2, 1) := by decide +kernel
theorem dX7_readActs_14 : decode cX7_readActs 14 = .ok (.invokevirtual 90, 3) := by decide +kernel
theorem dX7_readActs_17 : decode cX7_readActs 17 = .ok (.ifCond .ne 5, 3) := by decide +kernel
theorem dX7_readActs_20 : decode cX7_readActs 20 = .ok (.iconst 0, 1) := by decide +kernel
theorem dX7_readActs_21 : decode cX7_readActs 21 = .ok (.ireturn, 1) := by decide +kernel
theorem dX7_readActs_22 : decode cX7_readActs 22 = .ok (.iload_n 1, 1) := by decide +kernel
theorem dX7_readActs_23 : decode cX7_readActs 23 = .ok (.ifCond .ne 35, 3) := by decide +kernel
theorem dX7_readActs_26 : decode cX7_readActs 26 = .ok (.aload_n 0, 1) := by decide +kernel
theorem dX7_readActs_27 : decode cX7_readActs 27 = .ok (.ldc 112, 2) := by decide +kernel
theorem dX7_readActs_29 : decode cX7_readActs 29 = .ok (.invokevirtual 96, 3) := by decide +kernel
theorem dX7_readActs_32 : decode cX7_readActs 32 = .ok (.ifCond .ne 5, 3) := by decide +kernel
theorem dX7_readActs_35 : decode cX7_readActs 35 = .ok (.iconst 0, 1) := by decide +kernel
theorem dX7_readActs_36 : decode cX7_readActs 36 = .ok (.ireturn, 1) := by decide +kernel
theorem dX7_readActs_37 : decode cX7_readActs 37 = .ok (.aload_n 0, 1) := by decide +kernel
theorem dX7_readActs_38 : decode cX7_readActs 38 = .ok (.invokevirtual 51, 3) := by decide +kernel
theorem dX7_readActs_41 : decode cX7_readActs 41 = .ok (.aload_n 0, 1) := by decide +kernel
theorem dX7_readActs_42 : decode cX7_readActs 42 = .ok (.aload_n 0, 1) := by decide +kernel
theorem dX7_readActs_43 : decode cX7_readActs 43 = .ok (.getfield 22, 3) := by decide +kernel
theorem dX7_readActs_46 : decode cX7_readActs 46 = .ok (.getfield 114, 3) := by decide +kernel
theorem dX7_readActs_49 : decode cX7_readActs 49 = .ok (.iload_n 2, 1) := by decide +kernel
theorem dX7_readActs_50 : decode cX7_readActs 50 = .ok (.invokevirtual 90, 3) := by decide +kernel
theorem dX7_readActs_53 : decode cX7_readActs 53 = .ok (.ifCond .ne 5, 3) := by decide +kernel
theorem dX7_readActs_56 : decode cX7_readActs 56 = .ok (.iconst 0, 1) := by decide +kernel
theorem dX7_readActs_57 : decode cX7_readActs 57 = .ok (.ireturn, 1) := by decide +kernel
theorem dX7_readActs_58 : decode cX7_readActs 58 = .ok (.aload_n 0, 1) := by decide +kernel
theorem dX7_readActs_59 : decode cX7_readActs 59 = .ok (.ldc 117, 2) := by decide +kernel
theorem dX7_readActs_61 : decode cX7_readActs 61 = .ok (.invokevirtual 96, 3) := by decide +kernel
theorem dX7_readActs_64 : decode cX7_readActs 64 = .ok (.ifCond .eq 51, 3) := by decide +kernel
theorem dX7_readActs_67 : decode cX7_readActs 67 = .ok (.aload_n 0, 1) := by decide +kernel
theorem dX7_readActs_68 : decode cX7_readActs 68 = .ok (.invokevirtual 51, 3) := by decide +kernel
theorem dX7_readActs_71 : decode cX7_readActs 71 = .ok (.aload_n 0, 1) := by decide +kernel
theorem dX7_readActs_72 : decode cX7_readActs 72 = .ok (.getfield 64, 3) := by decide +kernel
theorem dX7_readActs_75 : decode cX7_readActs 75 = .ok (.iconst 2, 1) := by decide +kernel
theorem dX7_readActs_76 : decode cX7_readActs 76 = .ok (.if_icmp .ne 20, 3) := by decide +kernel
theorem dX7_readActs_79 : decode cX7_readActs 79 = .ok (.aload_n 0, 1) := by decide +kernel
theorem dX7_readActs_80 : decode cX7_readActs 80 = .ok (.getfield 119, 3) := by decide +kernel
theorem dX7_readActs_83 : decode cX7_readActs 83 = .ok (.iconst 1, 1) := by decide +kernel
theorem dX7_readActs_84 : decode cX7_readActs 84 = .ok (.if_icmp .lt 12, 3) := by decide +kernel
theorem dX7_readActs_87 : decode cX7_readActs 87 = .ok (.aload_n 0, 1) := by decide +kernel
theorem dX7_readActs_88 : decode cX7_readActs 88 = .ok (.getfield 119, 3) := by decide +kernel
theorem dX7_readActs_91 : decode cX7_readActs 91 = .ok (.bipush 20, 2) := by decide +kernel
theorem dX7_readActs_93 : decode cX7_readActs 93 = .ok (.if_icmp .le 5, 3) := by decide +kernel
theorem dX7_readActs_96 : decode cX7_readActs 96 = .ok (.iconst 0, 1) := by decide +kernel
theorem dX7_readActs_97 : decode cX7_readActs 97 = .ok (.ireturn, 1) := by decide +kernel
theorem dX7_readActs_98 : decode cX7_readActs 98 = .ok (.aload_n 0, 1) := by decide +kernel
theorem dX7_readActs_99 : decode cX7_readActs 99 = .ok (.getfield 22, 3) := by decide +kernel
theorem dX7_readActs_102 : decode cX7_readActs 102 = .ok (.getfield 122, 3) := by decide +kernel
theorem dX7_readActs_105 : decode cX7_readActs 105 = .ok (.iload_n 2, 1) := by decide +kernel
theorem dX7_readActs_106 : decode cX7_readActs 106 = .ok (.aload_n 0, 1) := by decide +kernel
theorem dX7_readActs_107 : decode cX7_readActs 107 = .ok (.getfield 119, 3) := by decide +kernel
theorem dX7_readActs_110 : decode cX7_readActs 110 = .ok (.iastore, 1) := by decide +kernel
theorem dX7_readActs_111 : decode cX7_readActs 111 = .ok (.aload_n 0, 1) := by decide +kernel
theorem dX7_readActs_112 : decode cX7_readActs 112 = .ok (.invokevirtual 51, 3) := by decide +kernel
theorem dX7_readActs_115 : decode cX7_readActs 115 = .ok (.iconst 1, 1) := by decide +kernel
theorem dX7_readActs_116 : decode cX7_readActs 116 = .ok (.ireturn, 1) := by decide +kernel
set_option maxRecDepth 20000 in
theorem rX7_readActs_0 {E : EN} (hE : Ep E) {k : Nat} {mem : Mm} {Q : Int → Mm → Prop} (hSt : aStr E) {p0 p1 : Int}
    (h : ((p0 = 3 → ((¬ p0 = 0 → (CI E mX7_isWord k mem [aR 591, aF (strA E 4)] (fun r2 m1 => ((r2 = 0 → Q 1 m1) ∧ (¬ r2 = 0 → (CV E mX7_advance k m1 [aR 591] (fun m3 => ((¬ (m3 591 9) = 2 → Q 0 m3) ∧ ((m3 591 9) = 2 → (((m3 591 10) < 1 → Q 0 m3) ∧ (1 ≤ (m3 591 10) → (((m3 591 10) ≤ 20 → (isTx (m3 591 4)) ∧ (0 ≤ p1 ∧ p1 < 12) ∧ (CV E mX7_advance k (aUp m3 ((m3 591 4) + 2) p1 (m3 591 10)) [aR 591] (fun m6 => Q 1 m6))) ∧ (20 < (m3 591 10) → Q 0 m3))))))))))))) ∧ (p0 = 0 → (CI E mX7_isWord k mem [aR 591, aF (strA E 3)] (fun r8 m7 => ((¬ r8 = 0 → (CV E mX7_advance k m7 [aR 591] (fun m9 => (isTx (m9 591 4)) ∧ (R32 p1 → CI E mX7_readWholeSum k m9 [aR 591, aR ((m9 591 4) + 4), aI p1] (fun r12 m11 => ((¬ r12 = 0 → (CI E mX7_isWord k m11 [aR 591, aF (strA E 4)] (fun r14 m13 => ((r14 = 0 → Q 1 m13) ∧ (¬ r14 = 0 → (CV E mX7_advance k m13 [aR 591] (fun m15 => ((¬ (m15 591 9) = 2 → Q 0 m15) ∧ ((m15 591 9) = 2 → (((m15 591 10) < 1 → Q 0 m15) ∧ (1 ≤ (m15 591 10) → (((m15 591 10) ≤ 20 → (isTx (m15 591 4)) ∧ (0 ≤ p1 ∧ p1 < 12) ∧ (CV E mX7_advance k (aUp m15 ((m15 591 4) + 2) p1 (m15 591 10)) [aR 591] (fun m18 => Q 1 m18))) ∧ (20 < (m15 591 10) → Q 0 m15))))))))))))) ∧ (r12 = 0 → Q 0 m11))))))) ∧ (r8 = 0 → Q 0 m7))))))) ∧ (¬ p0 = 3 → (isTx (mem 591 4)) ∧ (R32 p1 → CI E mX7_readWholeSum k mem [aR 591, aR ((mem 591 4) + 3), aI p1] (fun r21 m20 => ((¬ r21 = 0 → ((¬ p0 = 0 → (CI E mX7_isWord k m20 [aR 591, aF (strA E 4)] (fun r23 m22 => ((r23 = 0 → Q 1 m22) ∧ (¬ r23 = 0 → (CV E mX7_advance k m22 [aR 591] (fun m24 => ((¬ (m24 591 9) = 2 → Q 0 m24) ∧ ((m24 591 9) = 2 → (((m24 591 10) < 1 → Q 0 m24) ∧ (1 ≤ (m24 591 10) → (((m24 591 10) ≤ 20 → (isTx (m24 591 4)) ∧ (0 ≤ p1 ∧ p1 < 12) ∧ (CV E mX7_advance k (aUp m24 ((m24 591 4) + 2) p1 (m24 591 10)) [aR 591] (fun m27 => Q 1 m27))) ∧ (20 < (m24 591 10) → Q 0 m24))))))))))))) ∧ (p0 = 0 → (CI E mX7_isWord k m20 [aR 591, aF (strA E 3)] (fun r29 m28 => ((¬ r29 = 0 → (CV E mX7_advance k m28 [aR 591] (fun m30 => (isTx (m30 591 4)) ∧ (R32 p1 → CI E mX7_readWholeSum k m30 [aR 591, aR ((m30 591 4) + 4), aI p1] (fun r33 m32 => ((¬ r33 = 0 → (CI E mX7_isWord k m32 [aR 591, aF (strA E 4)] (fun r35 m34 => ((r35 = 0 → Q 1 m34) ∧ (¬ r35 = 0 → (CV E mX7_advance k m34 [aR 591] (fun m36 => ((¬ (m36 591 9) = 2 → Q 0 m36) ∧ ((m36 591 9) = 2 → (((m36 591 10) < 1 → Q 0 m36) ∧ (1 ≤ (m36 591 10) → (((m36 591 10) ≤ 20 → (isTx (m36 591 4)) ∧ (0 ≤ p1 ∧ p1 < 12) ∧ (CV E mX7_advance k (aUp m36 ((m36 591 4) + 2) p1 (m36 591 10)) [aR 591] (fun m39 => Q 1 m39))) ∧ (20 < (m36 591 10) → Q 0 m36))))))))))))) ∧ (r33 = 0 → Q 0 m32))))))) ∧ (r29 = 0 → Q 0 m28))))))) ∧ (r21 = 0 → Q 0 m20))))))) :
    VM E mX7_readActs (k + 1) mem 0 [(0, aR 591), (1, aI p0), (2, aI p1)] [] (retI Q) := by
  refine v_iload_n (pc := 0) dX7_readActs_0 1 rfl ?_
  refine v_iconst (pc := 1) dX7_readActs_1 (by decide) ?_
  refine v_icmpeq (pc := 2) (tgt := 22) dX7_readActs_2 (by decide) (fun c1 => ?_) (fun c1 => ?_)
  · have h := h.1 c1
    refine v_iload_n (pc := 22) dX7_readActs_22 1 rfl ?_
    refine v_ifne (pc := 23) (tgt := 58) dX7_readActs_23 (by decide) (fun c1 => ?_) (fun c1 => ?_)
    · have h := h.1 c1
      refine v_aload_n (pc := 58) dX7_readActs_58 0 rfl ?_
      refine m_ldcS (pc := 59) (i := 4) hSt dX7_readActs_59 (by decide) rfl ?_
      refine m_invI (pc := 61) (mi' := mX7_isWord) (rest := []) [aF (strA E 4)] dX7_readActs_61 at591 (by decide) rfl msX7_isWord mvX7_isWord lkX7_96 rfl (Nat.le_of_ble_eq_true rfl) (fun hn => CI_mono (h) (fun r2 m1 h => ?_))
      refine v_ifeq (pc := 64) (tgt := 115) dX7_readActs_64 (by decide) (fun c1 => ?_) (fun c1 => ?_)
      · have h := h.1 c1
        refine v_iconst (pc := 115) dX7_readActs_115 (by decide) ?_
        exact m_retZ (pc := 116) dX7_readActs_116 rfl (by decide) h
      · have h := h.2 c1
        refine v_aload_n (pc := 67) dX7_readActs_67 0 rfl ?_
        refine m_invV (pc := 68) (mi' := mX7_advance) (rest := []) [] dX7_readActs_68 at591 (by decide) rfl msX7_advance mvX7_advance lkX7_51 rfl (Nat.le_of_ble_eq_true rfl) (fun hn => CV_mono (h) (fun m3 h => ?_))
        refine v_aload_n (pc := 71) dX7_readActs_71 0 rfl ?_
        refine m_getf (pc := 72) (t := 0) (v := (m3 591 9)) dX7_readActs_72 flX7_64 rfl at591 rfl ?_
        refine v_iconst (pc := 75) dX7_readActs_75 (by decide) ?_
        refine v_icmpne (pc := 76) (tgt := 96) dX7_readActs_76 (by decide) (fun c1 => ?_) (fun c1 => ?_)
        · have h := h.1 c1
          refine v_iconst (pc := 96) dX7_readActs_96 (by decide) ?_
          exact m_retZ (pc := 97) dX7_readActs_97 rfl (by decide) h
        · have h := h.2 c1
          refine v_aload_n (pc := 79) dX7_readActs_79 0 rfl ?_
          refine m_getf (pc := 80) (t := 0) (v := (m3 591 10)) dX7_readActs_80 flX7_119 rfl at591 rfl ?_
          refine v_iconst (pc := 83) dX7_readActs_83 (by decide) ?_
          refine v_icmplt (pc := 84) (tgt := 96) dX7_readActs_84 (by decide) (fun c1 => ?_) (fun c1 => ?_)
          · have h := h.1 c1
            refine v_iconst (pc := 96) dX7_readActs_96 (by decide) ?_
            exact m_retZ (pc := 97) dX7_readActs_97 rfl (by decide) h
          · have h := h.2 c1
            refine v_aload_n (pc := 87) dX7_readActs_87 0 rfl ?_
            refine m_getf (pc := 88) (t := 0) (v := (m3 591 10)) dX7_readActs_88 flX7_119 rfl at591 rfl ?_
            refine v_bipush (pc := 91) dX7_readActs_91 (by decide) ?_
            refine v_icmple (pc := 93) (tgt := 98) dX7_readActs_93 (by decide) (fun c1 => ?_) (fun c1 => ?_)
            · have h := h.1 c1
              refine v_aload_n (pc := 98) dX7_readActs_98 0 rfl ?_
              refine m_getf (pc := 99) (t := 2) (v := (m3 591 4)) dX7_readActs_99 flX7_22 rfl at591 rfl ?_
              obtain ⟨o4, h⟩ := h
              refine m_getfin (pc := 102) (v := ((m3 591 4) + 2)) hE dX7_readActs_102 flX7_122 rfl (tx0 o4) rfl ?_
              refine v_iload_n (pc := 105) dX7_readActs_105 2 rfl ?_
              refine v_aload_n (pc := 106) dX7_readActs_106 0 rfl ?_
              refine m_getf (pc := 107) (t := 0) (v := (m3 591 10)) dX7_readActs_107 flX7_119 rfl at591 rfl ?_
              obtain ⟨o5, h⟩ := h
              refine v_iast (pc := 110) dX7_readActs_110 (tx2 o4) o5.1 o5.2 ?_
              refine v_aload_n (pc := 111) dX7_readActs_111 0 rfl ?_
              refine m_invV (pc := 112) (mi' := mX7_advance) (rest := []) [] dX7_readActs_112 at591 (by decide) rfl msX7_advance mvX7_advance lkX7_51 rfl (Nat.le_of_ble_eq_true rfl) (fun hn => CV_mono (h) (fun m6 h => ?_))
              refine v_iconst (pc := 115) dX7_readActs_115 (by decide) ?_
              exact m_retZ (pc := 116) dX7_readActs_116 rfl (by decide) h
            · have h := h.2 c1
              refine v_iconst (pc := 96) dX7_readActs_96 (by decide) ?_
              exact m_retZ (pc := 97) dX7_readActs_97 rfl (by decide) h
    · have h := h.2 c1
      refine v_aload_n (pc := 26) dX7_readActs_26 0 rfl ?_
      refine m_ldcS (pc := 27) (i := 3) hSt dX7_readActs_27 (by decide) rfl ?_
      refine m_invI (pc := 29) (mi' := mX7_isWord) (rest := []) [aF (strA E 3)] dX7_readActs_29 at591 (by decide) rfl msX7_isWord mvX7_isWord lkX7_96 rfl (Nat.le_of_ble_eq_true rfl) (fun hn => CI_mono (h) (fun r8 m7 h => ?_))
      refine v_ifne (pc := 32) (tgt := 37) dX7_readActs_32 (by decide) (fun c1 => ?_) (fun c1 => ?_)
      · have h := h.1 c1
        refine v_aload_n (pc := 37) dX7_readActs_37 0 rfl ?_
        refine m_invV (pc := 38) (mi' := mX7_advance) (rest := []) [] dX7_readActs_38 at591 (by decide) rfl msX7_advance mvX7_advance lkX7_51 rfl (Nat.le_of_ble_eq_true rfl) (fun hn => CV_mono (h) (fun m9 h => ?_))
        refine v_aload_n (pc := 41) dX7_readActs_41 0 rfl ?_
        refine v_aload_n (pc := 42) dX7_readActs_42 0 rfl ?_
        refine m_getf (pc := 43) (t := 2) (v := (m9 591 4)) dX7_readActs_43 flX7_22 rfl at591 rfl ?_
        obtain ⟨o10, h⟩ := h
        refine m_getfin (pc := 46) (v := ((m9 591 4) + 4)) hE dX7_readActs_46 flX7_114 rfl (tx0 o10) rfl ?_
        refine v_iload_n (pc := 49) dX7_readActs_49 2 rfl ?_
        refine m_invI (pc := 50) (mi' := mX7_readWholeSum) (rest := []) [aR ((m9 591 4) + 4), aI p1] dX7_readActs_50 at591 (by decide) rfl msX7_readWholeSum mvX7_readWholeSum lkX7_90 rfl (Nat.le_of_ble_eq_true rfl) (fun hn => CI_mono (h (aaI hn 2 rfl)) (fun r12 m11 h => ?_))
        refine v_ifne (pc := 53) (tgt := 58) dX7_readActs_53 (by decide) (fun c1 => ?_) (fun c1 => ?_)
        · have h := h.1 c1
          refine v_aload_n (pc := 58) dX7_readActs_58 0 rfl ?_
          refine m_ldcS (pc := 59) (i := 4) hSt dX7_readActs_59 (by decide) rfl ?_
          refine m_invI (pc := 61) (mi' := mX7_isWord) (rest := []) [aF (strA E 4)] dX7_readActs_61 at591 (by decide) rfl msX7_isWord mvX7_isWord lkX7_96 rfl (Nat.le_of_ble_eq_true rfl) (fun hn => CI_mono (h) (fun r14 m13 h => ?_))
          refine v_ifeq (pc := 64) (tgt := 115) dX7_readActs_64 (by decide) (fun c1 => ?_) (fun c1 => ?_)
          · have h := h.1 c1
            refine v_iconst (pc := 115) dX7_readActs_115 (by decide) ?_
            exact m_retZ (pc := 116) dX7_readActs_116 rfl (by decide) h
          · have h := h.2 c1
            refine v_aload_n (pc := 67) dX7_readActs_67 0 rfl ?_
            refine m_invV (pc := 68) (mi' := mX7_advance) (rest := []) [] dX7_readActs_68 at591 (by decide) rfl msX7_advance mvX7_advance lkX7_51 rfl (Nat.le_of_ble_eq_true rfl) (fun hn => CV_mono (h) (fun m15 h => ?_))
            refine v_aload_n (pc := 71) dX7_readActs_71 0 rfl ?_
            refine m_getf (pc := 72) (t := 0) (v := (m15 591 9)) dX7_readActs_72 flX7_64 rfl at591 rfl ?_
            refine v_iconst (pc := 75) dX7_readActs_75 (by decide) ?_
            refine v_icmpne (pc := 76) (tgt := 96) dX7_readActs_76 (by decide) (fun c1 => ?_) (fun c1 => ?_)
            · have h := h.1 c1
              refine v_iconst (pc := 96) dX7_readActs_96 (by decide) ?_
              exact m_retZ (pc := 97) dX7_readActs_97 rfl (by decide) h
            · have h := h.2 c1
              refine v_aload_n (pc := 79) dX7_readActs_79 0 rfl ?_
              refine m_getf (pc := 80) (t := 0) (v := (m15 591 10)) dX7_readActs_80 flX7_119 rfl at591 rfl ?_
              refine v_iconst (pc := 83) dX7_readActs_83 (by decide) ?_
              refine v_icmplt (pc := 84) (tgt := 96) dX7_readActs_84 (by decide) (fun c1 => ?_) (fun c1 => ?_)
              · have h := h.1 c1
                refine v_iconst (pc := 96) dX7_readActs_96 (by decide) ?_
                exact m_retZ (pc := 97) dX7_readActs_97 rfl (by decide) h
              · have h := h.2 c1
                refine v_aload_n (pc := 87) dX7_readActs_87 0 rfl ?_
                refine m_getf (pc := 88) (t := 0) (v := (m15 591 10)) dX7_readActs_88 flX7_119 rfl at591 rfl ?_
                refine v_bipush (pc := 91) dX7_readActs_91 (by decide) ?_
                refine v_icmple (pc := 93) (tgt := 98) dX7_readActs_93 (by decide) (fun c1 => ?_) (fun c1 => ?_)
                · have h := h.1 c1
                  refine v_aload_n (pc := 98) dX7_readActs_98 0 rfl ?_
                  refine m_getf (pc := 99) (t := 2) (v := (m15 591 4)) dX7_readActs_99 flX7_22 rfl at591 rfl ?_
                  obtain ⟨o16, h⟩ := h
                  refine m_getfin (pc := 102) (v := ((m15 591 4) + 2)) hE dX7_readActs_102 flX7_122 rfl (tx0 o16) rfl ?_
                  refine v_iload_n (pc := 105) dX7_readActs_105 2 rfl ?_
                  refine v_aload_n (pc := 106) dX7_readActs_106 0 rfl ?_
                  refine m_getf (pc := 107) (t := 0) (v := (m15 591 10)) dX7_readActs_107 flX7_119 rfl at591 rfl ?_
                  obtain ⟨o17, h⟩ := h
                  refine v_iast (pc := 110) dX7_readActs_110 (tx2 o16) o17.1 o17.2 ?_
                  refine v_aload_n (pc := 111) dX7_readActs_111 0 rfl ?_
                  refine m_invV (pc := 112) (mi' := mX7_advance) (rest := []) [] dX7_readActs_112 at591 (by decide) rfl msX7_advance mvX7_advance lkX7_51 rfl (Nat.le_of_ble_eq_true rfl) (fun hn => CV_mono (h) (fun m18 h => ?_))
                  refine v_iconst (pc := 115) dX7_readActs_115 (by decide) ?_
                  exact m_retZ (pc := 116) dX7_readActs_116 rfl (by decide) h
                · have h := h.2 c1
                  refine v_iconst (pc := 96) dX7_readActs_96 (by decide) ?_
                  exact m_retZ (pc := 97) dX7_readActs_97 rfl (by decide) h
        · have h := h.2 c1
          refine v_iconst (pc := 56) dX7_readActs_56 (by decide) ?_
          exact m_retZ (pc := 57) dX7_readActs_57 rfl (by decide) h
      · have h := h.2 c1
        refine v_iconst (pc := 35) dX7_readActs_35 (by decide) ?_
        exact m_retZ (pc := 36) dX7_readActs_36 rfl (by decide) h
  · have h := h.2 c1
    refine v_aload_n (pc := 5) dX7_readActs_5 0 rfl ?_
    refine v_aload_n (pc := 6) dX7_readActs_6 0 rfl ?_
    refine m_getf (pc := 7) (t := 2) (v := (mem 591 4)) dX7_readActs_7 flX7_22 rfl at591 rfl ?_
    obtain ⟨o19, h⟩ := h
    refine m_getfin (pc := 10) (v := ((mem 591 4) + 3)) hE dX7_readActs_10 flX7_87 rfl (tx0 o19) rfl ?_
    refine v_iload_n (pc := 13) dX7_readActs_13 2 rfl ?_
    refine m_invI (pc := 14) (mi' := mX7_readWholeSum) (rest := []) [aR ((mem 591 4) + 3), aI p1] dX7_readActs_14 at591 (by decide) rfl msX7_readWholeSum mvX7_readWholeSum lkX7_90 rfl (Nat.le_of_ble_eq_true rfl) (fun hn => CI_mono (h (aaI hn 2 rfl)) (fun r21 m20 h => ?_))
    refine v_ifne (pc := 17) (tgt := 22) dX7_readActs_17 (by decide) (fun c1 => ?_) (fun c1 => ?_)
    · have h := h.1 c1
      refine v_iload_n (pc := 22) dX7_readActs_22 1 rfl ?_
      refine v_ifne (pc := 23) (tgt := 58) dX7_readActs_23 (by decide) (fun c1 => ?_) (fun c1 => ?_)
      · have h := h.1 c1
        refine v_aload_n (pc := 58) dX7_readActs_58 0 rfl ?_
        refine m_ldcS (pc := 59) (i := 4) hSt dX7_readActs_59 (by decide) rfl ?_
        refine m_invI (pc := 61) (mi' := mX7_isWord) (rest := []) [aF (strA E 4)] dX7_readActs_61 at591 (by decide) rfl msX7_isWord mvX7_isWord lkX7_96 rfl (Nat.le_of_ble_eq_true rfl) (fun hn => CI_mono (h) (fun r23 m22 h => ?_))
        refine v_ifeq (pc := 64) (tgt := 115) dX7_readActs_64 (by decide) (fun c1 => ?_) (fun c1 => ?_)
        · have h := h.1 c1
          refine v_iconst (pc := 115) dX7_readActs_115 (by decide) ?_
          exact m_retZ (pc := 116) dX7_readActs_116 rfl (by decide) h
        · have h := h.2 c1
          refine v_aload_n (pc := 67) dX7_readActs_67 0 rfl ?_
          refine m_invV (pc := 68) (mi' := mX7_advance) (rest := []) [] dX7_readActs_68 at591 (by decide) rfl msX7_advance mvX7_advance lkX7_51 rfl (Nat.le_of_ble_eq_true rfl) (fun hn => CV_mono (h) (fun m24 h => ?_))
          refine v_aload_n (pc := 71) dX7_readActs_71 0 rfl ?_
          refine m_getf (pc := 72) (t := 0) (v := (m24 591 9)) dX7_readActs_72 flX7_64 rfl at591 rfl ?_
          refine v_iconst (pc := 75) dX7_readActs_75 (by decide) ?_
          refine v_icmpne (pc := 76) (tgt := 96) dX7_readActs_76 (by decide) (fun c1 => ?_) (fun c1 => ?_)
          · have h := h.1 c1
            refine v_iconst (pc := 96) dX7_readActs_96 (by decide) ?_
            exact m_retZ (pc := 97) dX7_readActs_97 rfl (by decide) h
          · have h := h.2 c1
            refine v_aload_n (pc := 79) dX7_readActs_79 0 rfl ?_
            refine m_getf (pc := 80) (t := 0) (v := (m24 591 10)) dX7_readActs_80 flX7_119 rfl at591 rfl ?_
            refine v_iconst (pc := 83) dX7_readActs_83 (by decide) ?_
            refine v_icmplt (pc := 84) (tgt := 96) dX7_readActs_84 (by decide) (fun c1 => ?_) (fun c1 => ?_)
            · have h := h.1 c1
              refine v_iconst (pc := 96) dX7_readActs_96 (by decide) ?_
              exact m_retZ (pc := 97) dX7_readActs_97 rfl (by decide) h
            · have h := h.2 c1
              refine v_aload_n (pc := 87) dX7_readActs_87 0 rfl ?_
              refine m_getf (pc := 88) (t := 0) (v := (m24 591 10)) dX7_readActs_88 flX7_119 rfl at591 rfl ?_
              refine v_bipush (pc := 91) dX7_readActs_91 (by decide) ?_
              refine v_icmple (pc := 93) (tgt := 98) dX7_readActs_93 (by decide) (fun c1 => ?_) (fun c1 => ?_)
              · have h := h.1 c1
                refine v_aload_n (pc := 98) dX7_readActs_98 0 rfl ?_
                refine m_getf (pc := 99) (t := 2) (v := (m24 591 4)) dX7_readActs_99 flX7_22 rfl at591 rfl ?_
                obtain ⟨o25, h⟩ := h
                refine m_getfin (pc := 102) (v := ((m24 591 4) + 2)) hE dX7_readActs_102 flX7_122 rfl (tx0 o25) rfl ?_
                refine v_iload_n (pc := 105) dX7_readActs_105 2 rfl ?_
                refine v_aload_n (pc := 106) dX7_readActs_106 0 rfl ?_
                refine m_getf (pc := 107) (t := 0) (v := (m24 591 10)) dX7_readActs_107 flX7_119 rfl at591 rfl ?_
                obtain ⟨o26, h⟩ := h
                refine v_iast (pc := 110) dX7_readActs_110 (tx2 o25) o26.1 o26.2 ?_
                refine v_aload_n (pc := 111) dX7_readActs_111 0 rfl ?_
                refine m_invV (pc := 112) (mi' := mX7_advance) (rest := []) [] dX7_readActs_112 at591 (by decide) rfl msX7_advance mvX7_advance lkX7_51 rfl (Nat.le_of_ble_eq_true rfl) (fun hn => CV_mono (h) (fun m27 h => ?_))
                refine v_iconst (pc := 115) dX7_readActs_115 (by decide) ?_
                exact m_retZ (pc := 116) dX7_readActs_116 rfl (by decide) h
              · have h := h.2 c1
                refine v_iconst (pc := 96) dX7_readActs_96 (by decide) ?_
                exact m_retZ (pc := 97) dX7_readActs_97 rfl (by decide) h
      · have h := h.2 c1
        refine v_aload_n (pc := 26) dX7_readActs_26 0 rfl ?_
        refine m_ldcS (pc := 27) (i := 3) hSt dX7_readActs_27 (by decide) rfl ?_
        refine m_invI (pc := 29) (mi' := mX7_isWord) (rest := []) [aF (strA E 3)] dX7_readActs_29 at591 (by decide) rfl msX7_isWord mvX7_isWord lkX7_96 rfl (Nat.le_of_ble_eq_true rfl) (fun hn => CI_mono (h) (fun r29 m28 h => ?_))
        refine v_ifne (pc := 32) (tgt := 37) dX7_readActs_32 (by decide) (fun c1 => ?_) (fun c1 => ?_)
        · have h := h.1 c1
          refine v_aload_n (pc := 37) dX7_readActs_37 0 rfl ?_
          refine m_invV (pc := 38) (mi' := mX7_advance) (rest := []) [] dX7_readActs_38 at591 (by decide) rfl msX7_advance mvX7_advance lkX7_51 rfl (Nat.le_of_ble_eq_true rfl) (fun hn => CV_mono (h) (fun m30 h => ?_))
          refine v_aload_n (pc := 41) dX7_readActs_41 0 rfl ?_
          refine v_aload_n (pc := 42) dX7_readActs_42 0 rfl ?_
          refine m_getf (pc := 43) (t := 2) (v := (m30 591 4)) dX7_readActs_43 flX7_22 rfl at591 rfl ?_
          obtain ⟨o31, h⟩ := h
          refine m_getfin (pc := 46) (v := ((m30 591 4) + 4)) hE dX7_readActs_46 flX7_114 rfl (tx0 o31) rfl ?_
          refine v_iload_n (pc := 49) dX7_readActs_49 2 rfl ?_
          refine m_invI (pc := 50) (mi' := mX7_readWholeSum) (rest := []) [aR ((m30 591 4) + 4), aI p1] dX7_readActs_50 at591 (by decide) rfl msX7_readWholeSum mvX7_readWholeSum lkX7_90 rfl (Nat.le_of_ble_eq_true rfl) (fun hn => CI_mono (h (aaI hn 2 rfl)) (fun r33 m32 h => ?_))
          refine v_ifne (pc := 53) (tgt := 58) dX7_readActs_53 (by decide) (fun c1 => ?_) (fun c1 => ?_)
          · have h := h.1 c1
            refine v_aload_n (pc := 58) dX7_readActs_58 0 rfl ?_
            refine m_ldcS (pc := 59) (i := 4) hSt dX7_readActs_59 (by decide) rfl ?_
            refine m_invI (pc := 61) (mi' := mX7_isWord) (rest := []) [aF (strA E 4)] dX7_readActs_61 at591 (by decide) rfl msX7_isWord mvX7_isWord lkX7_96 rfl (Nat.le_of_ble_eq_true rfl) (fun hn => CI_mono (h) (fun r35 m34 h => ?_))
            refine v_ifeq (pc := 64) (tgt := 115) dX7_readActs_64 (by decide) (fun c1 => ?_) (fun c1 => ?_)
            · have h := h.1 c1
              refine v_iconst (pc := 115) dX7_readActs_115 (by decide) ?_
              exact m_retZ (pc := 116) dX7_readActs_116 rfl (by decide) h
            · have h := h.2 c1
              refine v_aload_n (pc := 67) dX7_readActs_67 0 rfl ?_
              refine m_invV (pc := 68) (mi' := mX7_advance) (rest := []) [] dX7_readActs_68 at591 (by decide) rfl msX7_advance mvX7_advance lkX7_51 rfl (Nat.le_of_ble_eq_true rfl) (fun hn => CV_mono (h) (fun m36 h => ?_))
              refine v_aload_n (pc := 71) dX7_readActs_71 0 rfl ?_
              refine m_getf (pc := 72) (t := 0) (v := (m36 591 9)) dX7_readActs_72 flX7_64 rfl at591 rfl ?_
              refine v_iconst (pc := 75) dX7_readActs_75 (by decide) ?_
              refine v_icmpne (pc := 76) (tgt := 96) dX7_readActs_76 (by decide) (fun c1 => ?_) (fun c1 => ?_)
              · have h := h.1 c1
                refine v_iconst (pc := 96) dX7_readActs_96 (by decide) ?_
                exact m_retZ (pc := 97) dX7_readActs_97 rfl (by decide) h
              · have h := h.2 c1
                refine v_aload_n (pc := 79) dX7_readActs_79 0 rfl ?_
                refine m_getf (pc := 80) (t := 0) (v := (m36 591 10)) dX7_readActs_80 flX7_119 rfl at591 rfl ?_
                refine v_iconst (pc := 83) dX7_readActs_83 (by decide) ?_
                refine v_icmplt (pc := 84) (tgt := 96) dX7_readActs_84 (by decide) (fun c1 => ?_) (fun c1 => ?_)
                · have h := h.1 c1
                  refine v_iconst (pc := 96) dX7_readActs_96 (by decide) ?_
                  exact m_retZ (pc := 97) dX7_readActs_97 rfl (by decide) h
                · have h := h.2 c1
                  refine v_aload_n (pc := 87) dX7_readActs_87 0 rfl ?_
                  refine m_getf (pc := 88) (t := 0) (v := (m36 591 10)) dX7_readActs_88 flX7_119 rfl at591 rfl ?_
                  refine v_bipush (pc := 91) dX7_readActs_91 (by decide) ?_
                  refine v_icmple (pc := 93) (tgt := 98) dX7_readActs_93 (by decide) (fun c1 => ?_) (fun c1 => ?_)
                  · have h := h.1 c1
                    refine v_aload_n (pc := 98) dX7_readActs_98 0 rfl ?_
                    refine m_getf (pc := 99) (t := 2) (v := (m36 591 4)) dX7_readActs_99 flX7_22 rfl at591 rfl ?_
                    obtain ⟨o37, h⟩ := h
                    refine m_getfin (pc := 102) (v := ((m36 591 4) + 2)) hE dX7_readActs_102 flX7_122 rfl (tx0 o37) rfl ?_
                    refine v_iload_n (pc := 105) dX7_readActs_105 2 rfl ?_
                    refine v_aload_n (pc := 106) dX7_readActs_106 0 rfl ?_
                    refine m_getf (pc := 107) (t := 0) (v := (m36 591 10)) dX7_readActs_107 flX7_119 rfl at591 rfl ?_
                    obtain ⟨o38, h⟩ := h
                    refine v_iast (pc := 110) dX7_readActs_110 (tx2 o37) o38.1 o38.2 ?_
                    refine v_aload_n (pc := 111) dX7_readActs_111 0 rfl ?_
                    refine m_invV (pc := 112) (mi' := mX7_advance) (rest := []) [] dX7_readActs_112 at591 (by decide) rfl msX7_advance mvX7_advance lkX7_51 rfl (Nat.le_of_ble_eq_true rfl) (fun hn => CV_mono (h) (fun m39 h => ?_))
                    refine v_iconst (pc := 115) dX7_readActs_115 (by decide) ?_
                    exact m_retZ (pc := 116) dX7_readActs_116 rfl (by decide) h
                  · have h := h.2 c1
                    refine v_iconst (pc := 96) dX7_readActs_96 (by decide) ?_
                    exact m_retZ (pc := 97) dX7_readActs_97 rfl (by decide) h
          · have h := h.2 c1
            refine v_iconst (pc := 56) dX7_readActs_56 (by decide) ?_
            exact m_retZ (pc := 57) dX7_readActs_57 rfl (by decide) h
        · have h := h.2 c1
          refine v_iconst (pc := 35) dX7_readActs_35 (by decide) ?_
          exact m_retZ (pc := 36) dX7_readActs_36 rfl (by decide) h
    · have h := h.2 c1
      refine v_iconst (pc := 20) dX7_readActs_20 (by decide) ?_
      exact m_retZ (pc := 21) dX7_readActs_21 rfl (by decide) h
theorem eX7_readActs {E : EN} {k : Nat} {mem : Mm} {Q : Int → Mm → Prop} {p0 p1 : Int} (hr_p0 : R32 p0) (hr_p1 : R32 p1) (h : VM E mX7_readActs (k + 1) mem 0 [(0, aR 591), (1, aI p0), (2, aI p1)] [] (retI Q)) : CI E mX7_readActs (k + 1) mem [aR 591, aI p0, aI p1] Q := CI_of rfl (Nat.le_of_ble_eq_true rfl) h (aNs_c (aNr_R _) (aNs_c (aNr_I hr_p0) (aNs_c (aNr_I hr_p1) (fun _ q => nomatch q))))

theorem dX7_readWholeSum_0 : decode cX7_readWholeSum 0 = .ok (.aload_n 1, 1) := by decide +kernel
theorem dX7_readWholeSum_1 : decode cX7_readWholeSum 1 = .ok (.iload_n 2, 1) := by decide +kernel
theorem dX7_readWholeSum_2 : decode cX7_readWholeSum 2 = .ok (.aload_n 0, 1) := by decide +kernel
theorem dX7_readWholeSum_3 : decode cX7_readWholeSum 3 = .ok (.getfield 22, 3) := by decide +kernel
theorem dX7_readWholeSum_6 : decode cX7_readWholeSum 6 = .ok (.getfield 103, 3) := by decide +kernel
theorem dX7_readWholeSum_9 : decode cX7_readWholeSum 9 = .ok (.iastore, 1) := by decide +kernel
theorem dX7_readWholeSum_10 : decode cX7_readWholeSum 10 = .ok (.aload_n 0, 1) := by decide +kernel
theorem dX7_readWholeSum_11 : decode cX7_readWholeSum 11 = .ok (.iconst 0, 1) := by decide +kernel
theorem dX7_readWholeSum_12 : decode cX7_readWholeSum 12 = .ok (.invokevirtual 124, 3) := by decide +kernel
theorem dX7_readWholeSum_15 : decode cX7_readWholeSum 15 = .ok (.ifCond .ne 5, 3) := by decide +kernel
theorem dX7_readWholeSum_18 : decode cX7_readWholeSum 18 = .ok (.iconst 0, 1) := by decide +kernel
theorem dX7_readWholeSum_19 : decode cX7_readWholeSum 19 = .ok (.ireturn, 1) := by decide +kernel
theorem dX7_readWholeSum_20 : decode cX7_readWholeSum 20 = .ok (.aload_n 0, 1) := by decide +kernel
theorem dX7_readWholeSum_21 : decode cX7_readWholeSum 21 = .ok (.getfield 22, 3) := by decide +kernel
theorem dX7_readWholeSum_24 : decode cX7_readWholeSum 24 = .ok (.iconst 5, 1) := by decide +kernel
theorem dX7_readWholeSum_25 : decode cX7_readWholeSum 25 = .ok (.iconst 0, 1) := by decide +kernel
theorem dX7_readWholeSum_26 : decode cX7_readWholeSum 26 = .ok (.invokevirtual 109, 3) := by decide +kernel
theorem dX7_readWholeSum_29 : decode cX7_readWholeSum 29 = .ok (.pop, 1) := by decide +kernel
theorem dX7_readWholeSum_30 : decode cX7_readWholeSum 30 = .ok (.iconst 1, 1) := by decide +kernel
theorem dX7_readWholeSum_31 : decode cX7_readWholeSum 31 = .ok (.ireturn, 1) := by decide +kernel
set_option maxRecDepth 20000 in
theorem rX7_readWholeSum_0 {E : EN} (hE : Ep E) {k : Nat} {mem : Mm} {Q : Int → Mm → Prop} {p0 p1 : Int} {np0 : Nat} (hp0 : aSh SH p0 13 np0)
    (h : (isTx (mem 591 4)) ∧ (0 ≤ p1 ∧ p1 < (np0 : Int)) ∧ (CI E mX7_readSum k (aUp mem p0 p1 (mem (mem 591 4) 8)) [aR 591, aI 0] (fun r4 m3 => ((¬ r4 = 0 → (isTx (m3 591 4)) ∧ (CI E mX9_emit k m3 [aR (m3 591 4), aI 5, aI 0] (fun r7 m6 => Q 1 m6))) ∧ (r4 = 0 → Q 0 m3))))) :
    VM E mX7_readWholeSum (k + 1) mem 0 [(0, aR 591), (1, aR p0), (2, aI p1)] [] (retI Q) := by
  refine v_aload_n (pc := 0) dX7_readWholeSum_0 1 rfl ?_
  refine v_iload_n (pc := 1) dX7_readWholeSum_1 2 rfl ?_
  refine v_aload_n (pc := 2) dX7_readWholeSum_2 0 rfl ?_
  refine m_getf (pc := 3) (t := 2) (v := (mem 591 4)) dX7_readWholeSum_3 flX7_22 rfl at591 rfl ?_
  obtain ⟨o1, h⟩ := h
  refine m_getf (pc := 6) (t := 0) (v := (mem (mem 591 4) 8)) dX7_readWholeSum_6 flX7_103 rfl (tx0 o1) rfl ?_
  obtain ⟨o2, h⟩ := h
  refine v_iast (pc := 9) dX7_readWholeSum_9 hp0 o2.1 o2.2 ?_
  refine v_aload_n (pc := 10) dX7_readWholeSum_10 0 rfl ?_
  refine v_iconst (pc := 11) dX7_readWholeSum_11 (by decide) ?_
  refine m_invI (pc := 12) (mi' := mX7_readSum) (rest := []) [aI 0] dX7_readWholeSum_12 at591 (by decide) rfl msX7_readSum mvX7_readSum lkX7_124 rfl (Nat.le_of_ble_eq_true rfl) (fun hn => CI_mono (h) (fun r4 m3 h => ?_))
  refine v_ifne (pc := 15) (tgt := 20) dX7_readWholeSum_15 (by decide) (fun c1 => ?_) (fun c1 => ?_)
  · have h := h.1 c1
    refine v_aload_n (pc := 20) dX7_readWholeSum_20 0 rfl ?_
    refine m_getf (pc := 21) (t := 2) (v := (m3 591 4)) dX7_readWholeSum_21 flX7_22 rfl at591 rfl ?_
    refine v_iconst (pc := 24) dX7_readWholeSum_24 (by decide) ?_
    refine v_iconst (pc := 25) dX7_readWholeSum_25 (by decide) ?_
    obtain ⟨o5, h⟩ := h
    refine m_invI (pc := 26) (mi' := mX9_emit) (rest := []) [aI 5, aI 0] dX7_readWholeSum_26 (tx0 o5) (by decide) rfl msX9_emit mvX9_emit lkX7_109 rfl (Nat.le_of_ble_eq_true rfl) (fun hn => CI_mono (h) (fun r7 m6 h => ?_))
    refine v_pop (pc := 29) dX7_readWholeSum_29 rfl ?_
    refine v_iconst (pc := 30) dX7_readWholeSum_30 (by decide) ?_
    exact m_retZ (pc := 31) dX7_readWholeSum_31 rfl (by decide) h
  · have h := h.2 c1
    refine v_iconst (pc := 18) dX7_readWholeSum_18 (by decide) ?_
    exact m_retZ (pc := 19) dX7_readWholeSum_19 rfl (by decide) h
theorem eX7_readWholeSum {E : EN} {k : Nat} {mem : Mm} {Q : Int → Mm → Prop} {p0 p1 : Int} (hr_p1 : R32 p1) (h : VM E mX7_readWholeSum (k + 1) mem 0 [(0, aR 591), (1, aR p0), (2, aI p1)] [] (retI Q)) : CI E mX7_readWholeSum (k + 1) mem [aR 591, aR p0, aI p1] Q := CI_of rfl (Nat.le_of_ble_eq_true rfl) h (aNs_c (aNr_R _) (aNs_c (aNr_R _) (aNs_c (aNr_I hr_p1) (fun _ q => nomatch q))))

theorem dX7_readTest_0 : decode cX7_readTest 0 = .ok (.iconst (-1), 1) := by decide +kernel
theorem dX7_readTest_1 : decode cX7_readTest 1 = .ok (.istore_n 2, 1) := by decide +kernel
theorem dX7_readTest_2 : decode cX7_readTest 2 = .ok (.iconst (-1), 1) := by decide +kernel
theorem dX7_readTest_3 : decode cX7_readTest 3 = .ok (.istore_n 3, 1) := by decide +kernel
theorem dX7_readTest_4 : decode cX7_readTest 4 = .ok (.iconst 0, 1) := by decide +kernel
theorem dX7_readTest_5 : decode cX7_readTest 5 = .ok (.istore 4, 2) := by decide +kernel
theorem dX7_readTest_7 : decode cX7_readTest 7 = .ok (.iload 4, 2) := by decide +kernel
theorem dX7_readTest_9 : decode cX7_readTest 9 = .ok (.sipush 400, 3) := by decide +kernel
theorem dX7_readTest_12 : decode cX7_readTest 12 = .ok (.if_icmp .ge 84, 3) := by decide +kernel
theorem dX7_readTest_15 : decode cX7_readTest 15 = .ok (.aload_n 0, 1) := by decide +kernel
theorem dX7_readTest_16 : decode cX7_readTest 16 = .ok (.iload_n 1, 1) := by decide +kernel
theorem dX7_readTest_17 : decode cX7_readTest 17 = .ok (.invokevirtual 127, 3) := by decide +kernel
theorem dX7_readTest_20 : decode cX7_readTest 20 = .ok (.ifCond .ne 5, 3) := by decide +kernel
theorem dX7_readTest_23 : decode cX7_readTest 23 = .ok (.iconst 0, 1) := by decide +kernel
theorem dX7_readTest_24 : decode cX7_readTest 24 = .ok (.ireturn, 1) := by decide +kernel
theorem dX7_readTest_25 : decode cX7_readTest 25 = .ok (.aload_n 0, 1) := by decide +kernel
theorem dX7_readTest_26 : decode cX7_readTest 26 = .ok (.getfield 22, 3) := by decide +kernel
theorem dX7_readTest_29 : decode cX7_readTest 29 = .ok (.iload_n 2, 1) := by decide +kernel
theorem dX7_readTest_30 : decode cX7_readTest 30 = .ok (.invokevirtual 130, 3) := by decide +kernel
theorem dX7_readTest_33 : decode cX7_readTest 33 = .ok (.iconst (-1), 1) := by decide +kernel
theorem dX7_readTest_34 : decode cX7_readTest 34 = .ok (.istore_n 2, 1) := by decide +kernel
theorem dX7_readTest_35 : decode cX7_readTest 35 = .ok (.aload_n 0, 1) := by decide +kernel
theorem dX7_readTest_36 : decode cX7_readTest 36 = .ok (.ldc 133, 2) := by decide +kernel
theorem dX7_readTest_38 : decode cX7_readTest 38 = .ok (.invokevirtual 96, 3) := by decide +kernel
theorem dX7_readTest_41 : decode cX7_readTest 41 = .ok (.ifCond .eq 16, 3) := by decide +kernel
theorem dX7_readTest_44 : decode cX7_readTest 44 = .ok (.aload_n 0, 1) := by decide +kernel
theorem dX7_readTest_45 : decode cX7_readTest 45 = .ok (.getfield 22, 3) := by decide +kernel
theorem dX7_readTest_48 : decode cX7_readTest 48 = .ok (.iconst 3, 1) := by decide +kernel
theorem dX7_readTest_49 : decode cX7_readTest 49 = .ok (.iconst 0, 1) := by decide +kernel
theorem dX7_readTest_50 : decode cX7_readTest 50 = .ok (.invokevirtual 109, 3) := by decide +kernel
theorem dX7_readTest_53 : decode cX7_readTest 53 = .ok (.istore_n 2, 1) := by decide +kernel
theorem dX7_readTest_54 : decode cX7_readTest 54 = .ok (.goto 32, 3) := by decide +kernel
theorem dX7_readTest_57 : decode cX7_readTest 57 = .ok (.aload_n 0, 1) := by decide +kernel
theorem dX7_readTest_58 : decode cX7_readTest 58 = .ok (.getfield 22, 3) := by decide +kernel
theorem dX7_readTest_61 : decode cX7_readTest 61 = .ok (.iload_n 3, 1) := by decide +kernel
theorem dX7_readTest_62 : decode cX7_readTest 62 = .ok (.invokevirtual 130, 3) := by decide +kernel
theorem dX7_readTest_65 : decode cX7_readTest 65 = .ok (.aload_n 0, 1) := by decide +kernel
theorem dX7_readTest_66 : decode cX7_readTest 66 = .ok (.ldc 135, 2) := by decide +kernel
theorem dX7_readTest_68 : decode cX7_readTest 68 = .ok (.invokevirtual 96, 3) := by decide +kernel
theorem dX7_readTest_71 : decode cX7_readTest 71 = .ok (.ifCond .ne 5, 3) := by decide +kernel
theorem dX7_readTest_74 : decode cX7_readTest 74 = .ok (.iconst 1, 1) := by decide +kernel
theorem dX7_readTest_75 : decode cX7_readTest 75 = .ok (.ireturn, 1) := by decide +kernel
theorem dX7_readTest_76 : decode cX7_readTest 76 = .ok (.aload_n 0, 1) := by decide +kernel
theorem dX7_readTest_77 : decode cX7_readTest 77 = .ok (.getfield 22, 3) := by decide +kernel
theorem dX7_readTest_80 : decode cX7_readTest 80 = .ok (.iconst 4, 1) := by decide +kernel
theorem dX7_readTest_81 : decode cX7_readTest 81 = .ok (.iconst 0, 1) := by decide +kernel
theorem dX7_readTest_82 : decode cX7_readTest 82 = .ok (.invokevirtual 109, 3) := by decide +kernel
theorem dX7_readTest_85 : decode cX7_readTest 85 = .ok (.istore_n 3, 1) := by decide +kernel
theorem dX7_readTest_86 : decode cX7_readTest 86 = .ok (.aload_n 0, 1) := by decide +kernel
theorem dX7_readTest_87 : decode cX7_readTest 87 = .ok (.invokevirtual 51, 3) := by decide +kernel
theorem dX7_readTest_90 : decode cX7_readTest 90 = .ok (.iinc 4 1, 3) := by decide +kernel
theorem dX7_readTest_93 : decode cX7_readTest 93 = .ok (.goto (-86), 3) := by decide +kernel
theorem dX7_readTest_96 : decode cX7_readTest 96 = .ok (.iconst 0, 1) := by decide +kernel
theorem dX7_readTest_97 : decode cX7_readTest 97 = .ok (.ireturn, 1) := by decide +kernel
set_option maxRecDepth 20000 in
theorem rX7_readTest_0 {E : EN} (hE : Ep E) {k : Nat} {mem : Mm} {Q : Int → Mm → Prop} {p0 : Int}
    (h : VM E mX7_readTest (k + 1) mem 7 [(0, aR 591), (1, aI p0), (2, aI (-1)), (3, aI (-1)), (4, aI 0)] [] (retI Q)) :
    VM E mX7_readTest (k + 1) mem 0 [(0, aR 591), (1, aI p0)] [] (retI Q) := by
  refine v_iconst (pc := 0) dX7_readTest_0 (by decide) ?_
  refine v_istore_n (pc := 1) (al2 := [(2, aI (-1)), (0, aR 591), (1, aI p0)]) dX7_readTest_1 (by decide) rfl ?_
  refine v_iconst (pc := 2) dX7_readTest_2 (by decide) ?_
  refine v_istore_n (pc := 3) (al2 := [(3, aI (-1)), (2, aI (-1)), (0, aR 591), (1, aI p0)]) dX7_readTest_3 (by decide) rfl ?_
  refine v_iconst (pc := 4) dX7_readTest_4 (by decide) ?_
  refine v_istore (pc := 5) (al2 := [(4, aI 0), (3, aI (-1)), (2, aI (-1)), (0, aR 591), (1, aI p0)]) dX7_readTest_5 (by decide) rfl ?_
  exact VG_sub (al' := [(0, aR 591), (1, aI p0), (2, aI (-1)), (3, aI (-1)), (4, aI 0)]) [3, 4, 2, 1, 0] rfl h
theorem eX7_readTest {E : EN} {k : Nat} {mem : Mm} {Q : Int → Mm → Prop} {p0 : Int} (hr_p0 : R32 p0) (h : VM E mX7_readTest (k + 1) mem 0 [(0, aR 591), (1, aI p0)] [] (retI Q)) : CI E mX7_readTest (k + 1) mem [aR 591, aI p0] Q := CI_of rfl (Nat.le_of_ble_eq_true rfl) h (aNs_c (aNr_R _) (aNs_c (aNr_I hr_p0) (fun _ q => nomatch q)))
set_option maxRecDepth 20000 in
theorem rX7_readTest_7 {E : EN} (hE : Ep E) {k : Nat} {mem : Mm} {Q : Int → Mm → Prop} (hSt : aStr E) {p0 x2 x3 x4 : Int}
    (h : ((400 ≤ x4 → Q 0 mem) ∧ (x4 < 400 → (R32 p0 → CI E mX7_readPlain k mem [aR 591, aI p0] (fun r2 m1 => ((¬ r2 = 0 → (isTx (m1 591 4)) ∧ (R32 x2 → CV E mX9_land k m1 [aR (m1 591 4), aI x2] (fun m4 => (CI E mX7_isWord k m4 [aR 591, aF (strA E 5)] (fun r6 m5 => ((r6 = 0 → (isTx (m5 591 4)) ∧ (R32 x3 → CV E mX9_land k m5 [aR (m5 591 4), aI x3] (fun m8 => (CI E mX7_isWord k m8 [aR 591, aF (strA E 6)] (fun r10 m9 => ((¬ r10 = 0 → (isTx (m9 591 4)) ∧ (CI E mX9_emit k m9 [aR (m9 591 4), aI 4, aI 0] (fun r13 m12 => (CV E mX7_advance k m12 [aR 591] (fun m14 => (R32 (x4 + 1)) ∧ VM E mX7_readTest (k + 1) m14 7 [(0, aR 591), (1, aI p0), (2, aI (-1)), (3, aI r13), (4, aI (x4 + 1))] [] (retI Q)))))) ∧ (r10 = 0 → Q 1 m9))))))) ∧ (¬ r6 = 0 → (isTx (m5 591 4)) ∧ (CI E mX9_emit k m5 [aR (m5 591 4), aI 3, aI 0] (fun r18 m17 => (CV E mX7_advance k m17 [aR 591] (fun m19 => (R32 (x4 + 1)) ∧ VM E mX7_readTest (k + 1) m19 7 [(0, aR 591), (1, aI p0), (2, aI r18), (3, aI x3), (4, aI (x4 + 1))] [] (retI Q)))))))))))) ∧ (r2 = 0 → Q 0 m1))))))) :
    VM E mX7_readTest (k + 1) mem 7 [(0, aR 591), (1, aI p0), (2, aI x2), (3, aI x3), (4, aI x4)] [] (retI Q) := by
  refine v_iload (pc := 7) dX7_readTest_7 4 rfl ?_
  refine v_sipush (pc := 9) dX7_readTest_9 (by decide) ?_
  refine v_icmpge (pc := 12) (tgt := 96) dX7_readTest_12 (by decide) (fun c1 => ?_) (fun c1 => ?_)
  · have h := h.1 c1
    refine v_iconst (pc := 96) dX7_readTest_96 (by decide) ?_
    exact m_retZ (pc := 97) dX7_readTest_97 rfl (by decide) h
  · have h := h.2 c1
    refine v_aload_n (pc := 15) dX7_readTest_15 0 rfl ?_
    refine v_iload_n (pc := 16) dX7_readTest_16 1 rfl ?_
    refine m_invI (pc := 17) (mi' := mX7_readPlain) (rest := []) [aI p0] dX7_readTest_17 at591 (by decide) rfl msX7_readPlain mvX7_readPlain lkX7_127 rfl (Nat.le_of_ble_eq_true rfl) (fun hn => CI_mono (h (aaI hn 1 rfl)) (fun r2 m1 h => ?_))
    refine v_ifne (pc := 20) (tgt := 25) dX7_readTest_20 (by decide) (fun c1 => ?_) (fun c1 => ?_)
    · have h := h.1 c1
      refine v_aload_n (pc := 25) dX7_readTest_25 0 rfl ?_
      refine m_getf (pc := 26) (t := 2) (v := (m1 591 4)) dX7_readTest_26 flX7_22 rfl at591 rfl ?_
      refine v_iload_n (pc := 29) dX7_readTest_29 2 rfl ?_
      obtain ⟨o3, h⟩ := h
      refine m_invV (pc := 30) (mi' := mX9_land) (rest := []) [aI x2] dX7_readTest_30 (tx0 o3) (by decide) rfl msX9_land mvX9_land lkX7_130 rfl (Nat.le_of_ble_eq_true rfl) (fun hn => CV_mono (h (aaI hn 1 rfl)) (fun m4 h => ?_))
      refine v_iconst (pc := 33) dX7_readTest_33 (by decide) ?_
      refine v_istore_n (pc := 34) (al2 := [(2, aI (-1)), (0, aR 591), (1, aI p0), (3, aI x3), (4, aI x4)]) dX7_readTest_34 (by decide) rfl ?_
      refine v_aload_n (pc := 35) dX7_readTest_35 1 rfl ?_
      refine m_ldcS (pc := 36) (i := 5) hSt dX7_readTest_36 (by decide) rfl ?_
      refine m_invI (pc := 38) (mi' := mX7_isWord) (rest := []) [aF (strA E 5)] dX7_readTest_38 at591 (by decide) rfl msX7_isWord mvX7_isWord lkX7_96 rfl (Nat.le_of_ble_eq_true rfl) (fun hn => CI_mono (h) (fun r6 m5 h => ?_))
      refine v_ifeq (pc := 41) (tgt := 57) dX7_readTest_41 (by decide) (fun c1 => ?_) (fun c1 => ?_)
      · have h := h.1 c1
        refine v_aload_n (pc := 57) dX7_readTest_57 1 rfl ?_
        refine m_getf (pc := 58) (t := 2) (v := (m5 591 4)) dX7_readTest_58 flX7_22 rfl at591 rfl ?_
        refine v_iload_n (pc := 61) dX7_readTest_61 3 rfl ?_
        obtain ⟨o7, h⟩ := h
        refine m_invV (pc := 62) (mi' := mX9_land) (rest := []) [aI x3] dX7_readTest_62 (tx0 o7) (by decide) rfl msX9_land mvX9_land lkX7_130 rfl (Nat.le_of_ble_eq_true rfl) (fun hn => CV_mono (h (aaI hn 1 rfl)) (fun m8 h => ?_))
        refine v_aload_n (pc := 65) dX7_readTest_65 1 rfl ?_
        refine m_ldcS (pc := 66) (i := 6) hSt dX7_readTest_66 (by decide) rfl ?_
        refine m_invI (pc := 68) (mi' := mX7_isWord) (rest := []) [aF (strA E 6)] dX7_readTest_68 at591 (by decide) rfl msX7_isWord mvX7_isWord lkX7_96 rfl (Nat.le_of_ble_eq_true rfl) (fun hn => CI_mono (h) (fun r10 m9 h => ?_))
        refine v_ifne (pc := 71) (tgt := 76) dX7_readTest_71 (by decide) (fun c1 => ?_) (fun c1 => ?_)
        · have h := h.1 c1
          refine v_aload_n (pc := 76) dX7_readTest_76 1 rfl ?_
          refine m_getf (pc := 77) (t := 2) (v := (m9 591 4)) dX7_readTest_77 flX7_22 rfl at591 rfl ?_
          refine v_iconst (pc := 80) dX7_readTest_80 (by decide) ?_
          refine v_iconst (pc := 81) dX7_readTest_81 (by decide) ?_
          obtain ⟨o11, h⟩ := h
          refine m_invI (pc := 82) (mi' := mX9_emit) (rest := []) [aI 4, aI 0] dX7_readTest_82 (tx0 o11) (by decide) rfl msX9_emit mvX9_emit lkX7_109 rfl (Nat.le_of_ble_eq_true rfl) (fun hn => CI_mono (h) (fun r13 m12 h => ?_))
          refine v_istore_n (pc := 85) (al2 := [(3, aI r13), (2, aI (-1)), (0, aR 591), (1, aI p0), (4, aI x4)]) dX7_readTest_85 (by decide) rfl ?_
          refine v_aload_n (pc := 86) dX7_readTest_86 2 rfl ?_
          refine m_invV (pc := 87) (mi' := mX7_advance) (rest := []) [] dX7_readTest_87 at591 (by decide) rfl msX7_advance mvX7_advance lkX7_51 rfl (Nat.le_of_ble_eq_true rfl) (fun hn => CV_mono (h) (fun m14 h => ?_))
          obtain ⟨o15, h⟩ := h
          refine m_iinc (pc := 90) (al2 := [(4, aI (x4 + 1)), (3, aI r13), (2, aI (-1)), (0, aR 591), (1, aI p0)]) dX7_readTest_90 4 rfl (by decide) o15 rfl ?_
          refine v_goto (pc := 93) (tgt := 7) dX7_readTest_93 (by decide) ?_
          exact VG_sub (al' := [(0, aR 591), (1, aI p0), (2, aI (-1)), (3, aI r13), (4, aI (x4 + 1))]) [3, 4, 2, 1, 0] rfl h
        · have h := h.2 c1
          refine v_iconst (pc := 74) dX7_readTest_74 (by decide) ?_
          exact m_retZ (pc := 75) dX7_readTest_75 rfl (by decide) h
      · have h := h.2 c1
        refine v_aload_n (pc := 44) dX7_readTest_44 1 rfl ?_
        refine m_getf (pc := 45) (t := 2) (v := (m5 591 4)) dX7_readTest_45 flX7_22 rfl at591 rfl ?_
        refine v_iconst (pc := 48) dX7_readTest_48 (by decide) ?_
        refine v_iconst (pc := 49) dX7_readTest_49 (by decide) ?_
        obtain ⟨o16, h⟩ := h
        refine m_invI (pc := 50) (mi' := mX9_emit) (rest := []) [aI 3, aI 0] dX7_readTest_50 (tx0 o16) (by decide) rfl msX9_emit mvX9_emit lkX7_109 rfl (Nat.le_of_ble_eq_true rfl) (fun hn => CI_mono (h) (fun r18 m17 h => ?_))
        refine v_istore_n (pc := 53) (al2 := [(2, aI r18), (0, aR 591), (1, aI p0), (3, aI x3), (4, aI x4)]) dX7_readTest_53 (by decide) rfl ?_
        refine v_goto (pc := 54) (tgt := 86) dX7_readTest_54 (by decide) ?_
        refine v_aload_n (pc := 86) dX7_readTest_86 1 rfl ?_
        refine m_invV (pc := 87) (mi' := mX7_advance) (rest := []) [] dX7_readTest_87 at591 (by decide) rfl msX7_advance mvX7_advance lkX7_51 rfl (Nat.le_of_ble_eq_true rfl) (fun hn => CV_mono (h) (fun m19 h => ?_))
        obtain ⟨o20, h⟩ := h
        refine m_iinc (pc := 90) (al2 := [(4, aI (x4 + 1)), (2, aI r18), (0, aR 591), (1, aI p0), (3, aI x3)]) dX7_readTest_90 4 rfl (by decide) o20 rfl ?_
        refine v_goto (pc := 93) (tgt := 7) dX7_readTest_93 (by decide) ?_
        exact VG_sub (al' := [(0, aR 591), (1, aI p0), (2, aI r18), (3, aI x3), (4, aI (x4 + 1))]) [2, 3, 1, 4, 0] rfl h
    · have h := h.2 c1
      refine v_iconst (pc := 23) dX7_readTest_23 (by decide) ?_
      exact m_retZ (pc := 24) dX7_readTest_24 rfl (by decide) h

theorem dX7_readPlain_0 : decode cX7_readPlain 0 = .ok (.iconst 0, 1) := by decide +kernel
theorem dX7_readPlain_1 : decode cX7_readPlain 1 = .ok (.istore_n 2, 1) := by decide +kernel
theorem dX7_readPlain_2 : decode cX7_readPlain 2 = .ok (.iconst 0, 1) := by decide +kernel
theorem dX7_readPlain_3 : decode cX7_readPlain 3 = .ok (.istore_n 3, 1) := by decide +kernel
theorem dX7_readPlain_4 : decode cX7_readPlain 4 = .ok (.iload_n 3, 1) := by decide +kernel
theorem dX7_readPlain_5 : decode cX7_readPlain 5 = .ok (.sipush 400, 3) := by decide +kernel
theorem dX7_readPlain_8 : decode cX7_readPlain 8 = .ok (.if_icmp .ge 32, 3) := by decide +kernel
theorem dX7_readPlain_11 : decode cX7_readPlain 11 = .ok (.aload_n 0, 1) := by decide +kernel
theorem dX7_readPlain_12 : decode cX7_readPlain 12 = .ok (.ldc 137, 2) := by decide +kernel
theorem dX7_readPlain_14 : decode cX7_readPlain 14 = .ok (.invokevirtual 96, 3) := by decide +kernel
theorem dX7_readPlain_17 : decode cX7_readPlain 17 = .ok (.ifCond .eq 23, 3) := by decide +kernel
theorem dX7_readPlain_20 : decode cX7_readPlain 20 = .ok (.iload_n 2, 1) := by decide +kernel
theorem dX7_readPlain_21 : decode cX7_readPlain 21 = .ok (.ifCond .ne 7, 3) := by decide +kernel
theorem dX7_readPlain_24 : decode cX7_readPlain 24 = .ok (.iconst 1, 1) := by decide +kernel
theorem dX7_readPlain_25 : decode cX7_readPlain 25 = .ok (.goto 4, 3) := by decide +kernel
theorem dX7_readPlain_28 : decode cX7_readPlain 28 = .ok (.iconst 0, 1) := by decide +kernel
theorem dX7_readPlain_29 : decode cX7_readPlain 29 = .ok (.istore_n 2, 1) := by decide +kernel
theorem dX7_readPlain_30 : decode cX7_readPlain 30 = .ok (.aload_n 0, 1) := by decide +kernel
theorem dX7_readPlain_31 : decode cX7_readPlain 31 = .ok (.invokevirtual 51, 3) := by decide +kernel
theorem dX7_readPlain_34 : decode cX7_readPlain 34 = .ok (.iinc 3 1, 3) := by decide +kernel
theorem dX7_readPlain_37 : decode cX7_readPlain 37 = .ok (.goto (-33), 3) := by decide +kernel
theorem dX7_readPlain_40 : decode cX7_readPlain 40 = .ok (.aload_n 0, 1) := by decide +kernel
theorem dX7_readPlain_41 : decode cX7_readPlain 41 = .ok (.bipush 40, 2) := by decide +kernel
theorem dX7_readPlain_43 : decode cX7_readPlain 43 = .ok (.invokevirtual 67, 3) := by decide +kernel
theorem dX7_readPlain_46 : decode cX7_readPlain 46 = .ok (.ifCond .eq 43, 3) := by decide +kernel
theorem dX7_readPlain_49 : decode cX7_readPlain 49 = .ok (.iload_n 1, 1) := by decide +kernel
theorem dX7_readPlain_50 : decode cX7_readPlain 50 = .ok (.bipush 8, 2) := by decide +kernel
theorem dX7_readPlain_52 : decode cX7_readPlain 52 = .ok (.if_icmp .lt 5, 3) := by decide +kernel
theorem dX7_readPlain_55 : decode cX7_readPlain 55 = .ok (.iconst 0, 1) := by decide +kernel
theorem dX7_readPlain_56 : decode cX7_readPlain 56 = .ok (.ireturn, 1) := by decide +kernel
theorem dX7_readPlain_57 : decode cX7_readPlain 57 = .ok (.aload_n 0, 1) := by decide +kernel
theorem dX7_readPlain_58 : decode cX7_readPlain 58 = .ok (.invokevirtual 51, 3) := by decide +kernel
theorem dX7_readPlain_61 : decode cX7_readPlain 61 = .ok (.aload_n 0, 1) := by decide +kernel
theorem dX7_readPlain_62 : decode cX7_readPlain 62 = .ok (.iload_n 1, 1) := by decide +kernel
theorem dX7_readPlain_63 : decode cX7_readPlain 63 = .ok (.iconst 1, 1) := by decide +kernel
theorem dX7_readPlain_64 : decode cX7_readPlain 64 = .ok (.iadd, 1) := by decide +kernel
theorem dX7_readPlain_65 : decode cX7_readPlain 65 = .ok (.invokevirtual 106, 3) := by decide +kernel
theorem dX7_readPlain_68 : decode cX7_readPlain 68 = .ok (.ifCond .eq 12, 3) := by decide +kernel
theorem dX7_readPlain_71 : decode cX7_readPlain 71 = .ok (.aload_n 0, 1) := by decide +kernel
theorem dX7_readPlain_72 : decode cX7_readPlain 72 = .ok (.bipush 41, 2) := by decide +kernel
theorem dX7_readPlain_74 : decode cX7_readPlain 74 = .ok (.invokevirtual 67, 3) := by decide +kernel
theorem dX7_readPlain_77 : decode cX7_readPlain 77 = .ok (.ifCond .ne 5, 3) := by decide +kernel
theorem dX7_readPlain_80 : decode cX7_readPlain 80 = .ok (.iconst 0, 1) := by decide +kernel
theorem dX7_readPlain_81 : decode cX7_readPlain 81 = .ok (.ireturn, 1) := by decide +kernel
theorem dX7_readPlain_82 : decode cX7_readPlain 82 = .ok (.aload_n 0, 1) := by decide +kernel
theorem dX7_readPlain_83 : decode cX7_readPlain 83 = .ok (.invokevirtual 51, 3) := by decide +kernel
theorem dX7_readPlain_86 : decode cX7_readPlain 86 = .ok (.goto 51, 3) := by decide +kernel
theorem dX7_readPlain_89 : decode cX7_readPlain 89 = .ok (.aload_n 0, 1) := by decide +kernel
theorem dX7_readPlain_90 : decode cX7_readPlain 90 = .ok (.iload_n 1, 1) := by decide +kernel
theorem dX7_readPlain_91 : decode cX7_readPlain 91 = .ok (.invokevirtual 124, 3) := by decide +kernel
theorem dX7_readPlain_94 : decode cX7_readPlain 94 = .ok (.ifCond .ne 5, 3) := by decide +kernel
theorem dX7_readPlain_97 : decode cX7_readPlain 97 = .ok (.iconst 0, 1) := by decide +kernel
theorem dX7_readPlain_98 : decode cX7_readPlain 98 = .ok (.ireturn, 1) := by decide +kernel
theorem dX7_readPlain_99 : decode cX7_readPlain 99 = .ok (.aload_n 0, 1) := by decide +kernel
theorem dX7_readPlain_100 : decode cX7_readPlain 100 = .ok (.ldc 139, 2) := by decide +kernel
theorem dX7_readPlain_102 : decode cX7_readPlain 102 = .ok (.invokevirtual 141, 3) := by decide +kernel
theorem dX7_readPlain_105 : decode cX7_readPlain 105 = .ok (.istore_n 3, 1) := by decide +kernel
theorem dX7_readPlain_106 : decode cX7_readPlain 106 = .ok (.iload_n 3, 1) := by decide +kernel
theorem dX7_readPlain_107 : decode cX7_readPlain 107 = .ok (.iconst (-1), 1) := by decide +kernel
theorem dX7_readPlain_108 : decode cX7_readPlain 108 = .ok (.if_icmp .ne 5, 3) := by decide +kernel
theorem dX7_readPlain_111 : decode cX7_readPlain 111 = .ok (.iconst 0, 1) := by decide +kernel
theorem dX7_readPlain_112 : decode cX7_readPlain 112 = .ok (.ireturn, 1) := by decide +kernel
theorem dX7_readPlain_113 : decode cX7_readPlain 113 = .ok (.aload_n 0, 1) := by decide +kernel
theorem dX7_readPlain_114 : decode cX7_readPlain 114 = .ok (.invokevirtual 51, 3) := by decide +kernel
theorem dX7_readPlain_117 : decode cX7_readPlain 117 = .ok (.aload_n 0, 1) := by decide +kernel
theorem dX7_readPlain_118 : decode cX7_readPlain 118 = .ok (.iload_n 1, 1) := by decide +kernel
theorem dX7_readPlain_119 : decode cX7_readPlain 119 = .ok (.invokevirtual 124, 3) := by decide +kernel
theorem dX7_readPlain_122 : decode cX7_readPlain 122 = .ok (.ifCond .ne 5, 3) := by decide +kernel
theorem dX7_readPlain_125 : decode cX7_readPlain 125 = .ok (.iconst 0, 1) := by decide +kernel
theorem dX7_readPlain_126 : decode cX7_readPlain 126 = .ok (.ireturn, 1) := by decide +kernel
theorem dX7_readPlain_127 : decode cX7_readPlain 127 = .ok (.aload_n 0, 1) := by decide +kernel
theorem dX7_readPlain_128 : decode cX7_readPlain 128 = .ok (.getfield 22, 3) := by decide +kernel
theorem dX7_readPlain_131 : decode cX7_readPlain 131 = .ok (.iload_n 3, 1) := by decide +kernel
theorem dX7_readPlain_132 : decode cX7_readPlain 132 = .ok (.iconst 0, 1) := by decide +kernel
theorem dX7_readPlain_133 : decode cX7_readPlain 133 = .ok (.invokevirtual 109, 3) := by decide +kernel
theorem dX7_readPlain_136 : decode cX7_readPlain 136 = .ok (.pop, 1) := by decide +kernel
theorem dX7_readPlain_137 : decode cX7_readPlain 137 = .ok (.iload_n 2, 1) := by decide +kernel
theorem dX7_readPlain_138 : decode cX7_readPlain 138 = .ok (.ifCond .eq 13, 3) := by decide +kernel
theorem dX7_readPlain_141 : decode cX7_readPlain 141 = .ok (.aload_n 0, 1) := by decide +kernel
theorem dX7_readPlain_142 : decode cX7_readPlain 142 = .ok (.getfield 22, 3) := by decide +kernel
theorem dX7_readPlain_145 : decode cX7_readPlain 145 = .ok (.iconst 2, 1) := by decide +kernel
theorem dX7_readPlain_146 : decode cX7_readPlain 146 = .ok (.iconst 0, 1) := by decide +kernel
theorem dX7_readPlain_147 : decode cX7_readPlain 147 = .ok (.invokevirtual 109, 3) := by decide +kernel
theorem dX7_readPlain_150 : decode cX7_readPlain 150 = .ok (.pop, 1) := by decide +kernel
theorem dX7_readPlain_151 : decode cX7_readPlain 151 = .ok (.iconst 1, 1) := by decide +kernel
theorem dX7_readPlain_152 : decode cX7_readPlain 152 = .ok (.ireturn, 1) := by decide +kernel
set_option maxRecDepth 20000 in
theorem rX7_readPlain_0 {E : EN} (hE : Ep E) {k : Nat} {mem : Mm} {Q : Int → Mm → Prop} {p0 : Int}
    (h : VM E mX7_readPlain (k + 1) mem 4 [(0, aR 591), (1, aI p0), (2, aI 0), (3, aI 0)] [] (retI Q)) :
    VM E mX7_readPlain (k + 1) mem 0 [(0, aR 591), (1, aI p0)] [] (retI Q) := by
  refine v_iconst (pc := 0) dX7_readPlain_0 (by decide) ?_
  refine v_istore_n (pc := 1) (al2 := [(2, aI 0), (0, aR 591), (1, aI p0)]) dX7_readPlain_1 (by decide) rfl ?_
  refine v_iconst (pc := 2) dX7_readPlain_2 (by decide) ?_
  refine v_istore_n (pc := 3) (al2 := [(3, aI 0), (2, aI 0), (0, aR 591), (1, aI p0)]) dX7_readPlain_3 (by decide) rfl ?_
  exact VG_sub (al' := [(0, aR 591), (1, aI p0), (2, aI 0), (3, aI 0)]) [2, 3, 1, 0] rfl h
theorem eX7_readPlain {E : EN} {k : Nat} {mem : Mm} {Q : Int → Mm → Prop} {p0 : Int} (hr_p0 : R32 p0) (h : VM E mX7_readPlain (k + 1) mem 0 [(0, aR 591), (1, aI p0)] [] (retI Q)) : CI E mX7_readPlain (k + 1) mem [aR 591, aI p0] Q := CI_of rfl (Nat.le_of_ble_eq_true rfl) h (aNs_c (aNr_R _) (aNs_c (aNr_I hr_p0) (fun _ q => nomatch q)))
set_option maxRecDepth 20000 in
theorem rX7_readPlain_4 {E : EN} (hE : Ep E) {k : Nat} {mem : Mm} {Q : Int → Mm → Prop} (hSt : aStr E) {p0 x2 x3 : Int}
    (h : ((400 ≤ x3 → (CI E mX7_isSign k mem [aR 591, aI 40] (fun r2 m1 => ((r2 = 0 → (R32 p0 → CI E mX7_readSum k m1 [aR 591, aI p0] (fun r4 m3 => ((¬ r4 = 0 → (CI E mX7_signIn k m3 [aR 591, aF (strA E 8)] (fun r6 m5 => ((¬ r6 = (-1) → (CV E mX7_advance k m5 [aR 591] (fun m7 => (R32 p0 → CI E mX7_readSum k m7 [aR 591, aI p0] (fun r9 m8 => ((¬ r9 = 0 → (isTx (m8 591 4)) ∧ (R32 r6 → CI E mX9_emit k m8 [aR (m8 591 4), aI r6, aI 0] (fun r12 m11 => ((x2 = 0 → Q 1 m11) ∧ (¬ x2 = 0 → (isTx (m11 591 4)) ∧ (CI E mX9_emit k m11 [aR (m11 591 4), aI 2, aI 0] (fun r15 m14 => Q 1 m14))))))) ∧ (r9 = 0 → Q 0 m8))))))) ∧ (r6 = (-1) → Q 0 m5))))) ∧ (r4 = 0 → Q 0 m3))))) ∧ (¬ r2 = 0 → ((p0 < 8 → (CV E mX7_advance k m1 [aR 591] (fun m16 => (R32 (p0 + 1)) ∧ (R32 (p0 + 1) → CI E mX7_readTest k m16 [aR 591, aI (p0 + 1)] (fun r19 m18 => ((r19 = 0 → Q 0 m18) ∧ (¬ r19 = 0 → (CI E mX7_isSign k m18 [aR 591, aI 41] (fun r21 m20 => ((¬ r21 = 0 → (CV E mX7_advance k m20 [aR 591] (fun m22 => ((x2 = 0 → Q 1 m22) ∧ (¬ x2 = 0 → (isTx (m22 591 4)) ∧ (CI E mX9_emit k m22 [aR (m22 591 4), aI 2, aI 0] (fun r25 m24 => Q 1 m24))))))) ∧ (r21 = 0 → Q 0 m20))))))))))) ∧ (8 ≤ p0 → Q 0 m1))))))) ∧ (x3 < 400 → (CI E mX7_isWord k mem [aR 591, aF (strA E 7)] (fun r27 m26 => ((r27 = 0 → (CI E mX7_isSign k m26 [aR 591, aI 40] (fun r29 m28 => ((r29 = 0 → (R32 p0 → CI E mX7_readSum k m28 [aR 591, aI p0] (fun r31 m30 => ((¬ r31 = 0 → (CI E mX7_signIn k m30 [aR 591, aF (strA E 8)] (fun r33 m32 => ((¬ r33 = (-1) → (CV E mX7_advance k m32 [aR 591] (fun m34 => (R32 p0 → CI E mX7_readSum k m34 [aR 591, aI p0] (fun r36 m35 => ((¬ r36 = 0 → (isTx (m35 591 4)) ∧ (R32 r33 → CI E mX9_emit k m35 [aR (m35 591 4), aI r33, aI 0] (fun r39 m38 => ((x2 = 0 → Q 1 m38) ∧ (¬ x2 = 0 → (isTx (m38 591 4)) ∧ (CI E mX9_emit k m38 [aR (m38 591 4), aI 2, aI 0] (fun r42 m41 => Q 1 m41))))))) ∧ (r36 = 0 → Q 0 m35))))))) ∧ (r33 = (-1) → Q 0 m32))))) ∧ (r31 = 0 → Q 0 m30))))) ∧ (¬ r29 = 0 → ((p0 < 8 → (CV E mX7_advance k m28 [aR 591] (fun m43 => (R32 (p0 + 1)) ∧ (R32 (p0 + 1) → CI E mX7_readTest k m43 [aR 591, aI (p0 + 1)] (fun r46 m45 => ((r46 = 0 → Q 0 m45) ∧ (¬ r46 = 0 → (CI E mX7_isSign k m45 [aR 591, aI 41] (fun r48 m47 => ((¬ r48 = 0 → (CV E mX7_advance k m47 [aR 591] (fun m49 => ((x2 = 0 → Q 1 m49) ∧ (¬ x2 = 0 → (isTx (m49 591 4)) ∧ (CI E mX9_emit k m49 [aR (m49 591 4), aI 2, aI 0] (fun r52 m51 => Q 1 m51))))))) ∧ (r48 = 0 → Q 0 m47))))))))))) ∧ (8 ≤ p0 → Q 0 m28))))))) ∧ (¬ r27 = 0 → ((¬ x2 = 0 → (CV E mX7_advance k m26 [aR 591] (fun m53 => (R32 (x3 + 1)) ∧ VM E mX7_readPlain (k + 1) m53 4 [(0, aR 591), (1, aI p0), (2, aI 0), (3, aI (x3 + 1))] [] (retI Q)))) ∧ (x2 = 0 → (CV E mX7_advance k m26 [aR 591] (fun m55 => (R32 (x3 + 1)) ∧ VM E mX7_readPlain (k + 1) m55 4 [(0, aR 591), (1, aI p0), (2, aI 1), (3, aI (x3 + 1))] [] (retI Q)))))))))))) :
    VM E mX7_readPlain (k + 1) mem 4 [(0, aR 591), (1, aI p0), (2, aI x2), (3, aI x3)] [] (retI Q) := by
  refine v_iload_n (pc := 4) dX7_readPlain_4 3 rfl ?_
  refine v_sipush (pc := 5) dX7_readPlain_5 (by decide) ?_
  refine v_icmpge (pc := 8) (tgt := 40) dX7_readPlain_8 (by decide) (fun c1 => ?_) (fun c1 => ?_)
  · have h := h.1 c1
    refine v_aload_n (pc := 40) dX7_readPlain_40 0 rfl ?_
    refine v_bipush (pc := 41) dX7_readPlain_41 (by decide) ?_
    refine m_invI (pc := 43) (mi' := mX7_isSign) (rest := []) [aI 40] dX7_readPlain_43 at591 (by decide) rfl msX7_isSign mvX7_isSign lkX7_67 rfl (Nat.le_of_ble_eq_true rfl) (fun hn => CI_mono (h) (fun r2 m1 h => ?_))
    refine v_ifeq (pc := 46) (tgt := 89) dX7_readPlain_46 (by decide) (fun c1 => ?_) (fun c1 => ?_)
    · have h := h.1 c1
      refine v_aload_n (pc := 89) dX7_readPlain_89 0 rfl ?_
      refine v_iload_n (pc := 90) dX7_readPlain_90 1 rfl ?_
      refine m_invI (pc := 91) (mi' := mX7_readSum) (rest := []) [aI p0] dX7_readPlain_91 at591 (by decide) rfl msX7_readSum mvX7_readSum lkX7_124 rfl (Nat.le_of_ble_eq_true rfl) (fun hn => CI_mono (h (aaI hn 1 rfl)) (fun r4 m3 h => ?_))
      refine v_ifne (pc := 94) (tgt := 99) dX7_readPlain_94 (by decide) (fun c1 => ?_) (fun c1 => ?_)
      · have h := h.1 c1
        refine v_aload_n (pc := 99) dX7_readPlain_99 0 rfl ?_
        refine m_ldcS (pc := 100) (i := 8) hSt dX7_readPlain_100 (by decide) rfl ?_
        refine m_invI (pc := 102) (mi' := mX7_signIn) (rest := []) [aF (strA E 8)] dX7_readPlain_102 at591 (by decide) rfl msX7_signIn mvX7_signIn lkX7_141 rfl (Nat.le_of_ble_eq_true rfl) (fun hn => CI_mono (h) (fun r6 m5 h => ?_))
        refine v_istore_n (pc := 105) (al2 := [(3, aI r6), (0, aR 591), (1, aI p0), (2, aI x2)]) dX7_readPlain_105 (by decide) rfl ?_
        refine v_iload_n (pc := 106) dX7_readPlain_106 0 rfl ?_
        refine v_iconst (pc := 107) dX7_readPlain_107 (by decide) ?_
        refine v_icmpne (pc := 108) (tgt := 113) dX7_readPlain_108 (by decide) (fun c1 => ?_) (fun c1 => ?_)
        · have h := h.1 c1
          refine v_aload_n (pc := 113) dX7_readPlain_113 1 rfl ?_
          refine m_invV (pc := 114) (mi' := mX7_advance) (rest := []) [] dX7_readPlain_114 at591 (by decide) rfl msX7_advance mvX7_advance lkX7_51 rfl (Nat.le_of_ble_eq_true rfl) (fun hn => CV_mono (h) (fun m7 h => ?_))
          refine v_aload_n (pc := 117) dX7_readPlain_117 1 rfl ?_
          refine v_iload_n (pc := 118) dX7_readPlain_118 2 rfl ?_
          refine m_invI (pc := 119) (mi' := mX7_readSum) (rest := []) [aI p0] dX7_readPlain_119 at591 (by decide) rfl msX7_readSum mvX7_readSum lkX7_124 rfl (Nat.le_of_ble_eq_true rfl) (fun hn => CI_mono (h (aaI hn 1 rfl)) (fun r9 m8 h => ?_))
          refine v_ifne (pc := 122) (tgt := 127) dX7_readPlain_122 (by decide) (fun c1 => ?_) (fun c1 => ?_)
          · have h := h.1 c1
            refine v_aload_n (pc := 127) dX7_readPlain_127 1 rfl ?_
            refine m_getf (pc := 128) (t := 2) (v := (m8 591 4)) dX7_readPlain_128 flX7_22 rfl at591 rfl ?_
            refine v_iload_n (pc := 131) dX7_readPlain_131 0 rfl ?_
            refine v_iconst (pc := 132) dX7_readPlain_132 (by decide) ?_
            obtain ⟨o10, h⟩ := h
            refine m_invI (pc := 133) (mi' := mX9_emit) (rest := []) [aI r6, aI 0] dX7_readPlain_133 (tx0 o10) (by decide) rfl msX9_emit mvX9_emit lkX7_109 rfl (Nat.le_of_ble_eq_true rfl) (fun hn => CI_mono (h (aaI hn 1 rfl)) (fun r12 m11 h => ?_))
            refine v_pop (pc := 136) dX7_readPlain_136 rfl ?_
            refine v_iload_n (pc := 137) dX7_readPlain_137 3 rfl ?_
            refine v_ifeq (pc := 138) (tgt := 151) dX7_readPlain_138 (by decide) (fun c1 => ?_) (fun c1 => ?_)
            · have h := h.1 c1
              refine v_iconst (pc := 151) dX7_readPlain_151 (by decide) ?_
              exact m_retZ (pc := 152) dX7_readPlain_152 rfl (by decide) h
            · have h := h.2 c1
              refine v_aload_n (pc := 141) dX7_readPlain_141 1 rfl ?_
              refine m_getf (pc := 142) (t := 2) (v := (m11 591 4)) dX7_readPlain_142 flX7_22 rfl at591 rfl ?_
              refine v_iconst (pc := 145) dX7_readPlain_145 (by decide) ?_
              refine v_iconst (pc := 146) dX7_readPlain_146 (by decide) ?_
              obtain ⟨o13, h⟩ := h
              refine m_invI (pc := 147) (mi' := mX9_emit) (rest := []) [aI 2, aI 0] dX7_readPlain_147 (tx0 o13) (by decide) rfl msX9_emit mvX9_emit lkX7_109 rfl (Nat.le_of_ble_eq_true rfl) (fun hn => CI_mono (h) (fun r15 m14 h => ?_))
              refine v_pop (pc := 150) dX7_readPlain_150 rfl ?_
              refine v_iconst (pc := 151) dX7_readPlain_151 (by decide) ?_
              exact m_retZ (pc := 152) dX7_readPlain_152 rfl (by decide) h
          · have h := h.2 c1
            refine v_iconst (pc := 125) dX7_readPlain_125 (by decide) ?_
            exact m_retZ (pc := 126) dX7_readPlain_126 rfl (by decide) h
        · have h := h.2 c1
          refine v_iconst (pc := 111) dX7_readPlain_111 (by decide) ?_
          exact m_retZ (pc := 112) dX7_readPlain_112 rfl (by decide) h
      · have h := h.2 c1
        refine v_iconst (pc := 97) dX7_readPlain_97 (by decide) ?_
        exact m_retZ (pc := 98) dX7_readPlain_98 rfl (by decide) h
    · have h := h.2 c1
      refine v_iload_n (pc := 49) dX7_readPlain_49 1 rfl ?_
      refine v_bipush (pc := 50) dX7_readPlain_50 (by decide) ?_
      refine v_icmplt (pc := 52) (tgt := 57) dX7_readPlain_52 (by decide) (fun c1 => ?_) (fun c1 => ?_)
      · have h := h.1 c1
        refine v_aload_n (pc := 57) dX7_readPlain_57 0 rfl ?_
        refine m_invV (pc := 58) (mi' := mX7_advance) (rest := []) [] dX7_readPlain_58 at591 (by decide) rfl msX7_advance mvX7_advance lkX7_51 rfl (Nat.le_of_ble_eq_true rfl) (fun hn => CV_mono (h) (fun m16 h => ?_))
        refine v_aload_n (pc := 61) dX7_readPlain_61 0 rfl ?_
        refine v_iload_n (pc := 62) dX7_readPlain_62 1 rfl ?_
        refine v_iconst (pc := 63) dX7_readPlain_63 (by decide) ?_
        obtain ⟨o17, h⟩ := h
        refine m_iadd (pc := 64) dX7_readPlain_64 o17 ?_
        refine m_invI (pc := 65) (mi' := mX7_readTest) (rest := []) [aI (p0 + 1)] dX7_readPlain_65 at591 (by decide) rfl msX7_readTest mvX7_readTest lkX7_106 rfl (Nat.le_of_ble_eq_true rfl) (fun hn => CI_mono (h (aaI hn 1 rfl)) (fun r19 m18 h => ?_))
        refine v_ifeq (pc := 68) (tgt := 80) dX7_readPlain_68 (by decide) (fun c1 => ?_) (fun c1 => ?_)
        · have h := h.1 c1
          refine v_iconst (pc := 80) dX7_readPlain_80 (by decide) ?_
          exact m_retZ (pc := 81) dX7_readPlain_81 rfl (by decide) h
        · have h := h.2 c1
          refine v_aload_n (pc := 71) dX7_readPlain_71 0 rfl ?_
          refine v_bipush (pc := 72) dX7_readPlain_72 (by decide) ?_
          refine m_invI (pc := 74) (mi' := mX7_isSign) (rest := []) [aI 41] dX7_readPlain_74 at591 (by decide) rfl msX7_isSign mvX7_isSign lkX7_67 rfl (Nat.le_of_ble_eq_true rfl) (fun hn => CI_mono (h) (fun r21 m20 h => ?_))
          refine v_ifne (pc := 77) (tgt := 82) dX7_readPlain_77 (by decide) (fun c1 => ?_) (fun c1 => ?_)
          · have h := h.1 c1
            refine v_aload_n (pc := 82) dX7_readPlain_82 0 rfl ?_
            refine m_invV (pc := 83) (mi' := mX7_advance) (rest := []) [] dX7_readPlain_83 at591 (by decide) rfl msX7_advance mvX7_advance lkX7_51 rfl (Nat.le_of_ble_eq_true rfl) (fun hn => CV_mono (h) (fun m22 h => ?_))
            refine v_goto (pc := 86) (tgt := 137) dX7_readPlain_86 (by decide) ?_
            refine v_iload_n (pc := 137) dX7_readPlain_137 2 rfl ?_
            refine v_ifeq (pc := 138) (tgt := 151) dX7_readPlain_138 (by decide) (fun c1 => ?_) (fun c1 => ?_)
            · have h := h.1 c1
              refine v_iconst (pc := 151) dX7_readPlain_151 (by decide) ?_
              exact m_retZ (pc := 152) dX7_readPlain_152 rfl (by decide) h
            · have h := h.2 c1
              refine v_aload_n (pc := 141) dX7_readPlain_141 0 rfl ?_
              refine m_getf (pc := 142) (t := 2) (v := (m22 591 4)) dX7_readPlain_142 flX7_22 rfl at591 rfl ?_
              refine v_iconst (pc := 145) dX7_readPlain_145 (by decide) ?_
              refine v_iconst (pc := 146) dX7_readPlain_146 (by decide) ?_
              obtain ⟨o23, h⟩ := h
              refine m_invI (pc := 147) (mi' := mX9_emit) (rest := []) [aI 2, aI 0] dX7_readPlain_147 (tx0 o23) (by decide) rfl msX9_emit mvX9_emit lkX7_109 rfl (Nat.le_of_ble_eq_true rfl) (fun hn => CI_mono (h) (fun r25 m24 h => ?_))
              refine v_pop (pc := 150) dX7_readPlain_150 rfl ?_
              refine v_iconst (pc := 151) dX7_readPlain_151 (by decide) ?_
              exact m_retZ (pc := 152) dX7_readPlain_152 rfl (by decide) h
          · have h := h.2 c1
            refine v_iconst (pc := 80) dX7_readPlain_80 (by decide) ?_
            exact m_retZ (pc := 81) dX7_readPlain_81 rfl (by decide) h
      · have h := h.2 c1
        refine v_iconst (pc := 55) dX7_readPlain_55 (by decide) ?_
        exact m_retZ (pc := 56) dX7_readPlain_56 rfl (by decide) h
  · have h := h.2 c1
    refine v_aload_n (pc := 11) dX7_readPlain_11 0 rfl ?_
    refine m_ldcS (pc := 12) (i := 7) hSt dX7_readPlain_12 (by decide) rfl ?_
    refine m_invI (pc := 14) (mi' := mX7_isWord) (rest := []) [aF (strA E 7)] dX7_readPlain_14 at591 (by decide) rfl msX7_isWord mvX7_isWord lkX7_96 rfl (Nat.le_of_ble_eq_true rfl) (fun hn => CI_mono (h) (fun r27 m26 h => ?_))
    refine v_ifeq (pc := 17) (tgt := 40) dX7_readPlain_17 (by decide) (fun c1 => ?_) (fun c1 => ?_)
    · have h := h.1 c1
      refine v_aload_n (pc := 40) dX7_readPlain_40 0 rfl ?_
      refine v_bipush (pc := 41) dX7_readPlain_41 (by decide) ?_
      refine m_invI (pc := 43) (mi' := mX7_isSign) (rest := []) [aI 40] dX7_readPlain_43 at591 (by decide) rfl msX7_isSign mvX7_isSign lkX7_67 rfl (Nat.le_of_ble_eq_true rfl) (fun hn => CI_mono (h) (fun r29 m28 h => ?_))
      refine v_ifeq (pc := 46) (tgt := 89) dX7_readPlain_46 (by decide) (fun c1 => ?_) (fun c1 => ?_)
      · have h := h.1 c1
        refine v_aload_n (pc := 89) dX7_readPlain_89 0 rfl ?_
        refine v_iload_n (pc := 90) dX7_readPlain_90 1 rfl ?_
        refine m_invI (pc := 91) (mi' := mX7_readSum) (rest := []) [aI p0] dX7_readPlain_91 at591 (by decide) rfl msX7_readSum mvX7_readSum lkX7_124 rfl (Nat.le_of_ble_eq_true rfl) (fun hn => CI_mono (h (aaI hn 1 rfl)) (fun r31 m30 h => ?_))
        refine v_ifne (pc := 94) (tgt := 99) dX7_readPlain_94 (by decide) (fun c1 => ?_) (fun c1 => ?_)
        · have h := h.1 c1
          refine v_aload_n (pc := 99) dX7_readPlain_99 0 rfl ?_
          refine m_ldcS (pc := 100) (i := 8) hSt dX7_readPlain_100 (by decide) rfl ?_
          refine m_invI (pc := 102) (mi' := mX7_signIn) (rest := []) [aF (strA E 8)] dX7_readPlain_102 at591 (by decide) rfl msX7_signIn mvX7_signIn lkX7_141 rfl (Nat.le_of_ble_eq_true rfl) (fun hn => CI_mono (h) (fun r33 m32 h => ?_))
          refine v_istore_n (pc := 105) (al2 := [(3, aI r33), (0, aR 591), (1, aI p0), (2, aI x2)]) dX7_readPlain_105 (by decide) rfl ?_
          refine v_iload_n (pc := 106) dX7_readPlain_106 0 rfl ?_
          refine v_iconst (pc := 107) dX7_readPlain_107 (by decide) ?_
          refine v_icmpne (pc := 108) (tgt := 113) dX7_readPlain_108 (by decide) (fun c1 => ?_) (fun c1 => ?_)
          · have h := h.1 c1
            refine v_aload_n (pc := 113) dX7_readPlain_113 1 rfl ?_
            refine m_invV (pc := 114) (mi' := mX7_advance) (rest := []) [] dX7_readPlain_114 at591 (by decide) rfl msX7_advance mvX7_advance lkX7_51 rfl (Nat.le_of_ble_eq_true rfl) (fun hn => CV_mono (h) (fun m34 h => ?_))
            refine v_aload_n (pc := 117) dX7_readPlain_117 1 rfl ?_
            refine v_iload_n (pc := 118) dX7_readPlain_118 2 rfl ?_
            refine m_invI (pc := 119) (mi' := mX7_readSum) (rest := []) [aI p0] dX7_readPlain_119 at591 (by decide) rfl msX7_readSum mvX7_readSum lkX7_124 rfl (Nat.le_of_ble_eq_true rfl) (fun hn => CI_mono (h (aaI hn 1 rfl)) (fun r36 m35 h => ?_))
            refine v_ifne (pc := 122) (tgt := 127) dX7_readPlain_122 (by decide) (fun c1 => ?_) (fun c1 => ?_)
            · have h := h.1 c1
              refine v_aload_n (pc := 127) dX7_readPlain_127 1 rfl ?_
              refine m_getf (pc := 128) (t := 2) (v := (m35 591 4)) dX7_readPlain_128 flX7_22 rfl at591 rfl ?_
              refine v_iload_n (pc := 131) dX7_readPlain_131 0 rfl ?_
              refine v_iconst (pc := 132) dX7_readPlain_132 (by decide) ?_
              obtain ⟨o37, h⟩ := h
              refine m_invI (pc := 133) (mi' := mX9_emit) (rest := []) [aI r33, aI 0] dX7_readPlain_133 (tx0 o37) (by decide) rfl msX9_emit mvX9_emit lkX7_109 rfl (Nat.le_of_ble_eq_true rfl) (fun hn => CI_mono (h (aaI hn 1 rfl)) (fun r39 m38 h => ?_))
              refine v_pop (pc := 136) dX7_readPlain_136 rfl ?_
              refine v_iload_n (pc := 137) dX7_readPlain_137 3 rfl ?_
              refine v_ifeq (pc := 138) (tgt := 151) dX7_readPlain_138 (by decide) (fun c1 => ?_) (fun c1 => ?_)
              · have h := h.1 c1
                refine v_iconst (pc := 151) dX7_readPlain_151 (by decide) ?_
                exact m_retZ (pc := 152) dX7_readPlain_152 rfl (by decide) h
              · have h := h.2 c1
                refine v_aload_n (pc := 141) dX7_readPlain_141 1 rfl ?_
                refine m_getf (pc := 142) (t := 2) (v := (m38 591 4)) dX7_readPlain_142 flX7_22 rfl at591 rfl ?_
                refine v_iconst (pc := 145) dX7_readPlain_145 (by decide) ?_
                refine v_iconst (pc := 146) dX7_readPlain_146 (by decide) ?_
                obtain ⟨o40, h⟩ := h
                refine m_invI (pc := 147) (mi' := mX9_emit) (rest := []) [aI 2, aI 0] dX7_readPlain_147 (tx0 o40) (by decide) rfl msX9_emit mvX9_emit lkX7_109 rfl (Nat.le_of_ble_eq_true rfl) (fun hn => CI_mono (h) (fun r42 m41 h => ?_))
                refine v_pop (pc := 150) dX7_readPlain_150 rfl ?_
                refine v_iconst (pc := 151) dX7_readPlain_151 (by decide) ?_
                exact m_retZ (pc := 152) dX7_readPlain_152 rfl (by decide) h
            · have h := h.2 c1
              refine v_iconst (pc := 125) dX7_readPlain_125 (by decide) ?_
              exact m_retZ (pc := 126) dX7_readPlain_126 rfl (by decide) h
          · have h := h.2 c1
            refine v_iconst (pc := 111) dX7_readPlain_111 (by decide) ?_
            exact m_retZ (pc := 112) dX7_readPlain_112 rfl (by decide) h
        · have h := h.2 c1
          refine v_iconst (pc := 97) dX7_readPlain_97 (by decide) ?_
          exact m_retZ (pc := 98) dX7_readPlain_98 rfl (by decide) h
      · have h := h.2 c1
        refine v_iload_n (pc := 49) dX7_readPlain_49 1 rfl ?_
        refine v_bipush (pc := 50) dX7_readPlain_50 (by decide) ?_
        refine v_icmplt (pc := 52) (tgt := 57) dX7_readPlain_52 (by decide) (fun c1 => ?_) (fun c1 => ?_)
        · have h := h.1 c1
          refine v_aload_n (pc := 57) dX7_readPlain_57 0 rfl ?_
          refine m_invV (pc := 58) (mi' := mX7_advance) (rest := []) [] dX7_readPlain_58 at591 (by decide) rfl msX7_advance mvX7_advance lkX7_51 rfl (Nat.le_of_ble_eq_true rfl) (fun hn => CV_mono (h) (fun m43 h => ?_))
          refine v_aload_n (pc := 61) dX7_readPlain_61 0 rfl ?_
          refine v_iload_n (pc := 62) dX7_readPlain_62 1 rfl ?_
          refine v_iconst (pc := 63) dX7_readPlain_63 (by decide) ?_
          obtain ⟨o44, h⟩ := h
          refine m_iadd (pc := 64) dX7_readPlain_64 o44 ?_
          refine m_invI (pc := 65) (mi' := mX7_readTest) (rest := []) [aI (p0 + 1)] dX7_readPlain_65 at591 (by decide) rfl msX7_readTest mvX7_readTest lkX7_106 rfl (Nat.le_of_ble_eq_true rfl) (fun hn => CI_mono (h (aaI hn 1 rfl)) (fun r46 m45 h => ?_))
          refine v_ifeq (pc := 68) (tgt := 80) dX7_readPlain_68 (by decide) (fun c1 => ?_) (fun c1 => ?_)
          · have h := h.1 c1
            refine v_iconst (pc := 80) dX7_readPlain_80 (by decide) ?_
            exact m_retZ (pc := 81) dX7_readPlain_81 rfl (by decide) h
          · have h := h.2 c1
            refine v_aload_n (pc := 71) dX7_readPlain_71 0 rfl ?_
            refine v_bipush (pc := 72) dX7_readPlain_72 (by decide) ?_
            refine m_invI (pc := 74) (mi' := mX7_isSign) (rest := []) [aI 41] dX7_readPlain_74 at591 (by decide) rfl msX7_isSign mvX7_isSign lkX7_67 rfl (Nat.le_of_ble_eq_true rfl) (fun hn => CI_mono (h) (fun r48 m47 h => ?_))
            refine v_ifne (pc := 77) (tgt := 82) dX7_readPlain_77 (by decide) (fun c1 => ?_) (fun c1 => ?_)
            · have h := h.1 c1
              refine v_aload_n (pc := 82) dX7_readPlain_82 0 rfl ?_
              refine m_invV (pc := 83) (mi' := mX7_advance) (rest := []) [] dX7_readPlain_83 at591 (by decide) rfl msX7_advance mvX7_advance lkX7_51 rfl (Nat.le_of_ble_eq_true rfl) (fun hn => CV_mono (h) (fun m49 h => ?_))
              refine v_goto (pc := 86) (tgt := 137) dX7_readPlain_86 (by decide) ?_
              refine v_iload_n (pc := 137) dX7_readPlain_137 2 rfl ?_
              refine v_ifeq (pc := 138) (tgt := 151) dX7_readPlain_138 (by decide) (fun c1 => ?_) (fun c1 => ?_)
              · have h := h.1 c1
                refine v_iconst (pc := 151) dX7_readPlain_151 (by decide) ?_
                exact m_retZ (pc := 152) dX7_readPlain_152 rfl (by decide) h
              · have h := h.2 c1
                refine v_aload_n (pc := 141) dX7_readPlain_141 0 rfl ?_
                refine m_getf (pc := 142) (t := 2) (v := (m49 591 4)) dX7_readPlain_142 flX7_22 rfl at591 rfl ?_
                refine v_iconst (pc := 145) dX7_readPlain_145 (by decide) ?_
                refine v_iconst (pc := 146) dX7_readPlain_146 (by decide) ?_
                obtain ⟨o50, h⟩ := h
                refine m_invI (pc := 147) (mi' := mX9_emit) (rest := []) [aI 2, aI 0] dX7_readPlain_147 (tx0 o50) (by decide) rfl msX9_emit mvX9_emit lkX7_109 rfl (Nat.le_of_ble_eq_true rfl) (fun hn => CI_mono (h) (fun r52 m51 h => ?_))
                refine v_pop (pc := 150) dX7_readPlain_150 rfl ?_
                refine v_iconst (pc := 151) dX7_readPlain_151 (by decide) ?_
                exact m_retZ (pc := 152) dX7_readPlain_152 rfl (by decide) h
            · have h := h.2 c1
              refine v_iconst (pc := 80) dX7_readPlain_80 (by decide) ?_
              exact m_retZ (pc := 81) dX7_readPlain_81 rfl (by decide) h
        · have h := h.2 c1
          refine v_iconst (pc := 55) dX7_readPlain_55 (by decide) ?_
          exact m_retZ (pc := 56) dX7_readPlain_56 rfl (by decide) h
    · have h := h.2 c1
      refine v_iload_n (pc := 20) dX7_readPlain_20 2 rfl ?_
      refine v_ifne (pc := 21) (tgt := 28) dX7_readPlain_21 (by decide) (fun c1 => ?_) (fun c1 => ?_)
      · have h := h.1 c1
        refine v_iconst (pc := 28) dX7_readPlain_28 (by decide) ?_
        refine v_istore_n (pc := 29) (al2 := [(2, aI 0), (0, aR 591), (1, aI p0), (3, aI x3)]) dX7_readPlain_29 (by decide) rfl ?_
        refine v_aload_n (pc := 30) dX7_readPlain_30 1 rfl ?_
        refine m_invV (pc := 31) (mi' := mX7_advance) (rest := []) [] dX7_readPlain_31 at591 (by decide) rfl msX7_advance mvX7_advance lkX7_51 rfl (Nat.le_of_ble_eq_true rfl) (fun hn => CV_mono (h) (fun m53 h => ?_))
        obtain ⟨o54, h⟩ := h
        refine m_iinc (pc := 34) (al2 := [(3, aI (x3 + 1)), (2, aI 0), (0, aR 591), (1, aI p0)]) dX7_readPlain_34 3 rfl (by decide) o54 rfl ?_
        refine v_goto (pc := 37) (tgt := 4) dX7_readPlain_37 (by decide) ?_
        exact VG_sub (al' := [(0, aR 591), (1, aI p0), (2, aI 0), (3, aI (x3 + 1))]) [2, 3, 1, 0] rfl h
      · have h := h.2 c1
        refine v_iconst (pc := 24) dX7_readPlain_24 (by decide) ?_
        refine v_goto (pc := 25) (tgt := 29) dX7_readPlain_25 (by decide) ?_
        refine v_istore_n (pc := 29) (al2 := [(2, aI 1), (0, aR 591), (1, aI p0), (3, aI x3)]) dX7_readPlain_29 (by decide) rfl ?_
        refine v_aload_n (pc := 30) dX7_readPlain_30 1 rfl ?_
        refine m_invV (pc := 31) (mi' := mX7_advance) (rest := []) [] dX7_readPlain_31 at591 (by decide) rfl msX7_advance mvX7_advance lkX7_51 rfl (Nat.le_of_ble_eq_true rfl) (fun hn => CV_mono (h) (fun m55 h => ?_))
        obtain ⟨o56, h⟩ := h
        refine m_iinc (pc := 34) (al2 := [(3, aI (x3 + 1)), (2, aI 1), (0, aR 591), (1, aI p0)]) dX7_readPlain_34 3 rfl (by decide) o56 rfl ?_
        refine v_goto (pc := 37) (tgt := 4) dX7_readPlain_37 (by decide) ?_
        exact VG_sub (al' := [(0, aR 591), (1, aI p0), (2, aI 1), (3, aI (x3 + 1))]) [2, 3, 1, 0] rfl h

theorem dX7_readSum_0 : decode cX7_readSum 0 = .ok (.iconst (-1), 1) := by decide +kernel
theorem dX7_readSum_1 : decode cX7_readSum 1 = .ok (.istore_n 2, 1) := by decide +kernel
theorem dX7_readSum_2 : decode cX7_readSum 2 = .ok (.iconst (-1), 1) := by decide +kernel
theorem dX7_readSum_3 : decode cX7_readSum 3 = .ok (.istore_n 3, 1) := by decide +kernel
theorem dX7_readSum_4 : decode cX7_readSum 4 = .ok (.iconst 0, 1) := by decide +kernel
theorem dX7_readSum_5 : decode cX7_readSum 5 = .ok (.istore 4, 2) := by decide +kernel
theorem dX7_readSum_7 : decode cX7_readSum 7 = .ok (.iload 4, 2) := by decide +kernel
theorem dX7_readSum_9 : decode cX7_readSum 9 = .ok (.sipush 400, 3) := by decide +kernel
theorem dX7_readSum_12 : decode cX7_readSum 12 = .ok (.if_icmp .ge 79, 3) := by decide +kernel
theorem dX7_readSum_15 : decode cX7_readSum 15 = .ok (.aload_n 0, 1) := by decide +kernel
theorem dX7_readSum_16 : decode cX7_readSum 16 = .ok (.iload_n 1, 1) := by decide +kernel
theorem dX7_readSum_17 : decode cX7_readSum 17 = .ok (.invokevirtual 144, 3) := by decide +kernel
theorem dX7_readSum_20 : decode cX7_readSum 20 = .ok (.ifCond .ne 5, 3) := by decide +kernel
theorem dX7_readSum_23 : decode cX7_readSum 23 = .ok (.iconst 0, 1) := by decide +kernel
theorem dX7_readSum_24 : decode cX7_readSum 24 = .ok (.ireturn, 1) := by decide +kernel
theorem dX7_readSum_25 : decode cX7_readSum 25 = .ok (.iload_n 3, 1) := by decide +kernel
theorem dX7_readSum_26 : decode cX7_readSum 26 = .ok (.iconst (-1), 1) := by decide +kernel
theorem dX7_readSum_27 : decode cX7_readSum 27 = .ok (.if_icmp .eq 13, 3) := by decide +kernel
theorem dX7_readSum_30 : decode cX7_readSum 30 = .ok (.aload_n 0, 1) := by decide +kernel
theorem dX7_readSum_31 : decode cX7_readSum 31 = .ok (.getfield 22, 3) := by decide +kernel
theorem dX7_readSum_34 : decode cX7_readSum 34 = .ok (.iload_n 3, 1) := by decide +kernel
theorem dX7_readSum_35 : decode cX7_readSum 35 = .ok (.iconst 0, 1) := by decide +kernel
theorem dX7_readSum_36 : decode cX7_readSum 36 = .ok (.invokevirtual 109, 3) := by decide +kernel
theorem dX7_readSum_39 : decode cX7_readSum 39 = .ok (.pop, 1) := by decide +kernel
theorem dX7_readSum_40 : decode cX7_readSum 40 = .ok (.aload_n 0, 1) := by decide +kernel
theorem dX7_readSum_41 : decode cX7_readSum 41 = .ok (.ldc 147, 2) := by decide +kernel
theorem dX7_readSum_43 : decode cX7_readSum 43 = .ok (.invokevirtual 141, 3) := by decide +kernel
theorem dX7_readSum_46 : decode cX7_readSum 46 = .ok (.istore_n 3, 1) := by decide +kernel
theorem dX7_readSum_47 : decode cX7_readSum 47 = .ok (.iload_n 3, 1) := by decide +kernel
theorem dX7_readSum_48 : decode cX7_readSum 48 = .ok (.iconst (-1), 1) := by decide +kernel
theorem dX7_readSum_49 : decode cX7_readSum 49 = .ok (.if_icmp .ne 32, 3) := by decide +kernel
theorem dX7_readSum_52 : decode cX7_readSum 52 = .ok (.iload_n 2, 1) := by decide +kernel
theorem dX7_readSum_53 : decode cX7_readSum 53 = .ok (.iconst (-1), 1) := by decide +kernel
theorem dX7_readSum_54 : decode cX7_readSum 54 = .ok (.if_icmp .eq 13, 3) := by decide +kernel
theorem dX7_readSum_57 : decode cX7_readSum 57 = .ok (.aload_n 0, 1) := by decide +kernel
theorem dX7_readSum_58 : decode cX7_readSum 58 = .ok (.getfield 22, 3) := by decide +kernel
theorem dX7_readSum_61 : decode cX7_readSum 61 = .ok (.iload_n 2, 1) := by decide +kernel
theorem dX7_readSum_62 : decode cX7_readSum 62 = .ok (.iconst 0, 1) := by decide +kernel
theorem dX7_readSum_63 : decode cX7_readSum 63 = .ok (.invokevirtual 109, 3) := by decide +kernel
theorem dX7_readSum_66 : decode cX7_readSum 66 = .ok (.pop, 1) := by decide +kernel
theorem dX7_readSum_67 : decode cX7_readSum 67 = .ok (.aload_n 0, 1) := by decide +kernel
theorem dX7_readSum_68 : decode cX7_readSum 68 = .ok (.ldc 149, 2) := by decide +kernel
theorem dX7_readSum_70 : decode cX7_readSum 70 = .ok (.invokevirtual 141, 3) := by decide +kernel
theorem dX7_readSum_73 : decode cX7_readSum 73 = .ok (.istore_n 2, 1) := by decide +kernel
theorem dX7_readSum_74 : decode cX7_readSum 74 = .ok (.iload_n 2, 1) := by decide +kernel
theorem dX7_readSum_75 : decode cX7_readSum 75 = .ok (.iconst (-1), 1) := by decide +kernel
theorem dX7_readSum_76 : decode cX7_readSum 76 = .ok (.if_icmp .ne 5, 3) := by decide +kernel
theorem dX7_readSum_79 : decode cX7_readSum 79 = .ok (.iconst 1, 1) := by decide +kernel
theorem dX7_readSum_80 : decode cX7_readSum 80 = .ok (.ireturn, 1) := by decide +kernel
theorem dX7_readSum_81 : decode cX7_readSum 81 = .ok (.aload_n 0, 1) := by decide +kernel
theorem dX7_readSum_82 : decode cX7_readSum 82 = .ok (.invokevirtual 51, 3) := by decide +kernel
theorem dX7_readSum_85 : decode cX7_readSum 85 = .ok (.iinc 4 1, 3) := by decide +kernel
theorem dX7_readSum_88 : decode cX7_readSum 88 = .ok (.goto (-81), 3) := by decide +kernel
theorem dX7_readSum_91 : decode cX7_readSum 91 = .ok (.iconst 0, 1) := by decide +kernel
theorem dX7_readSum_92 : decode cX7_readSum 92 = .ok (.ireturn, 1) := by decide +kernel
set_option maxRecDepth 20000 in
theorem rX7_readSum_0 {E : EN} (hE : Ep E) {k : Nat} {mem : Mm} {Q : Int → Mm → Prop} {p0 : Int}
    (h : VM E mX7_readSum (k + 1) mem 7 [(0, aR 591), (1, aI p0), (2, aI (-1)), (3, aI (-1)), (4, aI 0)] [] (retI Q)) :
    VM E mX7_readSum (k + 1) mem 0 [(0, aR 591), (1, aI p0)] [] (retI Q) := by
  refine v_iconst (pc := 0) dX7_readSum_0 (by decide) ?_
  refine v_istore_n (pc := 1) (al2 := [(2, aI (-1)), (0, aR 591), (1, aI p0)]) dX7_readSum_1 (by decide) rfl ?_
  refine v_iconst (pc := 2) dX7_readSum_2 (by decide) ?_
  refine v_istore_n (pc := 3) (al2 := [(3, aI (-1)), (2, aI (-1)), (0, aR 591), (1, aI p0)]) dX7_readSum_3 (by decide) rfl ?_
  refine v_iconst (pc := 4) dX7_readSum_4 (by decide) ?_
  refine v_istore (pc := 5) (al2 := [(4, aI 0), (3, aI (-1)), (2, aI (-1)), (0, aR 591), (1, aI p0)]) dX7_readSum_5 (by decide) rfl ?_
  exact VG_sub (al' := [(0, aR 591), (1, aI p0), (2, aI (-1)), (3, aI (-1)), (4, aI 0)]) [3, 4, 2, 1, 0] rfl h
theorem eX7_readSum {E : EN} {k : Nat} {mem : Mm} {Q : Int → Mm → Prop} {p0 : Int} (hr_p0 : R32 p0) (h : VM E mX7_readSum (k + 1) mem 0 [(0, aR 591), (1, aI p0)] [] (retI Q)) : CI E mX7_readSum (k + 1) mem [aR 591, aI p0] Q := CI_of rfl (Nat.le_of_ble_eq_true rfl) h (aNs_c (aNr_R _) (aNs_c (aNr_I hr_p0) (fun _ q => nomatch q)))
set_option maxRecDepth 20000 in
theorem rX7_readSum_7 {E : EN} (hE : Ep E) {k : Nat} {mem : Mm} {Q : Int → Mm → Prop} (hSt : aStr E) {p0 x2 x3 x4 : Int}
    (h : ((400 ≤ x4 → Q 0 mem) ∧ (x4 < 400 → (R32 p0 → CI E mX7_readPart k mem [aR 591, aI p0] (fun r2 m1 => ((¬ r2 = 0 → ((x3 = (-1) → (CI E mX7_signIn k m1 [aR 591, aF (strA E 9)] (fun r4 m3 => ((¬ r4 = (-1) → (CV E mX7_advance k m3 [aR 591] (fun m5 => (R32 (x4 + 1)) ∧ VM E mX7_readSum (k + 1) m5 7 [(0, aR 591), (1, aI p0), (2, aI x2), (3, aI r4), (4, aI (x4 + 1))] [] (retI Q)))) ∧ (r4 = (-1) → ((x2 = (-1) → (CI E mX7_signIn k m3 [aR 591, aF (strA E 10)] (fun r8 m7 => ((¬ r8 = (-1) → (CV E mX7_advance k m7 [aR 591] (fun m9 => (R32 (x4 + 1)) ∧ VM E mX7_readSum (k + 1) m9 7 [(0, aR 591), (1, aI p0), (2, aI r8), (3, aI r4), (4, aI (x4 + 1))] [] (retI Q)))) ∧ (r8 = (-1) → Q 1 m7))))) ∧ (¬ x2 = (-1) → (isTx (m3 591 4)) ∧ (R32 x2 → CI E mX9_emit k m3 [aR (m3 591 4), aI x2, aI 0] (fun r13 m12 => (CI E mX7_signIn k m12 [aR 591, aF (strA E 10)] (fun r15 m14 => ((¬ r15 = (-1) → (CV E mX7_advance k m14 [aR 591] (fun m16 => (R32 (x4 + 1)) ∧ VM E mX7_readSum (k + 1) m16 7 [(0, aR 591), (1, aI p0), (2, aI r15), (3, aI r4), (4, aI (x4 + 1))] [] (retI Q)))) ∧ (r15 = (-1) → Q 1 m14))))))))))))) ∧ (¬ x3 = (-1) → (isTx (m1 591 4)) ∧ (R32 x3 → CI E mX9_emit k m1 [aR (m1 591 4), aI x3, aI 0] (fun r20 m19 => (CI E mX7_signIn k m19 [aR 591, aF (strA E 9)] (fun r22 m21 => ((¬ r22 = (-1) → (CV E mX7_advance k m21 [aR 591] (fun m23 => (R32 (x4 + 1)) ∧ VM E mX7_readSum (k + 1) m23 7 [(0, aR 591), (1, aI p0), (2, aI x2), (3, aI r22), (4, aI (x4 + 1))] [] (retI Q)))) ∧ (r22 = (-1) → ((x2 = (-1) → (CI E mX7_signIn k m21 [aR 591, aF (strA E 10)] (fun r26 m25 => ((¬ r26 = (-1) → (CV E mX7_advance k m25 [aR 591] (fun m27 => (R32 (x4 + 1)) ∧ VM E mX7_readSum (k + 1) m27 7 [(0, aR 591), (1, aI p0), (2, aI r26), (3, aI r22), (4, aI (x4 + 1))] [] (retI Q)))) ∧ (r26 = (-1) → Q 1 m25))))) ∧ (¬ x2 = (-1) → (isTx (m21 591 4)) ∧ (R32 x2 → CI E mX9_emit k m21 [aR (m21 591 4), aI x2, aI 0] (fun r31 m30 => (CI E mX7_signIn k m30 [aR 591, aF (strA E 10)] (fun r33 m32 => ((¬ r33 = (-1) → (CV E mX7_advance k m32 [aR 591] (fun m34 => (R32 (x4 + 1)) ∧ VM E mX7_readSum (k + 1) m34 7 [(0, aR 591), (1, aI p0), (2, aI r33), (3, aI r22), (4, aI (x4 + 1))] [] (retI Q)))) ∧ (r33 = (-1) → Q 1 m32))))))))))))))))) ∧ (r2 = 0 → Q 0 m1))))))) :
    VM E mX7_readSum (k + 1) mem 7 [(0, aR 591), (1, aI p0), (2, aI x2), (3, aI x3), (4, aI x4)] [] (retI Q) := by
  refine v_iload (pc := 7) dX7_readSum_7 4 rfl ?_
  refine v_sipush (pc := 9) dX7_readSum_9 (by decide) ?_
  refine v_icmpge (pc := 12) (tgt := 91) dX7_readSum_12 (by decide) (fun c1 => ?_) (fun c1 => ?_)
  · have h := h.1 c1
    refine v_iconst (pc := 91) dX7_readSum_91 (by decide) ?_
    exact m_retZ (pc := 92) dX7_readSum_92 rfl (by decide) h
  · have h := h.2 c1
    refine v_aload_n (pc := 15) dX7_readSum_15 0 rfl ?_
    refine v_iload_n (pc := 16) dX7_readSum_16 1 rfl ?_
    refine m_invI (pc := 17) (mi' := mX7_readPart) (rest := []) [aI p0] dX7_readSum_17 at591 (by decide) rfl msX7_readPart mvX7_readPart lkX7_144 rfl (Nat.le_of_ble_eq_true rfl) (fun hn => CI_mono (h (aaI hn 1 rfl)) (fun r2 m1 h => ?_))
    refine v_ifne (pc := 20) (tgt := 25) dX7_readSum_20 (by decide) (fun c1 => ?_) (fun c1 => ?_)
    · have h := h.1 c1
      refine v_iload_n (pc := 25) dX7_readSum_25 3 rfl ?_
      refine v_iconst (pc := 26) dX7_readSum_26 (by decide) ?_
      refine v_icmpeq (pc := 27) (tgt := 40) dX7_readSum_27 (by decide) (fun c1 => ?_) (fun c1 => ?_)
      · have h := h.1 c1
        refine v_aload_n (pc := 40) dX7_readSum_40 0 rfl ?_
        refine m_ldcS (pc := 41) (i := 9) hSt dX7_readSum_41 (by decide) rfl ?_
        refine m_invI (pc := 43) (mi' := mX7_signIn) (rest := []) [aF (strA E 9)] dX7_readSum_43 at591 (by decide) rfl msX7_signIn mvX7_signIn lkX7_141 rfl (Nat.le_of_ble_eq_true rfl) (fun hn => CI_mono (h) (fun r4 m3 h => ?_))
        refine v_istore_n (pc := 46) (al2 := [(3, aI r4), (0, aR 591), (1, aI p0), (2, aI x2), (4, aI x4)]) dX7_readSum_46 (by decide) rfl ?_
        refine v_iload_n (pc := 47) dX7_readSum_47 0 rfl ?_
        refine v_iconst (pc := 48) dX7_readSum_48 (by decide) ?_
        refine v_icmpne (pc := 49) (tgt := 81) dX7_readSum_49 (by decide) (fun c1 => ?_) (fun c1 => ?_)
        · have h := h.1 c1
          refine v_aload_n (pc := 81) dX7_readSum_81 1 rfl ?_
          refine m_invV (pc := 82) (mi' := mX7_advance) (rest := []) [] dX7_readSum_82 at591 (by decide) rfl msX7_advance mvX7_advance lkX7_51 rfl (Nat.le_of_ble_eq_true rfl) (fun hn => CV_mono (h) (fun m5 h => ?_))
          obtain ⟨o6, h⟩ := h
          refine m_iinc (pc := 85) (al2 := [(4, aI (x4 + 1)), (3, aI r4), (0, aR 591), (1, aI p0), (2, aI x2)]) dX7_readSum_85 4 rfl (by decide) o6 rfl ?_
          refine v_goto (pc := 88) (tgt := 7) dX7_readSum_88 (by decide) ?_
          exact VG_sub (al' := [(0, aR 591), (1, aI p0), (2, aI x2), (3, aI r4), (4, aI (x4 + 1))]) [2, 3, 4, 1, 0] rfl h
        · have h := h.2 c1
          refine v_iload_n (pc := 52) dX7_readSum_52 3 rfl ?_
          refine v_iconst (pc := 53) dX7_readSum_53 (by decide) ?_
          refine v_icmpeq (pc := 54) (tgt := 67) dX7_readSum_54 (by decide) (fun c1 => ?_) (fun c1 => ?_)
          · have h := h.1 c1
            refine v_aload_n (pc := 67) dX7_readSum_67 1 rfl ?_
            refine m_ldcS (pc := 68) (i := 10) hSt dX7_readSum_68 (by decide) rfl ?_
            refine m_invI (pc := 70) (mi' := mX7_signIn) (rest := []) [aF (strA E 10)] dX7_readSum_70 at591 (by decide) rfl msX7_signIn mvX7_signIn lkX7_141 rfl (Nat.le_of_ble_eq_true rfl) (fun hn => CI_mono (h) (fun r8 m7 h => ?_))
            refine v_istore_n (pc := 73) (al2 := [(2, aI r8), (3, aI r4), (0, aR 591), (1, aI p0), (4, aI x4)]) dX7_readSum_73 (by decide) rfl ?_
            refine v_iload_n (pc := 74) dX7_readSum_74 0 rfl ?_
            refine v_iconst (pc := 75) dX7_readSum_75 (by decide) ?_
            refine v_icmpne (pc := 76) (tgt := 81) dX7_readSum_76 (by decide) (fun c1 => ?_) (fun c1 => ?_)
            · have h := h.1 c1
              refine v_aload_n (pc := 81) dX7_readSum_81 2 rfl ?_
              refine m_invV (pc := 82) (mi' := mX7_advance) (rest := []) [] dX7_readSum_82 at591 (by decide) rfl msX7_advance mvX7_advance lkX7_51 rfl (Nat.le_of_ble_eq_true rfl) (fun hn => CV_mono (h) (fun m9 h => ?_))
              obtain ⟨o10, h⟩ := h
              refine m_iinc (pc := 85) (al2 := [(4, aI (x4 + 1)), (2, aI r8), (3, aI r4), (0, aR 591), (1, aI p0)]) dX7_readSum_85 4 rfl (by decide) o10 rfl ?_
              refine v_goto (pc := 88) (tgt := 7) dX7_readSum_88 (by decide) ?_
              exact VG_sub (al' := [(0, aR 591), (1, aI p0), (2, aI r8), (3, aI r4), (4, aI (x4 + 1))]) [3, 4, 1, 2, 0] rfl h
            · have h := h.2 c1
              refine v_iconst (pc := 79) dX7_readSum_79 (by decide) ?_
              exact m_retZ (pc := 80) dX7_readSum_80 rfl (by decide) h
          · have h := h.2 c1
            refine v_aload_n (pc := 57) dX7_readSum_57 1 rfl ?_
            refine m_getf (pc := 58) (t := 2) (v := (m3 591 4)) dX7_readSum_58 flX7_22 rfl at591 rfl ?_
            refine v_iload_n (pc := 61) dX7_readSum_61 3 rfl ?_
            refine v_iconst (pc := 62) dX7_readSum_62 (by decide) ?_
            obtain ⟨o11, h⟩ := h
            refine m_invI (pc := 63) (mi' := mX9_emit) (rest := []) [aI x2, aI 0] dX7_readSum_63 (tx0 o11) (by decide) rfl msX9_emit mvX9_emit lkX7_109 rfl (Nat.le_of_ble_eq_true rfl) (fun hn => CI_mono (h (aaI hn 1 rfl)) (fun r13 m12 h => ?_))
            refine v_pop (pc := 66) dX7_readSum_66 rfl ?_
            refine v_aload_n (pc := 67) dX7_readSum_67 1 rfl ?_
            refine m_ldcS (pc := 68) (i := 10) hSt dX7_readSum_68 (by decide) rfl ?_
            refine m_invI (pc := 70) (mi' := mX7_signIn) (rest := []) [aF (strA E 10)] dX7_readSum_70 at591 (by decide) rfl msX7_signIn mvX7_signIn lkX7_141 rfl (Nat.le_of_ble_eq_true rfl) (fun hn => CI_mono (h) (fun r15 m14 h => ?_))
            refine v_istore_n (pc := 73) (al2 := [(2, aI r15), (3, aI r4), (0, aR 591), (1, aI p0), (4, aI x4)]) dX7_readSum_73 (by decide) rfl ?_
            refine v_iload_n (pc := 74) dX7_readSum_74 0 rfl ?_
            refine v_iconst (pc := 75) dX7_readSum_75 (by decide) ?_
            refine v_icmpne (pc := 76) (tgt := 81) dX7_readSum_76 (by decide) (fun c1 => ?_) (fun c1 => ?_)
            · have h := h.1 c1
              refine v_aload_n (pc := 81) dX7_readSum_81 2 rfl ?_
              refine m_invV (pc := 82) (mi' := mX7_advance) (rest := []) [] dX7_readSum_82 at591 (by decide) rfl msX7_advance mvX7_advance lkX7_51 rfl (Nat.le_of_ble_eq_true rfl) (fun hn => CV_mono (h) (fun m16 h => ?_))
              obtain ⟨o17, h⟩ := h
              refine m_iinc (pc := 85) (al2 := [(4, aI (x4 + 1)), (2, aI r15), (3, aI r4), (0, aR 591), (1, aI p0)]) dX7_readSum_85 4 rfl (by decide) o17 rfl ?_
              refine v_goto (pc := 88) (tgt := 7) dX7_readSum_88 (by decide) ?_
              exact VG_sub (al' := [(0, aR 591), (1, aI p0), (2, aI r15), (3, aI r4), (4, aI (x4 + 1))]) [3, 4, 1, 2, 0] rfl h
            · have h := h.2 c1
              refine v_iconst (pc := 79) dX7_readSum_79 (by decide) ?_
              exact m_retZ (pc := 80) dX7_readSum_80 rfl (by decide) h
      · have h := h.2 c1
        refine v_aload_n (pc := 30) dX7_readSum_30 0 rfl ?_
        refine m_getf (pc := 31) (t := 2) (v := (m1 591 4)) dX7_readSum_31 flX7_22 rfl at591 rfl ?_
        refine v_iload_n (pc := 34) dX7_readSum_34 3 rfl ?_
        refine v_iconst (pc := 35) dX7_readSum_35 (by decide) ?_
        obtain ⟨o18, h⟩ := h
        refine m_invI (pc := 36) (mi' := mX9_emit) (rest := []) [aI x3, aI 0] dX7_readSum_36 (tx0 o18) (by decide) rfl msX9_emit mvX9_emit lkX7_109 rfl (Nat.le_of_ble_eq_true rfl) (fun hn => CI_mono (h (aaI hn 1 rfl)) (fun r20 m19 h => ?_))
        refine v_pop (pc := 39) dX7_readSum_39 rfl ?_
        refine v_aload_n (pc := 40) dX7_readSum_40 0 rfl ?_
        refine m_ldcS (pc := 41) (i := 9) hSt dX7_readSum_41 (by decide) rfl ?_
        refine m_invI (pc := 43) (mi' := mX7_signIn) (rest := []) [aF (strA E 9)] dX7_readSum_43 at591 (by decide) rfl msX7_signIn mvX7_signIn lkX7_141 rfl (Nat.le_of_ble_eq_true rfl) (fun hn => CI_mono (h) (fun r22 m21 h => ?_))
        refine v_istore_n (pc := 46) (al2 := [(3, aI r22), (0, aR 591), (1, aI p0), (2, aI x2), (4, aI x4)]) dX7_readSum_46 (by decide) rfl ?_
        refine v_iload_n (pc := 47) dX7_readSum_47 0 rfl ?_
        refine v_iconst (pc := 48) dX7_readSum_48 (by decide) ?_
        refine v_icmpne (pc := 49) (tgt := 81) dX7_readSum_49 (by decide) (fun c1 => ?_) (fun c1 => ?_)
        · have h := h.1 c1
          refine v_aload_n (pc := 81) dX7_readSum_81 1 rfl ?_
          refine m_invV (pc := 82) (mi' := mX7_advance) (rest := []) [] dX7_readSum_82 at591 (by decide) rfl msX7_advance mvX7_advance lkX7_51 rfl (Nat.le_of_ble_eq_true rfl) (fun hn => CV_mono (h) (fun m23 h => ?_))
          obtain ⟨o24, h⟩ := h
          refine m_iinc (pc := 85) (al2 := [(4, aI (x4 + 1)), (3, aI r22), (0, aR 591), (1, aI p0), (2, aI x2)]) dX7_readSum_85 4 rfl (by decide) o24 rfl ?_
          refine v_goto (pc := 88) (tgt := 7) dX7_readSum_88 (by decide) ?_
          exact VG_sub (al' := [(0, aR 591), (1, aI p0), (2, aI x2), (3, aI r22), (4, aI (x4 + 1))]) [2, 3, 4, 1, 0] rfl h
        · have h := h.2 c1
          refine v_iload_n (pc := 52) dX7_readSum_52 3 rfl ?_
          refine v_iconst (pc := 53) dX7_readSum_53 (by decide) ?_
          refine v_icmpeq (pc := 54) (tgt := 67) dX7_readSum_54 (by decide) (fun c1 => ?_) (fun c1 => ?_)
          · have h := h.1 c1
            refine v_aload_n (pc := 67) dX7_readSum_67 1 rfl ?_
            refine m_ldcS (pc := 68) (i := 10) hSt dX7_readSum_68 (by decide) rfl ?_
            refine m_invI (pc := 70) (mi' := mX7_signIn) (rest := []) [aF (strA E 10)] dX7_readSum_70 at591 (by decide) rfl msX7_signIn mvX7_signIn lkX7_141 rfl (Nat.le_of_ble_eq_true rfl) (fun hn => CI_mono (h) (fun r26 m25 h => ?_))
            refine v_istore_n (pc := 73) (al2 := [(2, aI r26), (3, aI r22), (0, aR 591), (1, aI p0), (4, aI x4)]) dX7_readSum_73 (by decide) rfl ?_
            refine v_iload_n (pc := 74) dX7_readSum_74 0 rfl ?_
            refine v_iconst (pc := 75) dX7_readSum_75 (by decide) ?_
            refine v_icmpne (pc := 76) (tgt := 81) dX7_readSum_76 (by decide) (fun c1 => ?_) (fun c1 => ?_)
            · have h := h.1 c1
              refine v_aload_n (pc := 81) dX7_readSum_81 2 rfl ?_
              refine m_invV (pc := 82) (mi' := mX7_advance) (rest := []) [] dX7_readSum_82 at591 (by decide) rfl msX7_advance mvX7_advance lkX7_51 rfl (Nat.le_of_ble_eq_true rfl) (fun hn => CV_mono (h) (fun m27 h => ?_))
              obtain ⟨o28, h⟩ := h
              refine m_iinc (pc := 85) (al2 := [(4, aI (x4 + 1)), (2, aI r26), (3, aI r22), (0, aR 591), (1, aI p0)]) dX7_readSum_85 4 rfl (by decide) o28 rfl ?_
              refine v_goto (pc := 88) (tgt := 7) dX7_readSum_88 (by decide) ?_
              exact VG_sub (al' := [(0, aR 591), (1, aI p0), (2, aI r26), (3, aI r22), (4, aI (x4 + 1))]) [3, 4, 1, 2, 0] rfl h
            · have h := h.2 c1
              refine v_iconst (pc := 79) dX7_readSum_79 (by decide) ?_
              exact m_retZ (pc := 80) dX7_readSum_80 rfl (by decide) h
          · have h := h.2 c1
            refine v_aload_n (pc := 57) dX7_readSum_57 1 rfl ?_
            refine m_getf (pc := 58) (t := 2) (v := (m21 591 4)) dX7_readSum_58 flX7_22 rfl at591 rfl ?_
            refine v_iload_n (pc := 61) dX7_readSum_61 3 rfl ?_
            refine v_iconst (pc := 62) dX7_readSum_62 (by decide) ?_
            obtain ⟨o29, h⟩ := h
            refine m_invI (pc := 63) (mi' := mX9_emit) (rest := []) [aI x2, aI 0] dX7_readSum_63 (tx0 o29) (by decide) rfl msX9_emit mvX9_emit lkX7_109 rfl (Nat.le_of_ble_eq_true rfl) (fun hn => CI_mono (h (aaI hn 1 rfl)) (fun r31 m30 h => ?_))
            refine v_pop (pc := 66) dX7_readSum_66 rfl ?_
            refine v_aload_n (pc := 67) dX7_readSum_67 1 rfl ?_
            refine m_ldcS (pc := 68) (i := 10) hSt dX7_readSum_68 (by decide) rfl ?_
            refine m_invI (pc := 70) (mi' := mX7_signIn) (rest := []) [aF (strA E 10)] dX7_readSum_70 at591 (by decide) rfl msX7_signIn mvX7_signIn lkX7_141 rfl (Nat.le_of_ble_eq_true rfl) (fun hn => CI_mono (h) (fun r33 m32 h => ?_))
            refine v_istore_n (pc := 73) (al2 := [(2, aI r33), (3, aI r22), (0, aR 591), (1, aI p0), (4, aI x4)]) dX7_readSum_73 (by decide) rfl ?_
            refine v_iload_n (pc := 74) dX7_readSum_74 0 rfl ?_
            refine v_iconst (pc := 75) dX7_readSum_75 (by decide) ?_
            refine v_icmpne (pc := 76) (tgt := 81) dX7_readSum_76 (by decide) (fun c1 => ?_) (fun c1 => ?_)
            · have h := h.1 c1
              refine v_aload_n (pc := 81) dX7_readSum_81 2 rfl ?_
              refine m_invV (pc := 82) (mi' := mX7_advance) (rest := []) [] dX7_readSum_82 at591 (by decide) rfl msX7_advance mvX7_advance lkX7_51 rfl (Nat.le_of_ble_eq_true rfl) (fun hn => CV_mono (h) (fun m34 h => ?_))
              obtain ⟨o35, h⟩ := h
              refine m_iinc (pc := 85) (al2 := [(4, aI (x4 + 1)), (2, aI r33), (3, aI r22), (0, aR 591), (1, aI p0)]) dX7_readSum_85 4 rfl (by decide) o35 rfl ?_
              refine v_goto (pc := 88) (tgt := 7) dX7_readSum_88 (by decide) ?_
              exact VG_sub (al' := [(0, aR 591), (1, aI p0), (2, aI r33), (3, aI r22), (4, aI (x4 + 1))]) [3, 4, 1, 2, 0] rfl h
            · have h := h.2 c1
              refine v_iconst (pc := 79) dX7_readSum_79 (by decide) ?_
              exact m_retZ (pc := 80) dX7_readSum_80 rfl (by decide) h
    · have h := h.2 c1
      refine v_iconst (pc := 23) dX7_readSum_23 (by decide) ?_
      exact m_retZ (pc := 24) dX7_readSum_24 rfl (by decide) h

theorem dX7_readPart_0 : decode cX7_readPart 0 = .ok (.aload_n 0, 1) := by decide +kernel
theorem dX7_readPart_1 : decode cX7_readPart 1 = .ok (.bipush 91, 2) := by decide +kernel
theorem dX7_readPart_3 : decode cX7_readPart 3 = .ok (.invokevirtual 67, 3) := by decide +kernel
theorem dX7_readPart_6 : decode cX7_readPart 6 = .ok (.ifCond .eq 36, 3) := by decide +kernel
theorem dX7_readPart_9 : decode cX7_readPart 9 = .ok (.iload_n 1, 1) := by decide +kernel
theorem dX7_readPart_10 : decode cX7_readPart 10 = .ok (.bipush 8, 2) := by decide +kernel
theorem dX7_readPart_12 : decode cX7_readPart 12 = .ok (.if_icmp .lt 5, 3) := by decide +kernel
theorem dX7_readPart_15 : decode cX7_readPart 15 = .ok (.iconst 0, 1) := by decide +kernel
theorem dX7_readPart_16 : decode cX7_readPart 16 = .ok (.ireturn, 1) := by decide +kernel
theorem dX7_readPart_17 : decode cX7_readPart 17 = .ok (.aload_n 0, 1) := by decide +kernel
theorem dX7_readPart_18 : decode cX7_readPart 18 = .ok (.invokevirtual 51, 3) := by decide +kernel
theorem dX7_readPart_21 : decode cX7_readPart 21 = .ok (.aload_n 0, 1) := by decide +kernel
theorem dX7_readPart_22 : decode cX7_readPart 22 = .ok (.iload_n 1, 1) := by decide +kernel
theorem dX7_readPart_23 : decode cX7_readPart 23 = .ok (.iconst 1, 1) := by decide +kernel
theorem dX7_readPart_24 : decode cX7_readPart 24 = .ok (.iadd, 1) := by decide +kernel
theorem dX7_readPart_25 : decode cX7_readPart 25 = .ok (.invokevirtual 124, 3) := by decide +kernel
theorem dX7_readPart_28 : decode cX7_readPart 28 = .ok (.ifCond .eq 12, 3) := by decide +kernel
theorem dX7_readPart_31 : decode cX7_readPart 31 = .ok (.aload_n 0, 1) := by decide +kernel
theorem dX7_readPart_32 : decode cX7_readPart 32 = .ok (.bipush 93, 2) := by decide +kernel
theorem dX7_readPart_34 : decode cX7_readPart 34 = .ok (.invokevirtual 67, 3) := by decide +kernel
theorem dX7_readPart_37 : decode cX7_readPart 37 = .ok (.ifCond .ne 120, 3) := by decide +kernel
theorem dX7_readPart_40 : decode cX7_readPart 40 = .ok (.iconst 0, 1) := by decide +kernel
theorem dX7_readPart_41 : decode cX7_readPart 41 = .ok (.ireturn, 1) := by decide +kernel
theorem dX7_readPart_42 : decode cX7_readPart 42 = .ok (.aload_n 0, 1) := by decide +kernel
theorem dX7_readPart_43 : decode cX7_readPart 43 = .ok (.getfield 42, 3) := by decide +kernel
theorem dX7_readPart_46 : decode cX7_readPart 46 = .ok (.bipush 50, 2) := by decide +kernel
theorem dX7_readPart_48 : decode cX7_readPart 48 = .ok (.if_icmp .lt 5, 3) := by decide +kernel
theorem dX7_readPart_51 : decode cX7_readPart 51 = .ok (.iconst 0, 1) := by decide +kernel
theorem dX7_readPart_52 : decode cX7_readPart 52 = .ok (.ireturn, 1) := by decide +kernel
theorem dX7_readPart_53 : decode cX7_readPart 53 = .ok (.aload_n 0, 1) := by decide +kernel
theorem dX7_readPart_54 : decode cX7_readPart 54 = .ok (.getfield 64, 3) := by decide +kernel
theorem dX7_readPart_57 : decode cX7_readPart 57 = .ok (.iconst 2, 1) := by decide +kernel
theorem dX7_readPart_58 : decode cX7_readPart 58 = .ok (.if_icmp .ne 31, 3) := by decide +kernel
theorem dX7_readPart_61 : decode cX7_readPart 61 = .ok (.aload_n 0, 1) := by decide +kernel
theorem dX7_readPart_62 : decode cX7_readPart 62 = .ok (.getfield 119, 3) := by decide +kernel
theorem dX7_readPart_65 : decode cX7_readPart 65 = .ok (.sipush 1000, 3) := by decide +kernel
theorem dX7_readPart_68 : decode cX7_readPart 68 = .ok (.if_icmp .le 5, 3) := by decide +kernel
theorem dX7_readPart_71 : decode cX7_readPart 71 = .ok (.iconst 0, 1) := by decide +kernel
theorem dX7_readPart_72 : decode cX7_readPart 72 = .ok (.ireturn, 1) := by decide +kernel
theorem dX7_readPart_73 : decode cX7_readPart 73 = .ok (.aload_n 0, 1) := by decide +kernel
theorem dX7_readPart_74 : decode cX7_readPart 74 = .ok (.getfield 22, 3) := by decide +kernel
theorem dX7_readPart_77 : decode cX7_readPart 77 = .ok (.iconst 0, 1) := by decide +kernel
theorem dX7_readPart_78 : decode cX7_readPart 78 = .ok (.aload_n 0, 1) := by decide +kernel
theorem dX7_readPart_79 : decode cX7_readPart 79 = .ok (.getfield 119, 3) := by decide +kernel
theorem dX7_readPart_82 : decode cX7_readPart 82 = .ok (.invokevirtual 109, 3) := by decide +kernel
theorem dX7_readPart_85 : decode cX7_readPart 85 = .ok (.pop, 1) := by decide +kernel
theorem dX7_readPart_86 : decode cX7_readPart 86 = .ok (.goto 61, 3) := by decide +kernel
theorem dX7_readPart_89 : decode cX7_readPart 89 = .ok (.aload_n 0, 1) := by decide +kernel
theorem dX7_readPart_90 : decode cX7_readPart 90 = .ok (.aload_n 0, 1) := by decide +kernel
theorem dX7_readPart_91 : decode cX7_readPart 91 = .ok (.getfield 38, 3) := by decide +kernel
theorem dX7_readPart_94 : decode cX7_readPart 94 = .ok (.ifCond .eq 8, 3) := by decide +kernel
theorem dX7_readPart_97 : decode cX7_readPart 97 = .ok (.ldc 151, 2) := by decide +kernel
theorem dX7_readPart_99 : decode cX7_readPart 99 = .ok (.goto 5, 3) := by decide +kernel
theorem dX7_readPart_102 : decode cX7_readPart 102 = .ok (.ldc 153, 2) := by decide +kernel
theorem dX7_readPart_104 : decode cX7_readPart 104 = .ok (.invokevirtual 75, 3) := by decide +kernel
theorem dX7_readPart_107 : decode cX7_readPart 107 = .ok (.istore_n 2, 1) := by decide +kernel
theorem dX7_readPart_108 : decode cX7_readPart 108 = .ok (.aload_n 0, 1) := by decide +kernel
theorem dX7_readPart_109 : decode cX7_readPart 109 = .ok (.getfield 38, 3) := by decide +kernel
theorem dX7_readPart_112 : decode cX7_readPart 112 = .ok (.ifCond .eq 18, 3) := by decide +kernel
theorem dX7_readPart_115 : decode cX7_readPart 115 = .ok (.iload_n 2, 1) := by decide +kernel
theorem dX7_readPart_116 : decode cX7_readPart 116 = .ok (.iconst 4, 1) := by decide +kernel
theorem dX7_readPart_117 : decode cX7_readPart 117 = .ok (.if_icmp .lt 13, 3) := by decide +kernel
theorem dX7_readPart_120 : decode cX7_readPart 120 = .ok (.aload_n 0, 1) := by decide +kernel
theorem dX7_readPart_121 : decode cX7_readPart 121 = .ok (.invokevirtual 51, 3) := by decide +kernel
theorem dX7_readPart_124 : decode cX7_readPart 124 = .ok (.aload_n 0, 1) := by decide +kernel
theorem dX7_readPart_125 : decode cX7_readPart 125 = .ok (.iload_n 2, 1) := by decide +kernel
theorem dX7_readPart_126 : decode cX7_readPart 126 = .ok (.invokevirtual 155, 3) := by decide +kernel
theorem dX7_readPart_129 : decode cX7_readPart 129 = .ok (.istore_n 2, 1) := by decide +kernel
theorem dX7_readPart_130 : decode cX7_readPart 130 = .ok (.iload_n 2, 1) := by decide +kernel
theorem dX7_readPart_131 : decode cX7_readPart 131 = .ok (.iconst (-1), 1) := by decide +kernel
theorem dX7_readPart_132 : decode cX7_readPart 132 = .ok (.if_icmp .ne 5, 3) := by decide +kernel
theorem dX7_readPart_135 : decode cX7_readPart 135 = .ok (.iconst 0, 1) := by decide +kernel
theorem dX7_readPart_136 : decode cX7_readPart 136 = .ok (.ireturn, 1) := by decide +kernel
theorem dX7_readPart_137 : decode cX7_readPart 137 = .ok (.aload_n 0, 1) := by decide +kernel
theorem dX7_readPart_138 : decode cX7_readPart 138 = .ok (.getfield 22, 3) := by decide +kernel
theorem dX7_readPart_141 : decode cX7_readPart 141 = .ok (.iconst 1, 1) := by decide +kernel
theorem dX7_readPart_142 : decode cX7_readPart 142 = .ok (.iload_n 2, 1) := by decide +kernel
theorem dX7_readPart_143 : decode cX7_readPart 143 = .ok (.invokevirtual 109, 3) := by decide +kernel
theorem dX7_readPart_146 : decode cX7_readPart 146 = .ok (.pop, 1) := by decide +kernel
theorem dX7_readPart_147 : decode cX7_readPart 147 = .ok (.aload_n 0, 1) := by decide +kernel
theorem dX7_readPart_148 : decode cX7_readPart 148 = .ok (.dup, 1) := by decide +kernel
theorem dX7_readPart_149 : decode cX7_readPart 149 = .ok (.getfield 42, 3) := by decide +kernel
theorem dX7_readPart_152 : decode cX7_readPart 152 = .ok (.iconst 1, 1) := by decide +kernel
theorem dX7_readPart_153 : decode cX7_readPart 153 = .ok (.iadd, 1) := by decide +kernel
theorem dX7_readPart_154 : decode cX7_readPart 154 = .ok (.putfield 42, 3) := by decide +kernel
theorem dX7_readPart_157 : decode cX7_readPart 157 = .ok (.aload_n 0, 1) := by decide +kernel
theorem dX7_readPart_158 : decode cX7_readPart 158 = .ok (.invokevirtual 51, 3) := by decide +kernel
theorem dX7_readPart_161 : decode cX7_readPart 161 = .ok (.iconst 1, 1) := by decide +kernel
theorem dX7_readPart_162 : decode cX7_readPart 162 = .ok (.ireturn, 1) := by decide +kernel
set_option maxRecDepth 20000 in
theorem rX7_readPart_0 {E : EN} (hE : Ep E) {k : Nat} {mem : Mm} {Q : Int → Mm → Prop} (hSt : aStr E) {p0 : Int}
    (h : (CI E mX7_isSign k mem [aR 591, aI 91] (fun r2 m1 => ((r2 = 0 → (((m1 591 6) < 50 → ((¬ (m1 591 9) = 2 → (((m1 591 5) = 0 → (CI E mX7_wordIn k m1 [aR 591, aF (strA E 12)] (fun r4 m3 => (((m3 591 5) = 0 → ((¬ r4 = (-1) → (isTx (m3 591 4)) ∧ (R32 r4 → CI E mX9_emit k m3 [aR (m3 591 4), aI 1, aI r4] (fun r7 m6 => (R32 ((m6 591 6) + 1)) ∧ (CV E mX7_advance k (aUp m6 591 6 ((m6 591 6) + 1)) [aR 591] (fun m9 => Q 1 m9))))) ∧ (r4 = (-1) → Q 0 m3))) ∧ (¬ (m3 591 5) = 0 → ((r4 < 4 → ((¬ r4 = (-1) → (isTx (m3 591 4)) ∧ (R32 r4 → CI E mX9_emit k m3 [aR (m3 591 4), aI 1, aI r4] (fun r12 m11 => (R32 ((m11 591 6) + 1)) ∧ (CV E mX7_advance k (aUp m11 591 6 ((m11 591 6) + 1)) [aR 591] (fun m14 => Q 1 m14))))) ∧ (r4 = (-1) → Q 0 m3))) ∧ (4 ≤ r4 → (CV E mX7_advance k m3 [aR 591] (fun m15 => (R32 r4 → CI E mX7_placeOf k m15 [aR 591, aI r4] (fun r17 m16 => ((¬ r17 = (-1) → (isTx (m16 591 4)) ∧ (R32 r17 → CI E mX9_emit k m16 [aR (m16 591 4), aI 1, aI r17] (fun r20 m19 => (R32 ((m19 591 6) + 1)) ∧ (CV E mX7_advance k (aUp m19 591 6 ((m19 591 6) + 1)) [aR 591] (fun m22 => Q 1 m22))))) ∧ (r17 = (-1) → Q 0 m16))))))))))))) ∧ (¬ (m1 591 5) = 0 → (CI E mX7_wordIn k m1 [aR 591, aF (strA E 11)] (fun r24 m23 => (((m23 591 5) = 0 → ((¬ r24 = (-1) → (isTx (m23 591 4)) ∧ (R32 r24 → CI E mX9_emit k m23 [aR (m23 591 4), aI 1, aI r24] (fun r27 m26 => (R32 ((m26 591 6) + 1)) ∧ (CV E mX7_advance k (aUp m26 591 6 ((m26 591 6) + 1)) [aR 591] (fun m29 => Q 1 m29))))) ∧ (r24 = (-1) → Q 0 m23))) ∧ (¬ (m23 591 5) = 0 → ((r24 < 4 → ((¬ r24 = (-1) → (isTx (m23 591 4)) ∧ (R32 r24 → CI E mX9_emit k m23 [aR (m23 591 4), aI 1, aI r24] (fun r32 m31 => (R32 ((m31 591 6) + 1)) ∧ (CV E mX7_advance k (aUp m31 591 6 ((m31 591 6) + 1)) [aR 591] (fun m34 => Q 1 m34))))) ∧ (r24 = (-1) → Q 0 m23))) ∧ (4 ≤ r24 → (CV E mX7_advance k m23 [aR 591] (fun m35 => (R32 r24 → CI E mX7_placeOf k m35 [aR 591, aI r24] (fun r37 m36 => ((¬ r37 = (-1) → (isTx (m36 591 4)) ∧ (R32 r37 → CI E mX9_emit k m36 [aR (m36 591 4), aI 1, aI r37] (fun r40 m39 => (R32 ((m39 591 6) + 1)) ∧ (CV E mX7_advance k (aUp m39 591 6 ((m39 591 6) + 1)) [aR 591] (fun m42 => Q 1 m42))))) ∧ (r37 = (-1) → Q 0 m36))))))))))))))) ∧ ((m1 591 9) = 2 → (((m1 591 10) ≤ 1000 → (isTx (m1 591 4)) ∧ (R32 (m1 591 10) → CI E mX9_emit k m1 [aR (m1 591 4), aI 0, aI (m1 591 10)] (fun r45 m44 => (R32 ((m44 591 6) + 1)) ∧ (CV E mX7_advance k (aUp m44 591 6 ((m44 591 6) + 1)) [aR 591] (fun m47 => Q 1 m47))))) ∧ (1000 < (m1 591 10) → Q 0 m1))))) ∧ (50 ≤ (m1 591 6) → Q 0 m1))) ∧ (¬ r2 = 0 → ((p0 < 8 → (CV E mX7_advance k m1 [aR 591] (fun m48 => (R32 (p0 + 1)) ∧ (R32 (p0 + 1) → CI E mX7_readSum k m48 [aR 591, aI (p0 + 1)] (fun r51 m50 => ((r51 = 0 → Q 0 m50) ∧ (¬ r51 = 0 → (CI E mX7_isSign k m50 [aR 591, aI 93] (fun r53 m52 => ((¬ r53 = 0 → (CV E mX7_advance k m52 [aR 591] (fun m54 => Q 1 m54))) ∧ (r53 = 0 → Q 0 m52))))))))))) ∧ (8 ≤ p0 → Q 0 m1))))))) :
    VM E mX7_readPart (k + 1) mem 0 [(0, aR 591), (1, aI p0)] [] (retI Q) := by
  refine v_aload_n (pc := 0) dX7_readPart_0 0 rfl ?_
  refine v_bipush (pc := 1) dX7_readPart_1 (by decide) ?_
  refine m_invI (pc := 3) (mi' := mX7_isSign) (rest := []) [aI 91] dX7_readPart_3 at591 (by decide) rfl msX7_isSign mvX7_isSign lkX7_67 rfl (Nat.le_of_ble_eq_true rfl) (fun hn => CI_mono (h) (fun r2 m1 h => ?_))
  refine v_ifeq (pc := 6) (tgt := 42) dX7_readPart_6 (by decide) (fun c1 => ?_) (fun c1 => ?_)
  · have h := h.1 c1
    refine v_aload_n (pc := 42) dX7_readPart_42 0 rfl ?_
    refine m_getf (pc := 43) (t := 0) (v := (m1 591 6)) dX7_readPart_43 flX7_42 rfl at591 rfl ?_
    refine v_bipush (pc := 46) dX7_readPart_46 (by decide) ?_
    refine v_icmplt (pc := 48) (tgt := 53) dX7_readPart_48 (by decide) (fun c1 => ?_) (fun c1 => ?_)
    · have h := h.1 c1
      refine v_aload_n (pc := 53) dX7_readPart_53 0 rfl ?_
      refine m_getf (pc := 54) (t := 0) (v := (m1 591 9)) dX7_readPart_54 flX7_64 rfl at591 rfl ?_
      refine v_iconst (pc := 57) dX7_readPart_57 (by decide) ?_
      refine v_icmpne (pc := 58) (tgt := 89) dX7_readPart_58 (by decide) (fun c1 => ?_) (fun c1 => ?_)
      · have h := h.1 c1
        refine v_aload_n (pc := 89) dX7_readPart_89 0 rfl ?_
        refine v_aload_n (pc := 90) dX7_readPart_90 0 rfl ?_
        refine m_getf (pc := 91) (t := 0) (v := (m1 591 5)) dX7_readPart_91 flX7_38 rfl at591 rfl ?_
        refine v_ifeq (pc := 94) (tgt := 102) dX7_readPart_94 (by decide) (fun c1 => ?_) (fun c1 => ?_)
        · have h := h.1 c1
          refine m_ldcS (pc := 102) (i := 12) hSt dX7_readPart_102 (by decide) rfl ?_
          refine m_invI (pc := 104) (mi' := mX7_wordIn) (rest := []) [aF (strA E 12)] dX7_readPart_104 at591 (by decide) rfl msX7_wordIn mvX7_wordIn lkX7_75 rfl (Nat.le_of_ble_eq_true rfl) (fun hn => CI_mono (h) (fun r4 m3 h => ?_))
          refine v_istore_n (pc := 107) (al2 := [(2, aI r4), (0, aR 591), (1, aI p0)]) dX7_readPart_107 (by decide) rfl ?_
          refine v_aload_n (pc := 108) dX7_readPart_108 1 rfl ?_
          refine m_getf (pc := 109) (t := 0) (v := (m3 591 5)) dX7_readPart_109 flX7_38 rfl at591 rfl ?_
          refine v_ifeq (pc := 112) (tgt := 130) dX7_readPart_112 (by decide) (fun c1 => ?_) (fun c1 => ?_)
          · have h := h.1 c1
            refine v_iload_n (pc := 130) dX7_readPart_130 0 rfl ?_
            refine v_iconst (pc := 131) dX7_readPart_131 (by decide) ?_
            refine v_icmpne (pc := 132) (tgt := 137) dX7_readPart_132 (by decide) (fun c1 => ?_) (fun c1 => ?_)
            · have h := h.1 c1
              refine v_aload_n (pc := 137) dX7_readPart_137 1 rfl ?_
              refine m_getf (pc := 138) (t := 2) (v := (m3 591 4)) dX7_readPart_138 flX7_22 rfl at591 rfl ?_
              refine v_iconst (pc := 141) dX7_readPart_141 (by decide) ?_
              refine v_iload_n (pc := 142) dX7_readPart_142 0 rfl ?_
              obtain ⟨o5, h⟩ := h
              refine m_invI (pc := 143) (mi' := mX9_emit) (rest := []) [aI 1, aI r4] dX7_readPart_143 (tx0 o5) (by decide) rfl msX9_emit mvX9_emit lkX7_109 rfl (Nat.le_of_ble_eq_true rfl) (fun hn => CI_mono (h (aaI hn 2 rfl)) (fun r7 m6 h => ?_))
              refine v_pop (pc := 146) dX7_readPart_146 rfl ?_
              refine v_aload_n (pc := 147) dX7_readPart_147 1 rfl ?_
              refine v_dup (pc := 148) dX7_readPart_148 rfl ?_
              refine m_getf (pc := 149) (t := 0) (v := (m6 591 6)) dX7_readPart_149 flX7_42 rfl at591 rfl ?_
              refine v_iconst (pc := 152) dX7_readPart_152 (by decide) ?_
              obtain ⟨o8, h⟩ := h
              refine m_iadd (pc := 153) dX7_readPart_153 o8 ?_
              refine v_putf (pc := 154) dX7_readPart_154 flX7_42 ⟨_, _, rfl, Or.inl rfl⟩ rfl (by decide) (fun q => nomatch q) (Or.inl fun _ => rfl) at591 ?_
              refine v_aload_n (pc := 157) dX7_readPart_157 1 rfl ?_
              refine m_invV (pc := 158) (mi' := mX7_advance) (rest := []) [] dX7_readPart_158 at591 (by decide) rfl msX7_advance mvX7_advance lkX7_51 rfl (Nat.le_of_ble_eq_true rfl) (fun hn => CV_mono (h) (fun m9 h => ?_))
              refine v_iconst (pc := 161) dX7_readPart_161 (by decide) ?_
              exact m_retZ (pc := 162) dX7_readPart_162 rfl (by decide) h
            · have h := h.2 c1
              refine v_iconst (pc := 135) dX7_readPart_135 (by decide) ?_
              exact m_retZ (pc := 136) dX7_readPart_136 rfl (by decide) h
          · have h := h.2 c1
            refine v_iload_n (pc := 115) dX7_readPart_115 0 rfl ?_
            refine v_iconst (pc := 116) dX7_readPart_116 (by decide) ?_
            refine v_icmplt (pc := 117) (tgt := 130) dX7_readPart_117 (by decide) (fun c1 => ?_) (fun c1 => ?_)
            · have h := h.1 c1
              refine v_iload_n (pc := 130) dX7_readPart_130 0 rfl ?_
              refine v_iconst (pc := 131) dX7_readPart_131 (by decide) ?_
              refine v_icmpne (pc := 132) (tgt := 137) dX7_readPart_132 (by decide) (fun c1 => ?_) (fun c1 => ?_)
              · have h := h.1 c1
                refine v_aload_n (pc := 137) dX7_readPart_137 1 rfl ?_
                refine m_getf (pc := 138) (t := 2) (v := (m3 591 4)) dX7_readPart_138 flX7_22 rfl at591 rfl ?_
                refine v_iconst (pc := 141) dX7_readPart_141 (by decide) ?_
                refine v_iload_n (pc := 142) dX7_readPart_142 0 rfl ?_
                obtain ⟨o10, h⟩ := h
                refine m_invI (pc := 143) (mi' := mX9_emit) (rest := []) [aI 1, aI r4] dX7_readPart_143 (tx0 o10) (by decide) rfl msX9_emit mvX9_emit lkX7_109 rfl (Nat.le_of_ble_eq_true rfl) (fun hn => CI_mono (h (aaI hn 2 rfl)) (fun r12 m11 h => ?_))
                refine v_pop (pc := 146) dX7_readPart_146 rfl ?_
                refine v_aload_n (pc := 147) dX7_readPart_147 1 rfl ?_
                refine v_dup (pc := 148) dX7_readPart_148 rfl ?_
                refine m_getf (pc := 149) (t := 0) (v := (m11 591 6)) dX7_readPart_149 flX7_42 rfl at591 rfl ?_
                refine v_iconst (pc := 152) dX7_readPart_152 (by decide) ?_
                obtain ⟨o13, h⟩ := h
                refine m_iadd (pc := 153) dX7_readPart_153 o13 ?_
                refine v_putf (pc := 154) dX7_readPart_154 flX7_42 ⟨_, _, rfl, Or.inl rfl⟩ rfl (by decide) (fun q => nomatch q) (Or.inl fun _ => rfl) at591 ?_
                refine v_aload_n (pc := 157) dX7_readPart_157 1 rfl ?_
                refine m_invV (pc := 158) (mi' := mX7_advance) (rest := []) [] dX7_readPart_158 at591 (by decide) rfl msX7_advance mvX7_advance lkX7_51 rfl (Nat.le_of_ble_eq_true rfl) (fun hn => CV_mono (h) (fun m14 h => ?_))
                refine v_iconst (pc := 161) dX7_readPart_161 (by decide) ?_
                exact m_retZ (pc := 162) dX7_readPart_162 rfl (by decide) h
              · have h := h.2 c1
                refine v_iconst (pc := 135) dX7_readPart_135 (by decide) ?_
                exact m_retZ (pc := 136) dX7_readPart_136 rfl (by decide) h
            · have h := h.2 c1
              refine v_aload_n (pc := 120) dX7_readPart_120 1 rfl ?_
              refine m_invV (pc := 121) (mi' := mX7_advance) (rest := []) [] dX7_readPart_121 at591 (by decide) rfl msX7_advance mvX7_advance lkX7_51 rfl (Nat.le_of_ble_eq_true rfl) (fun hn => CV_mono (h) (fun m15 h => ?_))
              refine v_aload_n (pc := 124) dX7_readPart_124 1 rfl ?_
              refine v_iload_n (pc := 125) dX7_readPart_125 0 rfl ?_
              refine m_invI (pc := 126) (mi' := mX7_placeOf) (rest := []) [aI r4] dX7_readPart_126 at591 (by decide) rfl msX7_placeOf mvX7_placeOf lkX7_155 rfl (Nat.le_of_ble_eq_true rfl) (fun hn => CI_mono (h (aaI hn 1 rfl)) (fun r17 m16 h => ?_))
              refine v_istore_n (pc := 129) (al2 := [(2, aI r17), (0, aR 591), (1, aI p0)]) dX7_readPart_129 (by decide) rfl ?_
              refine v_iload_n (pc := 130) dX7_readPart_130 0 rfl ?_
              refine v_iconst (pc := 131) dX7_readPart_131 (by decide) ?_
              refine v_icmpne (pc := 132) (tgt := 137) dX7_readPart_132 (by decide) (fun c1 => ?_) (fun c1 => ?_)
              · have h := h.1 c1
                refine v_aload_n (pc := 137) dX7_readPart_137 1 rfl ?_
                refine m_getf (pc := 138) (t := 2) (v := (m16 591 4)) dX7_readPart_138 flX7_22 rfl at591 rfl ?_
                refine v_iconst (pc := 141) dX7_readPart_141 (by decide) ?_
                refine v_iload_n (pc := 142) dX7_readPart_142 0 rfl ?_
                obtain ⟨o18, h⟩ := h
                refine m_invI (pc := 143) (mi' := mX9_emit) (rest := []) [aI 1, aI r17] dX7_readPart_143 (tx0 o18) (by decide) rfl msX9_emit mvX9_emit lkX7_109 rfl (Nat.le_of_ble_eq_true rfl) (fun hn => CI_mono (h (aaI hn 2 rfl)) (fun r20 m19 h => ?_))
                refine v_pop (pc := 146) dX7_readPart_146 rfl ?_
                refine v_aload_n (pc := 147) dX7_readPart_147 1 rfl ?_
                refine v_dup (pc := 148) dX7_readPart_148 rfl ?_
                refine m_getf (pc := 149) (t := 0) (v := (m19 591 6)) dX7_readPart_149 flX7_42 rfl at591 rfl ?_
                refine v_iconst (pc := 152) dX7_readPart_152 (by decide) ?_
                obtain ⟨o21, h⟩ := h
                refine m_iadd (pc := 153) dX7_readPart_153 o21 ?_
                refine v_putf (pc := 154) dX7_readPart_154 flX7_42 ⟨_, _, rfl, Or.inl rfl⟩ rfl (by decide) (fun q => nomatch q) (Or.inl fun _ => rfl) at591 ?_
                refine v_aload_n (pc := 157) dX7_readPart_157 1 rfl ?_
                refine m_invV (pc := 158) (mi' := mX7_advance) (rest := []) [] dX7_readPart_158 at591 (by decide) rfl msX7_advance mvX7_advance lkX7_51 rfl (Nat.le_of_ble_eq_true rfl) (fun hn => CV_mono (h) (fun m22 h => ?_))
                refine v_iconst (pc := 161) dX7_readPart_161 (by decide) ?_
                exact m_retZ (pc := 162) dX7_readPart_162 rfl (by decide) h
              · have h := h.2 c1
                refine v_iconst (pc := 135) dX7_readPart_135 (by decide) ?_
                exact m_retZ (pc := 136) dX7_readPart_136 rfl (by decide) h
        · have h := h.2 c1
          refine m_ldcS (pc := 97) (i := 11) hSt dX7_readPart_97 (by decide) rfl ?_
          refine v_goto (pc := 99) (tgt := 104) dX7_readPart_99 (by decide) ?_
          refine m_invI (pc := 104) (mi' := mX7_wordIn) (rest := []) [aF (strA E 11)] dX7_readPart_104 at591 (by decide) rfl msX7_wordIn mvX7_wordIn lkX7_75 rfl (Nat.le_of_ble_eq_true rfl) (fun hn => CI_mono (h) (fun r24 m23 h => ?_))
          refine v_istore_n (pc := 107) (al2 := [(2, aI r24), (0, aR 591), (1, aI p0)]) dX7_readPart_107 (by decide) rfl ?_
          refine v_aload_n (pc := 108) dX7_readPart_108 1 rfl ?_
          refine m_getf (pc := 109) (t := 0) (v := (m23 591 5)) dX7_readPart_109 flX7_38 rfl at591 rfl ?_
          refine v_ifeq (pc := 112) (tgt := 130) dX7_readPart_112 (by decide) (fun c1 => ?_) (fun c1 => ?_)
          · have h := h.1 c1
            refine v_iload_n (pc := 130) dX7_readPart_130 0 rfl ?_
            refine v_iconst (pc := 131) dX7_readPart_131 (by decide) ?_
            refine v_icmpne (pc := 132) (tgt := 137) dX7_readPart_132 (by decide) (fun c1 => ?_) (fun c1 => ?_)
            · have h := h.1 c1
              refine v_aload_n (pc := 137) dX7_readPart_137 1 rfl ?_
              refine m_getf (pc := 138) (t := 2) (v := (m23 591 4)) dX7_readPart_138 flX7_22 rfl at591 rfl ?_
              refine v_iconst (pc := 141) dX7_readPart_141 (by decide) ?_
              refine v_iload_n (pc := 142) dX7_readPart_142 0 rfl ?_
              obtain ⟨o25, h⟩ := h
              refine m_invI (pc := 143) (mi' := mX9_emit) (rest := []) [aI 1, aI r24] dX7_readPart_143 (tx0 o25) (by decide) rfl msX9_emit mvX9_emit lkX7_109 rfl (Nat.le_of_ble_eq_true rfl) (fun hn => CI_mono (h (aaI hn 2 rfl)) (fun r27 m26 h => ?_))
              refine v_pop (pc := 146) dX7_readPart_146 rfl ?_
              refine v_aload_n (pc := 147) dX7_readPart_147 1 rfl ?_
              refine v_dup (pc := 148) dX7_readPart_148 rfl ?_
              refine m_getf (pc := 149) (t := 0) (v := (m26 591 6)) dX7_readPart_149 flX7_42 rfl at591 rfl ?_
              refine v_iconst (pc := 152) dX7_readPart_152 (by decide) ?_
              obtain ⟨o28, h⟩ := h
              refine m_iadd (pc := 153) dX7_readPart_153 o28 ?_
              refine v_putf (pc := 154) dX7_readPart_154 flX7_42 ⟨_, _, rfl, Or.inl rfl⟩ rfl (by decide) (fun q => nomatch q) (Or.inl fun _ => rfl) at591 ?_
              refine v_aload_n (pc := 157) dX7_readPart_157 1 rfl ?_
              refine m_invV (pc := 158) (mi' := mX7_advance) (rest := []) [] dX7_readPart_158 at591 (by decide) rfl msX7_advance mvX7_advance lkX7_51 rfl (Nat.le_of_ble_eq_true rfl) (fun hn => CV_mono (h) (fun m29 h => ?_))
              refine v_iconst (pc := 161) dX7_readPart_161 (by decide) ?_
              exact m_retZ (pc := 162) dX7_readPart_162 rfl (by decide) h
            · have h := h.2 c1
              refine v_iconst (pc := 135) dX7_readPart_135 (by decide) ?_
              exact m_retZ (pc := 136) dX7_readPart_136 rfl (by decide) h
          · have h := h.2 c1
            refine v_iload_n (pc := 115) dX7_readPart_115 0 rfl ?_
            refine v_iconst (pc := 116) dX7_readPart_116 (by decide) ?_
            refine v_icmplt (pc := 117) (tgt := 130) dX7_readPart_117 (by decide) (fun c1 => ?_) (fun c1 => ?_)
            · have h := h.1 c1
              refine v_iload_n (pc := 130) dX7_readPart_130 0 rfl ?_
              refine v_iconst (pc := 131) dX7_readPart_131 (by decide) ?_
              refine v_icmpne (pc := 132) (tgt := 137) dX7_readPart_132 (by decide) (fun c1 => ?_) (fun c1 => ?_)
              · have h := h.1 c1
                refine v_aload_n (pc := 137) dX7_readPart_137 1 rfl ?_
                refine m_getf (pc := 138) (t := 2) (v := (m23 591 4)) dX7_readPart_138 flX7_22 rfl at591 rfl ?_
                refine v_iconst (pc := 141) dX7_readPart_141 (by decide) ?_
                refine v_iload_n (pc := 142) dX7_readPart_142 0 rfl ?_
                obtain ⟨o30, h⟩ := h
                refine m_invI (pc := 143) (mi' := mX9_emit) (rest := []) [aI 1, aI r24] dX7_readPart_143 (tx0 o30) (by decide) rfl msX9_emit mvX9_emit lkX7_109 rfl (Nat.le_of_ble_eq_true rfl) (fun hn => CI_mono (h (aaI hn 2 rfl)) (fun r32 m31 h => ?_))
                refine v_pop (pc := 146) dX7_readPart_146 rfl ?_
                refine v_aload_n (pc := 147) dX7_readPart_147 1 rfl ?_
                refine v_dup (pc := 148) dX7_readPart_148 rfl ?_
                refine m_getf (pc := 149) (t := 0) (v := (m31 591 6)) dX7_readPart_149 flX7_42 rfl at591 rfl ?_
                refine v_iconst (pc := 152) dX7_readPart_152 (by decide) ?_
                obtain ⟨o33, h⟩ := h
                refine m_iadd (pc := 153) dX7_readPart_153 o33 ?_
                refine v_putf (pc := 154) dX7_readPart_154 flX7_42 ⟨_, _, rfl, Or.inl rfl⟩ rfl (by decide) (fun q => nomatch q) (Or.inl fun _ => rfl) at591 ?_
                refine v_aload_n (pc := 157) dX7_readPart_157 1 rfl ?_
                refine m_invV (pc := 158) (mi' := mX7_advance) (rest := []) [] dX7_readPart_158 at591 (by decide) rfl msX7_advance mvX7_advance lkX7_51 rfl (Nat.le_of_ble_eq_true rfl) (fun hn => CV_mono (h) (fun m34 h => ?_))
                refine v_iconst (pc := 161) dX7_readPart_161 (by decide) ?_
                exact m_retZ (pc := 162) dX7_readPart_162 rfl (by decide) h
              · have h := h.2 c1
                refine v_iconst (pc := 135) dX7_readPart_135 (by decide) ?_
                exact m_retZ (pc := 136) dX7_readPart_136 rfl (by decide) h
            · have h := h.2 c1
              refine v_aload_n (pc := 120) dX7_readPart_120 1 rfl ?_
              refine m_invV (pc := 121) (mi' := mX7_advance) (rest := []) [] dX7_readPart_121 at591 (by decide) rfl msX7_advance mvX7_advance lkX7_51 rfl (Nat.le_of_ble_eq_true rfl) (fun hn => CV_mono (h) (fun m35 h => ?_))
              refine v_aload_n (pc := 124) dX7_readPart_124 1 rfl ?_
              refine v_iload_n (pc := 125) dX7_readPart_125 0 rfl ?_
              refine m_invI (pc := 126) (mi' := mX7_placeOf) (rest := []) [aI r24] dX7_readPart_126 at591 (by decide) rfl msX7_placeOf mvX7_placeOf lkX7_155 rfl (Nat.le_of_ble_eq_true rfl) (fun hn => CI_mono (h (aaI hn 1 rfl)) (fun r37 m36 h => ?_))
              refine v_istore_n (pc := 129) (al2 := [(2, aI r37), (0, aR 591), (1, aI p0)]) dX7_readPart_129 (by decide) rfl ?_
              refine v_iload_n (pc := 130) dX7_readPart_130 0 rfl ?_
              refine v_iconst (pc := 131) dX7_readPart_131 (by decide) ?_
              refine v_icmpne (pc := 132) (tgt := 137) dX7_readPart_132 (by decide) (fun c1 => ?_) (fun c1 => ?_)
              · have h := h.1 c1
                refine v_aload_n (pc := 137) dX7_readPart_137 1 rfl ?_
                refine m_getf (pc := 138) (t := 2) (v := (m36 591 4)) dX7_readPart_138 flX7_22 rfl at591 rfl ?_
                refine v_iconst (pc := 141) dX7_readPart_141 (by decide) ?_
                refine v_iload_n (pc := 142) dX7_readPart_142 0 rfl ?_
                obtain ⟨o38, h⟩ := h
                refine m_invI (pc := 143) (mi' := mX9_emit) (rest := []) [aI 1, aI r37] dX7_readPart_143 (tx0 o38) (by decide) rfl msX9_emit mvX9_emit lkX7_109 rfl (Nat.le_of_ble_eq_true rfl) (fun hn => CI_mono (h (aaI hn 2 rfl)) (fun r40 m39 h => ?_))
                refine v_pop (pc := 146) dX7_readPart_146 rfl ?_
                refine v_aload_n (pc := 147) dX7_readPart_147 1 rfl ?_
                refine v_dup (pc := 148) dX7_readPart_148 rfl ?_
                refine m_getf (pc := 149) (t := 0) (v := (m39 591 6)) dX7_readPart_149 flX7_42 rfl at591 rfl ?_
                refine v_iconst (pc := 152) dX7_readPart_152 (by decide) ?_
                obtain ⟨o41, h⟩ := h
                refine m_iadd (pc := 153) dX7_readPart_153 o41 ?_
                refine v_putf (pc := 154) dX7_readPart_154 flX7_42 ⟨_, _, rfl, Or.inl rfl⟩ rfl (by decide) (fun q => nomatch q) (Or.inl fun _ => rfl) at591 ?_
                refine v_aload_n (pc := 157) dX7_readPart_157 1 rfl ?_
                refine m_invV (pc := 158) (mi' := mX7_advance) (rest := []) [] dX7_readPart_158 at591 (by decide) rfl msX7_advance mvX7_advance lkX7_51 rfl (Nat.le_of_ble_eq_true rfl) (fun hn => CV_mono (h) (fun m42 h => ?_))
                refine v_iconst (pc := 161) dX7_readPart_161 (by decide) ?_
                exact m_retZ (pc := 162) dX7_readPart_162 rfl (by decide) h
              · have h := h.2 c1
                refine v_iconst (pc := 135) dX7_readPart_135 (by decide) ?_
                exact m_retZ (pc := 136) dX7_readPart_136 rfl (by decide) h
      · have h := h.2 c1
        refine v_aload_n (pc := 61) dX7_readPart_61 0 rfl ?_
        refine m_getf (pc := 62) (t := 0) (v := (m1 591 10)) dX7_readPart_62 flX7_119 rfl at591 rfl ?_
        refine v_sipush (pc := 65) dX7_readPart_65 (by decide) ?_
        refine v_icmple (pc := 68) (tgt := 73) dX7_readPart_68 (by decide) (fun c1 => ?_) (fun c1 => ?_)
        · have h := h.1 c1
          refine v_aload_n (pc := 73) dX7_readPart_73 0 rfl ?_
          refine m_getf (pc := 74) (t := 2) (v := (m1 591 4)) dX7_readPart_74 flX7_22 rfl at591 rfl ?_
          refine v_iconst (pc := 77) dX7_readPart_77 (by decide) ?_
          refine v_aload_n (pc := 78) dX7_readPart_78 0 rfl ?_
          refine m_getf (pc := 79) (t := 0) (v := (m1 591 10)) dX7_readPart_79 flX7_119 rfl at591 rfl ?_
          obtain ⟨o43, h⟩ := h
          refine m_invI (pc := 82) (mi' := mX9_emit) (rest := []) [aI 0, aI (m1 591 10)] dX7_readPart_82 (tx0 o43) (by decide) rfl msX9_emit mvX9_emit lkX7_109 rfl (Nat.le_of_ble_eq_true rfl) (fun hn => CI_mono (h (aaI hn 2 rfl)) (fun r45 m44 h => ?_))
          refine v_pop (pc := 85) dX7_readPart_85 rfl ?_
          refine v_goto (pc := 86) (tgt := 147) dX7_readPart_86 (by decide) ?_
          refine v_aload_n (pc := 147) dX7_readPart_147 0 rfl ?_
          refine v_dup (pc := 148) dX7_readPart_148 rfl ?_
          refine m_getf (pc := 149) (t := 0) (v := (m44 591 6)) dX7_readPart_149 flX7_42 rfl at591 rfl ?_
          refine v_iconst (pc := 152) dX7_readPart_152 (by decide) ?_
          obtain ⟨o46, h⟩ := h
          refine m_iadd (pc := 153) dX7_readPart_153 o46 ?_
          refine v_putf (pc := 154) dX7_readPart_154 flX7_42 ⟨_, _, rfl, Or.inl rfl⟩ rfl (by decide) (fun q => nomatch q) (Or.inl fun _ => rfl) at591 ?_
          refine v_aload_n (pc := 157) dX7_readPart_157 0 rfl ?_
          refine m_invV (pc := 158) (mi' := mX7_advance) (rest := []) [] dX7_readPart_158 at591 (by decide) rfl msX7_advance mvX7_advance lkX7_51 rfl (Nat.le_of_ble_eq_true rfl) (fun hn => CV_mono (h) (fun m47 h => ?_))
          refine v_iconst (pc := 161) dX7_readPart_161 (by decide) ?_
          exact m_retZ (pc := 162) dX7_readPart_162 rfl (by decide) h
        · have h := h.2 c1
          refine v_iconst (pc := 71) dX7_readPart_71 (by decide) ?_
          exact m_retZ (pc := 72) dX7_readPart_72 rfl (by decide) h
    · have h := h.2 c1
      refine v_iconst (pc := 51) dX7_readPart_51 (by decide) ?_
      exact m_retZ (pc := 52) dX7_readPart_52 rfl (by decide) h
  · have h := h.2 c1
    refine v_iload_n (pc := 9) dX7_readPart_9 1 rfl ?_
    refine v_bipush (pc := 10) dX7_readPart_10 (by decide) ?_
    refine v_icmplt (pc := 12) (tgt := 17) dX7_readPart_12 (by decide) (fun c1 => ?_) (fun c1 => ?_)
    · have h := h.1 c1
      refine v_aload_n (pc := 17) dX7_readPart_17 0 rfl ?_
      refine m_invV (pc := 18) (mi' := mX7_advance) (rest := []) [] dX7_readPart_18 at591 (by decide) rfl msX7_advance mvX7_advance lkX7_51 rfl (Nat.le_of_ble_eq_true rfl) (fun hn => CV_mono (h) (fun m48 h => ?_))
      refine v_aload_n (pc := 21) dX7_readPart_21 0 rfl ?_
      refine v_iload_n (pc := 22) dX7_readPart_22 1 rfl ?_
      refine v_iconst (pc := 23) dX7_readPart_23 (by decide) ?_
      obtain ⟨o49, h⟩ := h
      refine m_iadd (pc := 24) dX7_readPart_24 o49 ?_
      refine m_invI (pc := 25) (mi' := mX7_readSum) (rest := []) [aI (p0 + 1)] dX7_readPart_25 at591 (by decide) rfl msX7_readSum mvX7_readSum lkX7_124 rfl (Nat.le_of_ble_eq_true rfl) (fun hn => CI_mono (h (aaI hn 1 rfl)) (fun r51 m50 h => ?_))
      refine v_ifeq (pc := 28) (tgt := 40) dX7_readPart_28 (by decide) (fun c1 => ?_) (fun c1 => ?_)
      · have h := h.1 c1
        refine v_iconst (pc := 40) dX7_readPart_40 (by decide) ?_
        exact m_retZ (pc := 41) dX7_readPart_41 rfl (by decide) h
      · have h := h.2 c1
        refine v_aload_n (pc := 31) dX7_readPart_31 0 rfl ?_
        refine v_bipush (pc := 32) dX7_readPart_32 (by decide) ?_
        refine m_invI (pc := 34) (mi' := mX7_isSign) (rest := []) [aI 93] dX7_readPart_34 at591 (by decide) rfl msX7_isSign mvX7_isSign lkX7_67 rfl (Nat.le_of_ble_eq_true rfl) (fun hn => CI_mono (h) (fun r53 m52 h => ?_))
        refine v_ifne (pc := 37) (tgt := 157) dX7_readPart_37 (by decide) (fun c1 => ?_) (fun c1 => ?_)
        · have h := h.1 c1
          refine v_aload_n (pc := 157) dX7_readPart_157 0 rfl ?_
          refine m_invV (pc := 158) (mi' := mX7_advance) (rest := []) [] dX7_readPart_158 at591 (by decide) rfl msX7_advance mvX7_advance lkX7_51 rfl (Nat.le_of_ble_eq_true rfl) (fun hn => CV_mono (h) (fun m54 h => ?_))
          refine v_iconst (pc := 161) dX7_readPart_161 (by decide) ?_
          exact m_retZ (pc := 162) dX7_readPart_162 rfl (by decide) h
        · have h := h.2 c1
          refine v_iconst (pc := 40) dX7_readPart_40 (by decide) ?_
          exact m_retZ (pc := 41) dX7_readPart_41 rfl (by decide) h
    · have h := h.2 c1
      refine v_iconst (pc := 15) dX7_readPart_15 (by decide) ?_
      exact m_retZ (pc := 16) dX7_readPart_16 rfl (by decide) h
theorem eX7_readPart {E : EN} {k : Nat} {mem : Mm} {Q : Int → Mm → Prop} {p0 : Int} (hr_p0 : R32 p0) (h : VM E mX7_readPart (k + 1) mem 0 [(0, aR 591), (1, aI p0)] [] (retI Q)) : CI E mX7_readPart (k + 1) mem [aR 591, aI p0] Q := CI_of rfl (Nat.le_of_ble_eq_true rfl) h (aNs_c (aNr_R _) (aNs_c (aNr_I hr_p0) (fun _ q => nomatch q)))

theorem dX7_placeOf_0 : decode cX7_placeOf 0 = .ok (.aload_n 0, 1) := by decide +kernel
theorem dX7_placeOf_1 : decode cX7_placeOf 1 = .ok (.getfield 64, 3) := by decide +kernel
theorem dX7_placeOf_4 : decode cX7_placeOf 4 = .ok (.iconst 2, 1) := by decide +kernel
theorem dX7_placeOf_5 : decode cX7_placeOf 5 = .ok (.if_icmp .ne 22, 3) := by decide +kernel
theorem dX7_placeOf_8 : decode cX7_placeOf 8 = .ok (.aload_n 0, 1) := by decide +kernel
theorem dX7_placeOf_9 : decode cX7_placeOf 9 = .ok (.getfield 119, 3) := by decide +kernel
theorem dX7_placeOf_12 : decode cX7_placeOf 12 = .ok (.iload_n 1, 1) := by decide +kernel
theorem dX7_placeOf_13 : decode cX7_placeOf 13 = .ok (.iconst 4, 1) := by decide +kernel
theorem dX7_placeOf_14 : decode cX7_placeOf 14 = .ok (.if_icmp .ne 8, 3) := by decide +kernel
theorem dX7_placeOf_17 : decode cX7_placeOf 17 = .ok (.bipush 10, 2) := by decide +kernel
theorem dX7_placeOf_19 : decode cX7_placeOf 19 = .ok (.goto 5, 3) := by decide +kernel
theorem dX7_placeOf_22 : decode cX7_placeOf 22 = .ok (.bipush 32, 2) := by decide +kernel
theorem dX7_placeOf_24 : decode cX7_placeOf 24 = .ok (.if_icmp .lt 5, 3) := by decide +kernel
theorem dX7_placeOf_27 : decode cX7_placeOf 27 = .ok (.iconst (-1), 1) := by decide +kernel
theorem dX7_placeOf_28 : decode cX7_placeOf 28 = .ok (.ireturn, 1) := by decide +kernel
theorem dX7_placeOf_29 : decode cX7_placeOf 29 = .ok (.iload_n 1, 1) := by decide +kernel
theorem dX7_placeOf_30 : decode cX7_placeOf 30 = .ok (.lookupswitch 41 #[(4, 26), (5, 33)], 26) := by decide +kernel
theorem dX7_placeOf_56 : decode cX7_placeOf 56 = .ok (.iconst 4, 1) := by decide +kernel
theorem dX7_placeOf_57 : decode cX7_placeOf 57 = .ok (.aload_n 0, 1) := by decide +kernel
theorem dX7_placeOf_58 : decode cX7_placeOf 58 = .ok (.getfield 119, 3) := by decide +kernel
theorem dX7_placeOf_61 : decode cX7_placeOf 61 = .ok (.iadd, 1) := by decide +kernel
theorem dX7_placeOf_62 : decode cX7_placeOf 62 = .ok (.ireturn, 1) := by decide +kernel
theorem dX7_placeOf_63 : decode cX7_placeOf 63 = .ok (.bipush 14, 2) := by decide +kernel
theorem dX7_placeOf_65 : decode cX7_placeOf 65 = .ok (.aload_n 0, 1) := by decide +kernel
theorem dX7_placeOf_66 : decode cX7_placeOf 66 = .ok (.getfield 119, 3) := by decide +kernel
theorem dX7_placeOf_69 : decode cX7_placeOf 69 = .ok (.iadd, 1) := by decide +kernel
theorem dX7_placeOf_70 : decode cX7_placeOf 70 = .ok (.ireturn, 1) := by decide +kernel
theorem dX7_placeOf_71 : decode cX7_placeOf 71 = .ok (.bipush 46, 2) := by decide +kernel
theorem dX7_placeOf_73 : decode cX7_placeOf 73 = .ok (.aload_n 0, 1) := by decide +kernel
theorem dX7_placeOf_74 : decode cX7_placeOf 74 = .ok (.getfield 119, 3) := by decide +kernel
theorem dX7_placeOf_77 : decode cX7_placeOf 77 = .ok (.iadd, 1) := by decide +kernel
theorem dX7_placeOf_78 : decode cX7_placeOf 78 = .ok (.ireturn, 1) := by decide +kernel
set_option maxRecDepth 20000 in
theorem rX7_placeOf_0 {E : EN} (hE : Ep E) {k : Nat} {mem : Mm} {Q : Int → Mm → Prop} {p0 : Int}
    (h : ((¬ (mem 591 9) = 2 → Q (-1) mem) ∧ ((mem 591 9) = 2 → ((¬ p0 = 4 → (((mem 591 10) < 32 → ((p0 = 4 → (R32 (4 + (mem 591 10))) ∧ Q (4 + (mem 591 10)) mem) ∧ (p0 = 5 → (R32 (14 + (mem 591 10))) ∧ Q (14 + (mem 591 10)) mem) ∧ ((¬ p0 = 4 ∧ ¬ p0 = 5) → (R32 (46 + (mem 591 10))) ∧ Q (46 + (mem 591 10)) mem))) ∧ (32 ≤ (mem 591 10) → Q (-1) mem))) ∧ (p0 = 4 → (((mem 591 10) < 10 → ((p0 = 4 → (R32 (4 + (mem 591 10))) ∧ Q (4 + (mem 591 10)) mem) ∧ (p0 = 5 → (R32 (14 + (mem 591 10))) ∧ Q (14 + (mem 591 10)) mem) ∧ ((¬ p0 = 4 ∧ ¬ p0 = 5) → (R32 (46 + (mem 591 10))) ∧ Q (46 + (mem 591 10)) mem))) ∧ (10 ≤ (mem 591 10) → Q (-1) mem))))))) :
    VM E mX7_placeOf k mem 0 [(0, aR 591), (1, aI p0)] [] (retI Q) := by
  refine v_aload_n (pc := 0) dX7_placeOf_0 0 rfl ?_
  refine m_getf (pc := 1) (t := 0) (v := (mem 591 9)) dX7_placeOf_1 flX7_64 rfl at591 rfl ?_
  refine v_iconst (pc := 4) dX7_placeOf_4 (by decide) ?_
  refine v_icmpne (pc := 5) (tgt := 27) dX7_placeOf_5 (by decide) (fun c1 => ?_) (fun c1 => ?_)
  · have h := h.1 c1
    refine v_iconst (pc := 27) dX7_placeOf_27 (by decide) ?_
    exact m_retI (pc := 28) dX7_placeOf_28 rfl h
  · have h := h.2 c1
    refine v_aload_n (pc := 8) dX7_placeOf_8 0 rfl ?_
    refine m_getf (pc := 9) (t := 0) (v := (mem 591 10)) dX7_placeOf_9 flX7_119 rfl at591 rfl ?_
    refine v_iload_n (pc := 12) dX7_placeOf_12 1 rfl ?_
    refine v_iconst (pc := 13) dX7_placeOf_13 (by decide) ?_
    refine v_icmpne (pc := 14) (tgt := 22) dX7_placeOf_14 (by decide) (fun c1 => ?_) (fun c1 => ?_)
    · have h := h.1 c1
      refine v_bipush (pc := 22) dX7_placeOf_22 (by decide) ?_
      refine v_icmplt (pc := 24) (tgt := 29) dX7_placeOf_24 (by decide) (fun c1 => ?_) (fun c1 => ?_)
      · have h := h.1 c1
        refine v_iload_n (pc := 29) dX7_placeOf_29 1 rfl ?_
        rcases (show p0 = 4 ∨ p0 = 5 ∨ (¬ p0 = 4 ∧ ¬ p0 = 5) by omega) with c1 | c1 | c1
        · have h := h.1 c1
          refine v_lookup (pc := 30) (tgt := 56) dX7_placeOf_30 (by decide) (by rw [c1] <;> rfl) (by decide) ?_
          refine v_iconst (pc := 56) dX7_placeOf_56 (by decide) ?_
          refine v_aload_n (pc := 57) dX7_placeOf_57 0 rfl ?_
          refine m_getf (pc := 58) (t := 0) (v := (mem 591 10)) dX7_placeOf_58 flX7_119 rfl at591 rfl ?_
          obtain ⟨o1, h⟩ := h
          refine m_iadd (pc := 61) dX7_placeOf_61 o1 ?_
          exact m_retI (pc := 62) dX7_placeOf_62 rfl h
        · have h := h.2.1 c1
          refine v_lookup (pc := 30) (tgt := 63) dX7_placeOf_30 (by decide) (by rw [c1] <;> rfl) (by decide) ?_
          refine v_bipush (pc := 63) dX7_placeOf_63 (by decide) ?_
          refine v_aload_n (pc := 65) dX7_placeOf_65 0 rfl ?_
          refine m_getf (pc := 66) (t := 0) (v := (mem 591 10)) dX7_placeOf_66 flX7_119 rfl at591 rfl ?_
          obtain ⟨o2, h⟩ := h
          refine m_iadd (pc := 69) dX7_placeOf_69 o2 ?_
          exact m_retI (pc := 70) dX7_placeOf_70 rfl h
        · have h := h.2.2 c1
          refine v_lookup (pc := 30) (tgt := 71) (off := 41) dX7_placeOf_30 (by decide) (by simp [Op.lookupswitch.offset]; repeat (first | omega | split)) (by decide) ?_
          refine v_bipush (pc := 71) dX7_placeOf_71 (by decide) ?_
          refine v_aload_n (pc := 73) dX7_placeOf_73 0 rfl ?_
          refine m_getf (pc := 74) (t := 0) (v := (mem 591 10)) dX7_placeOf_74 flX7_119 rfl at591 rfl ?_
          obtain ⟨o3, h⟩ := h
          refine m_iadd (pc := 77) dX7_placeOf_77 o3 ?_
          exact m_retI (pc := 78) dX7_placeOf_78 rfl h
      · have h := h.2 c1
        refine v_iconst (pc := 27) dX7_placeOf_27 (by decide) ?_
        exact m_retI (pc := 28) dX7_placeOf_28 rfl h
    · have h := h.2 c1
      refine v_bipush (pc := 17) dX7_placeOf_17 (by decide) ?_
      refine v_goto (pc := 19) (tgt := 24) dX7_placeOf_19 (by decide) ?_
      refine v_icmplt (pc := 24) (tgt := 29) dX7_placeOf_24 (by decide) (fun c1 => ?_) (fun c1 => ?_)
      · have h := h.1 c1
        refine v_iload_n (pc := 29) dX7_placeOf_29 1 rfl ?_
        rcases (show p0 = 4 ∨ p0 = 5 ∨ (¬ p0 = 4 ∧ ¬ p0 = 5) by omega) with c1 | c1 | c1
        · have h := h.1 c1
          refine v_lookup (pc := 30) (tgt := 56) dX7_placeOf_30 (by decide) (by rw [c1] <;> rfl) (by decide) ?_
          refine v_iconst (pc := 56) dX7_placeOf_56 (by decide) ?_
          refine v_aload_n (pc := 57) dX7_placeOf_57 0 rfl ?_
          refine m_getf (pc := 58) (t := 0) (v := (mem 591 10)) dX7_placeOf_58 flX7_119 rfl at591 rfl ?_
          obtain ⟨o4, h⟩ := h
          refine m_iadd (pc := 61) dX7_placeOf_61 o4 ?_
          exact m_retI (pc := 62) dX7_placeOf_62 rfl h
        · have h := h.2.1 c1
          refine v_lookup (pc := 30) (tgt := 63) dX7_placeOf_30 (by decide) (by rw [c1] <;> rfl) (by decide) ?_
          refine v_bipush (pc := 63) dX7_placeOf_63 (by decide) ?_
          refine v_aload_n (pc := 65) dX7_placeOf_65 0 rfl ?_
          refine m_getf (pc := 66) (t := 0) (v := (mem 591 10)) dX7_placeOf_66 flX7_119 rfl at591 rfl ?_
          obtain ⟨o5, h⟩ := h
          refine m_iadd (pc := 69) dX7_placeOf_69 o5 ?_
          exact m_retI (pc := 70) dX7_placeOf_70 rfl h
        · have h := h.2.2 c1
          refine v_lookup (pc := 30) (tgt := 71) (off := 41) dX7_placeOf_30 (by decide) (by simp [Op.lookupswitch.offset]; repeat (first | omega | split)) (by decide) ?_
          refine v_bipush (pc := 71) dX7_placeOf_71 (by decide) ?_
          refine v_aload_n (pc := 73) dX7_placeOf_73 0 rfl ?_
          refine m_getf (pc := 74) (t := 0) (v := (mem 591 10)) dX7_placeOf_74 flX7_119 rfl at591 rfl ?_
          obtain ⟨o6, h⟩ := h
          refine m_iadd (pc := 77) dX7_placeOf_77 o6 ?_
          exact m_retI (pc := 78) dX7_placeOf_78 rfl h
      · have h := h.2 c1
        refine v_iconst (pc := 27) dX7_placeOf_27 (by decide) ?_
        exact m_retI (pc := 28) dX7_placeOf_28 rfl h
theorem eX7_placeOf {E : EN} {k : Nat} {mem : Mm} {Q : Int → Mm → Prop} {p0 : Int} (hr_p0 : R32 p0) (h : VM E mX7_placeOf k mem 0 [(0, aR 591), (1, aI p0)] [] (retI Q)) : CI E mX7_placeOf k mem [aR 591, aI p0] Q := CI_of rfl (Nat.le_of_ble_eq_true rfl) h (aNs_c (aNr_R _) (aNs_c (aNr_I hr_p0) (fun _ q => nomatch q)))

theorem dX7_advance_0 : decode cX7_advance 0 = .ok (.aload_n 0, 1) := by decide +kernel
theorem dX7_advance_1 : decode cX7_advance 1 = .ok (.aload_n 0, 1) := by decide +kernel
theorem dX7_advance_2 : decode cX7_advance 2 = .ok (.getfield 45, 3) := by decide +kernel
theorem dX7_advance_5 : decode cX7_advance 5 = .ok (.putfield 58, 3) := by decide +kernel
theorem dX7_advance_8 : decode cX7_advance 8 = .ok (.aload_n 0, 1) := by decide +kernel
theorem dX7_advance_9 : decode cX7_advance 9 = .ok (.getfield 58, 3) := by decide +kernel
theorem dX7_advance_12 : decode cX7_advance 12 = .ok (.ifCond .lt 41, 3) := by decide +kernel
theorem dX7_advance_15 : decode cX7_advance 15 = .ok (.aload_n 0, 1) := by decide +kernel
theorem dX7_advance_16 : decode cX7_advance 16 = .ok (.getfield 58, 3) := by decide +kernel
theorem dX7_advance_19 : decode cX7_advance 19 = .ok (.aload_n 0, 1) := by decide +kernel
theorem dX7_advance_20 : decode cX7_advance 20 = .ok (.getfield 35, 3) := by decide +kernel
theorem dX7_advance_23 : decode cX7_advance 23 = .ok (.if_icmp .ge 30, 3) := by decide +kernel
theorem dX7_advance_26 : decode cX7_advance 26 = .ok (.aload_n 0, 1) := by decide +kernel
theorem dX7_advance_27 : decode cX7_advance 27 = .ok (.getfield 9, 3) := by decide +kernel
theorem dX7_advance_30 : decode cX7_advance 30 = .ok (.aload_n 0, 1) := by decide +kernel
theorem dX7_advance_31 : decode cX7_advance 31 = .ok (.getfield 58, 3) := by decide +kernel
theorem dX7_advance_34 : decode cX7_advance 34 = .ok (.iaload, 1) := by decide +kernel
theorem dX7_advance_35 : decode cX7_advance 35 = .ok (.bipush 32, 2) := by decide +kernel
theorem dX7_advance_37 : decode cX7_advance 37 = .ok (.if_icmp .ne 16, 3) := by decide +kernel
theorem dX7_advance_40 : decode cX7_advance 40 = .ok (.aload_n 0, 1) := by decide +kernel
theorem dX7_advance_41 : decode cX7_advance 41 = .ok (.dup, 1) := by decide +kernel
theorem dX7_advance_42 : decode cX7_advance 42 = .ok (.getfield 58, 3) := by decide +kernel
theorem dX7_advance_45 : decode cX7_advance 45 = .ok (.iconst 1, 1) := by decide +kernel
theorem dX7_advance_46 : decode cX7_advance 46 = .ok (.iadd, 1) := by decide +kernel
theorem dX7_advance_47 : decode cX7_advance 47 = .ok (.putfield 58, 3) := by decide +kernel
theorem dX7_advance_50 : decode cX7_advance 50 = .ok (.goto (-42), 3) := by decide +kernel
theorem dX7_advance_53 : decode cX7_advance 53 = .ok (.aload_n 0, 1) := by decide +kernel
theorem dX7_advance_54 : decode cX7_advance 54 = .ok (.aload_n 0, 1) := by decide +kernel
theorem dX7_advance_55 : decode cX7_advance 55 = .ok (.getfield 58, 3) := by decide +kernel
theorem dX7_advance_58 : decode cX7_advance 58 = .ok (.putfield 45, 3) := by decide +kernel
theorem dX7_advance_61 : decode cX7_advance 61 = .ok (.aload_n 0, 1) := by decide +kernel
theorem dX7_advance_62 : decode cX7_advance 62 = .ok (.iconst 0, 1) := by decide +kernel
theorem dX7_advance_63 : decode cX7_advance 63 = .ok (.putfield 119, 3) := by decide +kernel
theorem dX7_advance_66 : decode cX7_advance 66 = .ok (.aload_n 0, 1) := by decide +kernel
theorem dX7_advance_67 : decode cX7_advance 67 = .ok (.iconst 0, 1) := by decide +kernel
theorem dX7_advance_68 : decode cX7_advance 68 = .ok (.putfield 64, 3) := by decide +kernel
theorem dX7_advance_71 : decode cX7_advance 71 = .ok (.aload_n 0, 1) := by decide +kernel
theorem dX7_advance_72 : decode cX7_advance 72 = .ok (.getfield 45, 3) := by decide +kernel
theorem dX7_advance_75 : decode cX7_advance 75 = .ok (.ifCond .lt 124, 3) := by decide +kernel
theorem dX7_advance_78 : decode cX7_advance 78 = .ok (.aload_n 0, 1) := by decide +kernel
theorem dX7_advance_79 : decode cX7_advance 79 = .ok (.getfield 45, 3) := by decide +kernel
theorem dX7_advance_82 : decode cX7_advance 82 = .ok (.aload_n 0, 1) := by decide +kernel
theorem dX7_advance_83 : decode cX7_advance 83 = .ok (.getfield 35, 3) := by decide +kernel
theorem dX7_advance_86 : decode cX7_advance 86 = .ok (.if_icmp .ge 113, 3) := by decide +kernel
theorem dX7_advance_89 : decode cX7_advance 89 = .ok (.aload_n 0, 1) := by decide +kernel
theorem dX7_advance_90 : decode cX7_advance 90 = .ok (.getfield 9, 3) := by decide +kernel
theorem dX7_advance_93 : decode cX7_advance 93 = .ok (.aload_n 0, 1) := by decide +kernel
theorem dX7_advance_94 : decode cX7_advance 94 = .ok (.getfield 45, 3) := by decide +kernel
theorem dX7_advance_97 : decode cX7_advance 97 = .ok (.iaload, 1) := by decide +kernel
theorem dX7_advance_98 : decode cX7_advance 98 = .ok (.istore_n 1, 1) := by decide +kernel
theorem dX7_advance_99 : decode cX7_advance 99 = .ok (.iload_n 1, 1) := by decide +kernel
theorem dX7_advance_100 : decode cX7_advance 100 = .ok (.bipush 97, 2) := by decide +kernel
theorem dX7_advance_102 : decode cX7_advance 102 = .ok (.if_icmp .lt 13, 3) := by decide +kernel
theorem dX7_advance_105 : decode cX7_advance 105 = .ok (.iload_n 1, 1) := by decide +kernel
theorem dX7_advance_106 : decode cX7_advance 106 = .ok (.bipush 122, 2) := by decide +kernel
theorem dX7_advance_108 : decode cX7_advance 108 = .ok (.if_icmp .gt 7, 3) := by decide +kernel
theorem dX7_advance_111 : decode cX7_advance 111 = .ok (.iconst 1, 1) := by decide +kernel
theorem dX7_advance_112 : decode cX7_advance 112 = .ok (.goto 20, 3) := by decide +kernel
theorem dX7_advance_115 : decode cX7_advance 115 = .ok (.iload_n 1, 1) := by decide +kernel
theorem dX7_advance_116 : decode cX7_advance 116 = .ok (.bipush 48, 2) := by decide +kernel
theorem dX7_advance_118 : decode cX7_advance 118 = .ok (.if_icmp .lt 13, 3) := by decide +kernel
theorem dX7_advance_121 : decode cX7_advance 121 = .ok (.iload_n 1, 1) := by decide +kernel
theorem dX7_advance_122 : decode cX7_advance 122 = .ok (.bipush 57, 2) := by decide +kernel
theorem dX7_advance_124 : decode cX7_advance 124 = .ok (.if_icmp .gt 7, 3) := by decide +kernel
theorem dX7_advance_127 : decode cX7_advance 127 = .ok (.iconst 2, 1) := by decide +kernel
theorem dX7_advance_128 : decode cX7_advance 128 = .ok (.goto 4, 3) := by decide +kernel
theorem dX7_advance_131 : decode cX7_advance 131 = .ok (.iconst 3, 1) := by decide +kernel
theorem dX7_advance_132 : decode cX7_advance 132 = .ok (.istore_n 2, 1) := by decide +kernel
theorem dX7_advance_133 : decode cX7_advance 133 = .ok (.aload_n 0, 1) := by decide +kernel
theorem dX7_advance_134 : decode cX7_advance 134 = .ok (.getfield 64, 3) := by decide +kernel
theorem dX7_advance_137 : decode cX7_advance 137 = .ok (.ifCond .eq 17, 3) := by decide +kernel
theorem dX7_advance_140 : decode cX7_advance 140 = .ok (.iload_n 2, 1) := by decide +kernel
theorem dX7_advance_141 : decode cX7_advance 141 = .ok (.aload_n 0, 1) := by decide +kernel
theorem dX7_advance_142 : decode cX7_advance 142 = .ok (.getfield 64, 3) := by decide +kernel
theorem dX7_advance_145 : decode cX7_advance 145 = .ok (.if_icmp .ne 8, 3) := by decide +kernel
theorem dX7_advance_148 : decode cX7_advance 148 = .ok (.iload_n 2, 1) := by decide +kernel
theorem dX7_advance_149 : decode cX7_advance 149 = .ok (.iconst 3, 1) := by decide +kernel
theorem dX7_advance_150 : decode cX7_advance 150 = .ok (.if_icmp .ne 4, 3) := by decide +kernel
theorem dX7_advance_153 : decode cX7_advance 153 = .ok (.return_, 1) := by decide +kernel
theorem dX7_advance_154 : decode cX7_advance 154 = .ok (.aload_n 0, 1) := by decide +kernel
theorem dX7_advance_155 : decode cX7_advance 155 = .ok (.iload_n 2, 1) := by decide +kernel
theorem dX7_advance_156 : decode cX7_advance 156 = .ok (.putfield 64, 3) := by decide +kernel
theorem dX7_advance_159 : decode cX7_advance 159 = .ok (.iload_n 2, 1) := by decide +kernel
theorem dX7_advance_160 : decode cX7_advance 160 = .ok (.iconst 2, 1) := by decide +kernel
theorem dX7_advance_161 : decode cX7_advance 161 = .ok (.if_icmp .ne 25, 3) := by decide +kernel
theorem dX7_advance_164 : decode cX7_advance 164 = .ok (.aload_n 0, 1) := by decide +kernel
theorem dX7_advance_165 : decode cX7_advance 165 = .ok (.sipush 1001, 3) := by decide +kernel
theorem dX7_advance_168 : decode cX7_advance 168 = .ok (.aload_n 0, 1) := by decide +kernel
theorem dX7_advance_169 : decode cX7_advance 169 = .ok (.getfield 119, 3) := by decide +kernel
theorem dX7_advance_172 : decode cX7_advance 172 = .ok (.bipush 10, 2) := by decide +kernel
theorem dX7_advance_174 : decode cX7_advance 174 = .ok (.imul, 1) := by decide +kernel
theorem dX7_advance_175 : decode cX7_advance 175 = .ok (.iload_n 1, 1) := by decide +kernel
theorem dX7_advance_176 : decode cX7_advance 176 = .ok (.iadd, 1) := by decide +kernel
theorem dX7_advance_177 : decode cX7_advance 177 = .ok (.bipush 48, 2) := by decide +kernel
theorem dX7_advance_179 : decode cX7_advance 179 = .ok (.isub, 1) := by decide +kernel
theorem dX7_advance_180 : decode cX7_advance 180 = .ok (.invokestatic 29, 3) := by decide +kernel
theorem dX7_advance_183 : decode cX7_advance 183 = .ok (.putfield 119, 3) := by decide +kernel
theorem dX7_advance_186 : decode cX7_advance 186 = .ok (.aload_n 0, 1) := by decide +kernel
theorem dX7_advance_187 : decode cX7_advance 187 = .ok (.dup, 1) := by decide +kernel
theorem dX7_advance_188 : decode cX7_advance 188 = .ok (.getfield 45, 3) := by decide +kernel
theorem dX7_advance_191 : decode cX7_advance 191 = .ok (.iconst 1, 1) := by decide +kernel
theorem dX7_advance_192 : decode cX7_advance 192 = .ok (.iadd, 1) := by decide +kernel
theorem dX7_advance_193 : decode cX7_advance 193 = .ok (.putfield 45, 3) := by decide +kernel
theorem dX7_advance_196 : decode cX7_advance 196 = .ok (.goto (-125), 3) := by decide +kernel
theorem dX7_advance_199 : decode cX7_advance 199 = .ok (.return_, 1) := by decide +kernel
set_option maxRecDepth 20000 in
theorem rX7_advance_0 {E : EN} (hE : Ep E) {k : Nat} {mem : Mm} {Q : Mm → Prop}
    (h : VM E mX7_advance (k + 1) (aUp mem 591 7 (mem 591 8)) 8 [(0, aR 591)] [] (retV Q)) :
    VM E mX7_advance (k + 1) mem 0 [(0, aR 591)] [] (retV Q) := by
  refine v_aload_n (pc := 0) dX7_advance_0 0 rfl ?_
  refine v_aload_n (pc := 1) dX7_advance_1 0 rfl ?_
  refine m_getf (pc := 2) (t := 0) (v := (mem 591 8)) dX7_advance_2 flX7_45 rfl at591 rfl ?_
  refine v_putf (pc := 5) dX7_advance_5 flX7_58 ⟨_, _, rfl, Or.inl rfl⟩ rfl (by decide) (fun q => nomatch q) (Or.inl fun _ => rfl) at591 ?_
  exact VG_sub (al' := [(0, aR 591)]) [0] rfl h
theorem eX7_advance {E : EN} {k : Nat} {mem : Mm} {Q : Mm → Prop}  (h : VM E mX7_advance (k + 1) mem 0 [(0, aR 591)] [] (retV Q)) : CV E mX7_advance (k + 1) mem [aR 591] Q := CV_of rfl (Nat.le_of_ble_eq_true rfl) h (aNs_c (aNr_R _) (fun _ q => nomatch q))
set_option maxRecDepth 20000 in
theorem rX7_advance_8 {E : EN} (hE : Ep E) {k : Nat} {mem : Mm} {Q : Mm → Prop}
    (h : (((mem 591 7) < 0 → VM E mX7_advance (k + 1) mem 53 [(0, aR 591)] [] (retV Q)) ∧ (0 ≤ (mem 591 7) → (((mem 591 3) ≤ (mem 591 7) → VM E mX7_advance (k + 1) mem 53 [(0, aR 591)] [] (retV Q)) ∧ ((mem 591 7) < (mem 591 3) → (0 ≤ (mem 591 7) ∧ (mem 591 7) < 400) ∧ ((¬ (mem 592 (mem 591 7)) = 32 → VM E mX7_advance (k + 1) mem 53 [(0, aR 591)] [] (retV Q)) ∧ ((mem 592 (mem 591 7)) = 32 → (R32 ((mem 591 7) + 1)) ∧ VM E mX7_advance (k + 1) (aUp mem 591 7 ((mem 591 7) + 1)) 8 [(0, aR 591)] [] (retV Q)))))))) :
    VM E mX7_advance (k + 1) mem 8 [(0, aR 591)] [] (retV Q) := by
  refine v_aload_n (pc := 8) dX7_advance_8 0 rfl ?_
  refine m_getf (pc := 9) (t := 0) (v := (mem 591 7)) dX7_advance_9 flX7_58 rfl at591 rfl ?_
  refine v_iflt (pc := 12) (tgt := 53) dX7_advance_12 (by decide) (fun c1 => ?_) (fun c1 => ?_)
  · have h := h.1 c1
    exact VG_sub (al' := [(0, aR 591)]) [0] rfl h
  · have h := h.2 c1
    refine v_aload_n (pc := 15) dX7_advance_15 0 rfl ?_
    refine m_getf (pc := 16) (t := 0) (v := (mem 591 7)) dX7_advance_16 flX7_58 rfl at591 rfl ?_
    refine v_aload_n (pc := 19) dX7_advance_19 0 rfl ?_
    refine m_getf (pc := 20) (t := 0) (v := (mem 591 3)) dX7_advance_20 flX7_35 rfl at591 rfl ?_
    refine v_icmpge (pc := 23) (tgt := 53) dX7_advance_23 (by decide) (fun c1 => ?_) (fun c1 => ?_)
    · have h := h.1 c1
      exact VG_sub (al' := [(0, aR 591)]) [0] rfl h
    · have h := h.2 c1
      refine v_aload_n (pc := 26) dX7_advance_26 0 rfl ?_
      refine m_getfin (pc := 27) (v := 592) hE dX7_advance_27 flX7_9 rfl at591 rfl ?_
      refine v_aload_n (pc := 30) dX7_advance_30 0 rfl ?_
      refine m_getf (pc := 31) (t := 0) (v := (mem 591 7)) dX7_advance_31 flX7_58 rfl at591 rfl ?_
      obtain ⟨o1, h⟩ := h
      refine m_iald (pc := 34) (v := (mem 592 (mem 591 7))) dX7_advance_34 at592 o1.1 o1.2 rfl ?_
      refine v_bipush (pc := 35) dX7_advance_35 (by decide) ?_
      refine v_icmpne (pc := 37) (tgt := 53) dX7_advance_37 (by decide) (fun c1 => ?_) (fun c1 => ?_)
      · have h := h.1 c1
        exact VG_sub (al' := [(0, aR 591)]) [0] rfl h
      · have h := h.2 c1
        refine v_aload_n (pc := 40) dX7_advance_40 0 rfl ?_
        refine v_dup (pc := 41) dX7_advance_41 rfl ?_
        refine m_getf (pc := 42) (t := 0) (v := (mem 591 7)) dX7_advance_42 flX7_58 rfl at591 rfl ?_
        refine v_iconst (pc := 45) dX7_advance_45 (by decide) ?_
        obtain ⟨o2, h⟩ := h
        refine m_iadd (pc := 46) dX7_advance_46 o2 ?_
        refine v_putf (pc := 47) dX7_advance_47 flX7_58 ⟨_, _, rfl, Or.inl rfl⟩ rfl (by decide) (fun q => nomatch q) (Or.inl fun _ => rfl) at591 ?_
        refine v_goto (pc := 50) (tgt := 8) dX7_advance_50 (by decide) ?_
        exact VG_sub (al' := [(0, aR 591)]) [0] rfl h
set_option maxRecDepth 20000 in
theorem rX7_advance_53 {E : EN} (hE : Ep E) {k : Nat} {mem : Mm} {Q : Mm → Prop}
    (h : VM E mX7_advance (k + 1) (aUp (aUp (aUp mem 591 8 (mem 591 7)) 591 10 0) 591 9 0) 71 [(0, aR 591)] [] (retV Q)) :
    VM E mX7_advance (k + 1) mem 53 [(0, aR 591)] [] (retV Q) := by
  refine v_aload_n (pc := 53) dX7_advance_53 0 rfl ?_
  refine v_aload_n (pc := 54) dX7_advance_54 0 rfl ?_
  refine m_getf (pc := 55) (t := 0) (v := (mem 591 7)) dX7_advance_55 flX7_58 rfl at591 rfl ?_
  refine v_putf (pc := 58) dX7_advance_58 flX7_45 ⟨_, _, rfl, Or.inl rfl⟩ rfl (by decide) (fun q => nomatch q) (Or.inl fun _ => rfl) at591 ?_
  refine v_aload_n (pc := 61) dX7_advance_61 0 rfl ?_
  refine v_iconst (pc := 62) dX7_advance_62 (by decide) ?_
  refine v_putf (pc := 63) dX7_advance_63 flX7_119 ⟨_, _, rfl, Or.inl rfl⟩ rfl (by decide) (fun q => nomatch q) (Or.inl fun _ => rfl) at591 ?_
  refine v_aload_n (pc := 66) dX7_advance_66 0 rfl ?_
  refine v_iconst (pc := 67) dX7_advance_67 (by decide) ?_
  refine v_putf (pc := 68) dX7_advance_68 flX7_64 ⟨_, _, rfl, Or.inl rfl⟩ rfl (by decide) (fun q => nomatch q) (Or.inl fun _ => rfl) at591 ?_
  exact VG_sub (al' := [(0, aR 591)]) [0] rfl h
set_option maxRecDepth 20000 in
theorem rX7_advance_71 {E : EN} (hE : Ep E) {k : Nat} {mem : Mm} {Q : Mm → Prop}
    (h : (((mem 591 8) < 0 → VM E mX7_advance (k + 1) mem 199 [] [] (retV Q)) ∧ (0 ≤ (mem 591 8) → (((mem 591 3) ≤ (mem 591 8) → VM E mX7_advance (k + 1) mem 199 [] [] (retV Q)) ∧ ((mem 591 8) < (mem 591 3) → (0 ≤ (mem 591 8) ∧ (mem 591 8) < 400) ∧ (((mem 592 (mem 591 8)) < 97 → VM E mX7_advance (k + 1) mem 115 [(0, aR 591), (1, aI (mem 592 (mem 591 8)))] [] (retV Q)) ∧ (97 ≤ (mem 592 (mem 591 8)) → ((122 < (mem 592 (mem 591 8)) → VM E mX7_advance (k + 1) mem 115 [(0, aR 591), (1, aI (mem 592 (mem 591 8)))] [] (retV Q)) ∧ ((mem 592 (mem 591 8)) ≤ 122 → (((mem 591 9) = 0 → VM E mX7_advance (k + 1) mem 154 [(0, aR 591), (1, aI (mem 592 (mem 591 8))), (2, aI 1)] [] (retV Q)) ∧ (¬ (mem 591 9) = 0 → ((¬ 1 = (mem 591 9) → VM E mX7_advance (k + 1) mem 153 [] [] (retV Q)) ∧ (1 = (mem 591 9) → VM E mX7_advance (k + 1) mem 154 [(0, aR 591), (1, aI (mem 592 (mem 591 8))), (2, aI 1)] [] (retV Q)))))))))))))) :
    VM E mX7_advance (k + 1) mem 71 [(0, aR 591)] [] (retV Q) := by
  refine v_aload_n (pc := 71) dX7_advance_71 0 rfl ?_
  refine m_getf (pc := 72) (t := 0) (v := (mem 591 8)) dX7_advance_72 flX7_45 rfl at591 rfl ?_
  refine v_iflt (pc := 75) (tgt := 199) dX7_advance_75 (by decide) (fun c1 => ?_) (fun c1 => ?_)
  · have h := h.1 c1
    exact VG_sub (al' := []) [] rfl h
  · have h := h.2 c1
    refine v_aload_n (pc := 78) dX7_advance_78 0 rfl ?_
    refine m_getf (pc := 79) (t := 0) (v := (mem 591 8)) dX7_advance_79 flX7_45 rfl at591 rfl ?_
    refine v_aload_n (pc := 82) dX7_advance_82 0 rfl ?_
    refine m_getf (pc := 83) (t := 0) (v := (mem 591 3)) dX7_advance_83 flX7_35 rfl at591 rfl ?_
    refine v_icmpge (pc := 86) (tgt := 199) dX7_advance_86 (by decide) (fun c1 => ?_) (fun c1 => ?_)
    · have h := h.1 c1
      exact VG_sub (al' := []) [] rfl h
    · have h := h.2 c1
      refine v_aload_n (pc := 89) dX7_advance_89 0 rfl ?_
      refine m_getfin (pc := 90) (v := 592) hE dX7_advance_90 flX7_9 rfl at591 rfl ?_
      refine v_aload_n (pc := 93) dX7_advance_93 0 rfl ?_
      refine m_getf (pc := 94) (t := 0) (v := (mem 591 8)) dX7_advance_94 flX7_45 rfl at591 rfl ?_
      obtain ⟨o1, h⟩ := h
      refine m_iald (pc := 97) (v := (mem 592 (mem 591 8))) dX7_advance_97 at592 o1.1 o1.2 rfl ?_
      refine v_istore_n (pc := 98) (al2 := [(1, aI (mem 592 (mem 591 8))), (0, aR 591)]) dX7_advance_98 (by decide) rfl ?_
      refine v_iload_n (pc := 99) dX7_advance_99 0 rfl ?_
      refine v_bipush (pc := 100) dX7_advance_100 (by decide) ?_
      refine v_icmplt (pc := 102) (tgt := 115) dX7_advance_102 (by decide) (fun c1 => ?_) (fun c1 => ?_)
      · have h := h.1 c1
        exact VG_sub (al' := [(0, aR 591), (1, aI (mem 592 (mem 591 8)))]) [1, 0] rfl h
      · have h := h.2 c1
        refine v_iload_n (pc := 105) dX7_advance_105 0 rfl ?_
        refine v_bipush (pc := 106) dX7_advance_106 (by decide) ?_
        refine v_icmpgt (pc := 108) (tgt := 115) dX7_advance_108 (by decide) (fun c1 => ?_) (fun c1 => ?_)
        · have h := h.1 c1
          exact VG_sub (al' := [(0, aR 591), (1, aI (mem 592 (mem 591 8)))]) [1, 0] rfl h
        · have h := h.2 c1
          refine v_iconst (pc := 111) dX7_advance_111 (by decide) ?_
          refine v_goto (pc := 112) (tgt := 132) dX7_advance_112 (by decide) ?_
          refine v_istore_n (pc := 132) (al2 := [(2, aI 1), (1, aI (mem 592 (mem 591 8))), (0, aR 591)]) dX7_advance_132 (by decide) rfl ?_
          refine v_aload_n (pc := 133) dX7_advance_133 2 rfl ?_
          refine m_getf (pc := 134) (t := 0) (v := (mem 591 9)) dX7_advance_134 flX7_64 rfl at591 rfl ?_
          refine v_ifeq (pc := 137) (tgt := 154) dX7_advance_137 (by decide) (fun c1 => ?_) (fun c1 => ?_)
          · have h := h.1 c1
            exact VG_sub (al' := [(0, aR 591), (1, aI (mem 592 (mem 591 8))), (2, aI 1)]) [2, 1, 0] rfl h
          · have h := h.2 c1
            refine v_iload_n (pc := 140) dX7_advance_140 0 rfl ?_
            refine v_aload_n (pc := 141) dX7_advance_141 2 rfl ?_
            refine m_getf (pc := 142) (t := 0) (v := (mem 591 9)) dX7_advance_142 flX7_64 rfl at591 rfl ?_
            refine v_icmpne (pc := 145) (tgt := 153) dX7_advance_145 (by decide) (fun c1 => ?_) (fun c1 => ?_)
            · have h := h.1 c1
              exact VG_sub (al' := []) [] rfl h
            · have h := h.2 c1
              refine v_iload_n (pc := 148) dX7_advance_148 0 rfl ?_
              refine v_iconst (pc := 149) dX7_advance_149 (by decide) ?_
              refine v_icmpne (pc := 150) (tgt := 154) dX7_advance_150 (by decide) (fun c1 => ?_) (fun c1 => absurd c1 (by decide))
              exact VG_sub (al' := [(0, aR 591), (1, aI (mem 592 (mem 591 8))), (2, aI 1)]) [2, 1, 0] rfl h
set_option maxRecDepth 20000 in
theorem rX7_advance_199 {E : EN} (hE : Ep E) {k : Nat} {mem : Mm} {Q : Mm → Prop}
    (h : Q mem) :
    VM E mX7_advance (k + 1) mem 199 [] [] (retV Q) := by
  exact m_retV (pc := 199) dX7_advance_199 rfl h
set_option maxRecDepth 20000 in
theorem rX7_advance_115 {E : EN} (hE : Ep E) {k : Nat} {mem : Mm} {Q : Mm → Prop} {x1 : Int}
    (h : ((x1 < 48 → VM E mX7_advance (k + 1) mem 131 [(0, aR 591), (1, aI x1)] [] (retV Q)) ∧ (48 ≤ x1 → ((57 < x1 → VM E mX7_advance (k + 1) mem 131 [(0, aR 591), (1, aI x1)] [] (retV Q)) ∧ (x1 ≤ 57 → (((mem 591 9) = 0 → VM E mX7_advance (k + 1) mem 154 [(0, aR 591), (1, aI x1), (2, aI 2)] [] (retV Q)) ∧ (¬ (mem 591 9) = 0 → ((¬ 2 = (mem 591 9) → VM E mX7_advance (k + 1) mem 153 [] [] (retV Q)) ∧ (2 = (mem 591 9) → VM E mX7_advance (k + 1) mem 154 [(0, aR 591), (1, aI x1), (2, aI 2)] [] (retV Q)))))))))) :
    VM E mX7_advance (k + 1) mem 115 [(0, aR 591), (1, aI x1)] [] (retV Q) := by
  refine v_iload_n (pc := 115) dX7_advance_115 1 rfl ?_
  refine v_bipush (pc := 116) dX7_advance_116 (by decide) ?_
  refine v_icmplt (pc := 118) (tgt := 131) dX7_advance_118 (by decide) (fun c1 => ?_) (fun c1 => ?_)
  · have h := h.1 c1
    exact VG_sub (al' := [(0, aR 591), (1, aI x1)]) [0, 1] rfl h
  · have h := h.2 c1
    refine v_iload_n (pc := 121) dX7_advance_121 1 rfl ?_
    refine v_bipush (pc := 122) dX7_advance_122 (by decide) ?_
    refine v_icmpgt (pc := 124) (tgt := 131) dX7_advance_124 (by decide) (fun c1 => ?_) (fun c1 => ?_)
    · have h := h.1 c1
      exact VG_sub (al' := [(0, aR 591), (1, aI x1)]) [0, 1] rfl h
    · have h := h.2 c1
      refine v_iconst (pc := 127) dX7_advance_127 (by decide) ?_
      refine v_goto (pc := 128) (tgt := 132) dX7_advance_128 (by decide) ?_
      refine v_istore_n (pc := 132) (al2 := [(2, aI 2), (0, aR 591), (1, aI x1)]) dX7_advance_132 (by decide) rfl ?_
      refine v_aload_n (pc := 133) dX7_advance_133 1 rfl ?_
      refine m_getf (pc := 134) (t := 0) (v := (mem 591 9)) dX7_advance_134 flX7_64 rfl at591 rfl ?_
      refine v_ifeq (pc := 137) (tgt := 154) dX7_advance_137 (by decide) (fun c1 => ?_) (fun c1 => ?_)
      · have h := h.1 c1
        exact VG_sub (al' := [(0, aR 591), (1, aI x1), (2, aI 2)]) [1, 2, 0] rfl h
      · have h := h.2 c1
        refine v_iload_n (pc := 140) dX7_advance_140 0 rfl ?_
        refine v_aload_n (pc := 141) dX7_advance_141 1 rfl ?_
        refine m_getf (pc := 142) (t := 0) (v := (mem 591 9)) dX7_advance_142 flX7_64 rfl at591 rfl ?_
        refine v_icmpne (pc := 145) (tgt := 153) dX7_advance_145 (by decide) (fun c1 => ?_) (fun c1 => ?_)
        · have h := h.1 c1
          exact VG_sub (al' := []) [] rfl h
        · have h := h.2 c1
          refine v_iload_n (pc := 148) dX7_advance_148 0 rfl ?_
          refine v_iconst (pc := 149) dX7_advance_149 (by decide) ?_
          refine v_icmpne (pc := 150) (tgt := 154) dX7_advance_150 (by decide) (fun c1 => ?_) (fun c1 => absurd c1 (by decide))
          exact VG_sub (al' := [(0, aR 591), (1, aI x1), (2, aI 2)]) [1, 2, 0] rfl h
set_option maxRecDepth 20000 in
theorem rX7_advance_154 {E : EN} (hE : Ep E) {k : Nat} {mem : Mm} {Q : Mm → Prop} {x1 x2 : Int}
    (h : ((¬ x2 = 2 → VM E mX7_advance (k + 1) (aUp mem 591 9 x2) 186 [(0, aR 591)] [] (retV Q)) ∧ (x2 = 2 → (R32 ((mem 591 10) * 10)) ∧ (R32 (((mem 591 10) * 10) + x1)) ∧ (R32 ((((mem 591 10) * 10) + x1) - 48)) ∧ VM E mX7_advance (k + 1) (aUp (aUp mem 591 9 x2) 591 10 (min 1001 ((((mem 591 10) * 10) + x1) - 48))) 186 [(0, aR 591)] [] (retV Q)))) :
    VM E mX7_advance (k + 1) mem 154 [(0, aR 591), (1, aI x1), (2, aI x2)] [] (retV Q) := by
  refine v_aload_n (pc := 154) dX7_advance_154 0 rfl ?_
  refine v_iload_n (pc := 155) dX7_advance_155 2 rfl ?_
  refine v_putf (pc := 156) dX7_advance_156 flX7_64 ⟨_, _, rfl, Or.inl rfl⟩ rfl (by decide) (fun q => nomatch q) (Or.inl fun _ => rfl) at591 ?_
  refine v_iload_n (pc := 159) dX7_advance_159 2 rfl ?_
  refine v_iconst (pc := 160) dX7_advance_160 (by decide) ?_
  refine v_icmpne (pc := 161) (tgt := 186) dX7_advance_161 (by decide) (fun c1 => ?_) (fun c1 => ?_)
  · have h := h.1 c1
    exact VG_sub (al' := [(0, aR 591)]) [0] rfl h
  · have h := h.2 c1
    refine v_aload_n (pc := 164) dX7_advance_164 0 rfl ?_
    refine v_sipush (pc := 165) dX7_advance_165 (by decide) ?_
    refine v_aload_n (pc := 168) dX7_advance_168 0 rfl ?_
    refine m_getf (pc := 169) (t := 0) (v := (mem 591 10)) dX7_advance_169 flX7_119 rfl at591 (aUp_ri (by decide)) ?_
    refine v_bipush (pc := 172) dX7_advance_172 (by decide) ?_
    obtain ⟨o1, h⟩ := h
    refine m_imul (pc := 174) dX7_advance_174 o1 ?_
    refine v_iload_n (pc := 175) dX7_advance_175 1 rfl ?_
    obtain ⟨o2, h⟩ := h
    refine m_iadd (pc := 176) dX7_advance_176 o2 ?_
    refine v_bipush (pc := 177) dX7_advance_177 (by decide) ?_
    obtain ⟨o3, h⟩ := h
    refine m_isub (pc := 179) dX7_advance_179 o3 ?_
    refine m_mmin (pc := 180) dX7_advance_180 lmX7_29 sM_min iM cM_min (Nat.le_of_ble_eq_true rfl) ?_
    refine v_putf (pc := 183) dX7_advance_183 flX7_119 ⟨_, _, rfl, Or.inl rfl⟩ rfl (by decide) (fun q => nomatch q) (Or.inl fun _ => rfl) at591 ?_
    exact VG_sub (al' := [(0, aR 591)]) [0] rfl h
set_option maxRecDepth 20000 in
theorem rX7_advance_153 {E : EN} (hE : Ep E) {k : Nat} {mem : Mm} {Q : Mm → Prop}
    (h : Q mem) :
    VM E mX7_advance (k + 1) mem 153 [] [] (retV Q) := by
  exact m_retV (pc := 153) dX7_advance_153 rfl h
set_option maxRecDepth 20000 in
theorem rX7_advance_131 {E : EN} (hE : Ep E) {k : Nat} {mem : Mm} {Q : Mm → Prop} {x1 : Int}
    (h : (((mem 591 9) = 0 → VM E mX7_advance (k + 1) mem 154 [(0, aR 591), (1, aI x1), (2, aI 3)] [] (retV Q)) ∧ (¬ (mem 591 9) = 0 → ((¬ 3 = (mem 591 9) → VM E mX7_advance (k + 1) mem 153 [] [] (retV Q)) ∧ (3 = (mem 591 9) → VM E mX7_advance (k + 1) mem 153 [] [] (retV Q)))))) :
    VM E mX7_advance (k + 1) mem 131 [(0, aR 591), (1, aI x1)] [] (retV Q) := by
  refine v_iconst (pc := 131) dX7_advance_131 (by decide) ?_
  refine v_istore_n (pc := 132) (al2 := [(2, aI 3), (0, aR 591), (1, aI x1)]) dX7_advance_132 (by decide) rfl ?_
  refine v_aload_n (pc := 133) dX7_advance_133 1 rfl ?_
  refine m_getf (pc := 134) (t := 0) (v := (mem 591 9)) dX7_advance_134 flX7_64 rfl at591 rfl ?_
  refine v_ifeq (pc := 137) (tgt := 154) dX7_advance_137 (by decide) (fun c1 => ?_) (fun c1 => ?_)
  · have h := h.1 c1
    exact VG_sub (al' := [(0, aR 591), (1, aI x1), (2, aI 3)]) [1, 2, 0] rfl h
  · have h := h.2 c1
    refine v_iload_n (pc := 140) dX7_advance_140 0 rfl ?_
    refine v_aload_n (pc := 141) dX7_advance_141 1 rfl ?_
    refine m_getf (pc := 142) (t := 0) (v := (mem 591 9)) dX7_advance_142 flX7_64 rfl at591 rfl ?_
    refine v_icmpne (pc := 145) (tgt := 153) dX7_advance_145 (by decide) (fun c1 => ?_) (fun c1 => ?_)
    · have h := h.1 c1
      exact VG_sub (al' := []) [] rfl h
    · have h := h.2 c1
      refine v_iload_n (pc := 148) dX7_advance_148 0 rfl ?_
      refine v_iconst (pc := 149) dX7_advance_149 (by decide) ?_
      refine v_icmpne (pc := 150) (tgt := 154) dX7_advance_150 (by decide) (fun c1 => absurd c1 (by decide)) (fun c1 => ?_)
      exact VG_sub (al' := []) [] rfl h
set_option maxRecDepth 20000 in
theorem rX7_advance_186 {E : EN} (hE : Ep E) {k : Nat} {mem : Mm} {Q : Mm → Prop}
    (h : (R32 ((mem 591 8) + 1)) ∧ VM E mX7_advance (k + 1) (aUp mem 591 8 ((mem 591 8) + 1)) 71 [(0, aR 591)] [] (retV Q)) :
    VM E mX7_advance (k + 1) mem 186 [(0, aR 591)] [] (retV Q) := by
  refine v_aload_n (pc := 186) dX7_advance_186 0 rfl ?_
  refine v_dup (pc := 187) dX7_advance_187 rfl ?_
  refine m_getf (pc := 188) (t := 0) (v := (mem 591 8)) dX7_advance_188 flX7_45 rfl at591 rfl ?_
  refine v_iconst (pc := 191) dX7_advance_191 (by decide) ?_
  obtain ⟨o1, h⟩ := h
  refine m_iadd (pc := 192) dX7_advance_192 o1 ?_
  refine v_putf (pc := 193) dX7_advance_193 flX7_45 ⟨_, _, rfl, Or.inl rfl⟩ rfl (by decide) (fun q => nomatch q) (Or.inl fun _ => rfl) at591 ?_
  refine v_goto (pc := 196) (tgt := 71) dX7_advance_196 (by decide) ?_
  exact VG_sub (al' := [(0, aR 591)]) [0] rfl h

theorem dX7_isSign_0 : decode cX7_isSign 0 = .ok (.aload_n 0, 1) := by decide +kernel
theorem dX7_isSign_1 : decode cX7_isSign 1 = .ok (.getfield 64, 3) := by decide +kernel
theorem dX7_isSign_4 : decode cX7_isSign 4 = .ok (.iconst 3, 1) := by decide +kernel
theorem dX7_isSign_5 : decode cX7_isSign 5 = .ok (.if_icmp .ne 38, 3) := by decide +kernel
theorem dX7_isSign_8 : decode cX7_isSign 8 = .ok (.aload_n 0, 1) := by decide +kernel
theorem dX7_isSign_9 : decode cX7_isSign 9 = .ok (.getfield 58, 3) := by decide +kernel
theorem dX7_isSign_12 : decode cX7_isSign 12 = .ok (.ifCond .lt 31, 3) := by decide +kernel
theorem dX7_isSign_15 : decode cX7_isSign 15 = .ok (.aload_n 0, 1) := by decide +kernel
theorem dX7_isSign_16 : decode cX7_isSign 16 = .ok (.getfield 58, 3) := by decide +kernel
theorem dX7_isSign_19 : decode cX7_isSign 19 = .ok (.aload_n 0, 1) := by decide +kernel
theorem dX7_isSign_20 : decode cX7_isSign 20 = .ok (.getfield 35, 3) := by decide +kernel
theorem dX7_isSign_23 : decode cX7_isSign 23 = .ok (.if_icmp .ge 20, 3) := by decide +kernel
theorem dX7_isSign_26 : decode cX7_isSign 26 = .ok (.aload_n 0, 1) := by decide +kernel
theorem dX7_isSign_27 : decode cX7_isSign 27 = .ok (.getfield 9, 3) := by decide +kernel
theorem dX7_isSign_30 : decode cX7_isSign 30 = .ok (.aload_n 0, 1) := by decide +kernel
theorem dX7_isSign_31 : decode cX7_isSign 31 = .ok (.getfield 58, 3) := by decide +kernel
theorem dX7_isSign_34 : decode cX7_isSign 34 = .ok (.iaload, 1) := by decide +kernel
theorem dX7_isSign_35 : decode cX7_isSign 35 = .ok (.iload_n 1, 1) := by decide +kernel
theorem dX7_isSign_36 : decode cX7_isSign 36 = .ok (.if_icmp .ne 7, 3) := by decide +kernel
theorem dX7_isSign_39 : decode cX7_isSign 39 = .ok (.iconst 1, 1) := by decide +kernel
theorem dX7_isSign_40 : decode cX7_isSign 40 = .ok (.goto 4, 3) := by decide +kernel
theorem dX7_isSign_43 : decode cX7_isSign 43 = .ok (.iconst 0, 1) := by decide +kernel
theorem dX7_isSign_44 : decode cX7_isSign 44 = .ok (.ireturn, 1) := by decide +kernel
set_option maxRecDepth 20000 in
theorem rX7_isSign_0 {E : EN} (hE : Ep E) {k : Nat} {mem : Mm} {Q : Int → Mm → Prop} {p0 : Int}
    (h : ((¬ (mem 591 9) = 3 → Q 0 mem) ∧ ((mem 591 9) = 3 → (((mem 591 7) < 0 → Q 0 mem) ∧ (0 ≤ (mem 591 7) → (((mem 591 3) ≤ (mem 591 7) → Q 0 mem) ∧ ((mem 591 7) < (mem 591 3) → (0 ≤ (mem 591 7) ∧ (mem 591 7) < 400) ∧ ((¬ (mem 592 (mem 591 7)) = p0 → Q 0 mem) ∧ ((mem 592 (mem 591 7)) = p0 → Q 1 mem))))))))) :
    VM E mX7_isSign k mem 0 [(0, aR 591), (1, aI p0)] [] (retI Q) := by
  refine v_aload_n (pc := 0) dX7_isSign_0 0 rfl ?_
  refine m_getf (pc := 1) (t := 0) (v := (mem 591 9)) dX7_isSign_1 flX7_64 rfl at591 rfl ?_
  refine v_iconst (pc := 4) dX7_isSign_4 (by decide) ?_
  refine v_icmpne (pc := 5) (tgt := 43) dX7_isSign_5 (by decide) (fun c1 => ?_) (fun c1 => ?_)
  · have h := h.1 c1
    refine v_iconst (pc := 43) dX7_isSign_43 (by decide) ?_
    exact m_retZ (pc := 44) dX7_isSign_44 rfl (by decide) h
  · have h := h.2 c1
    refine v_aload_n (pc := 8) dX7_isSign_8 0 rfl ?_
    refine m_getf (pc := 9) (t := 0) (v := (mem 591 7)) dX7_isSign_9 flX7_58 rfl at591 rfl ?_
    refine v_iflt (pc := 12) (tgt := 43) dX7_isSign_12 (by decide) (fun c1 => ?_) (fun c1 => ?_)
    · have h := h.1 c1
      refine v_iconst (pc := 43) dX7_isSign_43 (by decide) ?_
      exact m_retZ (pc := 44) dX7_isSign_44 rfl (by decide) h
    · have h := h.2 c1
      refine v_aload_n (pc := 15) dX7_isSign_15 0 rfl ?_
      refine m_getf (pc := 16) (t := 0) (v := (mem 591 7)) dX7_isSign_16 flX7_58 rfl at591 rfl ?_
      refine v_aload_n (pc := 19) dX7_isSign_19 0 rfl ?_
      refine m_getf (pc := 20) (t := 0) (v := (mem 591 3)) dX7_isSign_20 flX7_35 rfl at591 rfl ?_
      refine v_icmpge (pc := 23) (tgt := 43) dX7_isSign_23 (by decide) (fun c1 => ?_) (fun c1 => ?_)
      · have h := h.1 c1
        refine v_iconst (pc := 43) dX7_isSign_43 (by decide) ?_
        exact m_retZ (pc := 44) dX7_isSign_44 rfl (by decide) h
      · have h := h.2 c1
        refine v_aload_n (pc := 26) dX7_isSign_26 0 rfl ?_
        refine m_getfin (pc := 27) (v := 592) hE dX7_isSign_27 flX7_9 rfl at591 rfl ?_
        refine v_aload_n (pc := 30) dX7_isSign_30 0 rfl ?_
        refine m_getf (pc := 31) (t := 0) (v := (mem 591 7)) dX7_isSign_31 flX7_58 rfl at591 rfl ?_
        obtain ⟨o1, h⟩ := h
        refine m_iald (pc := 34) (v := (mem 592 (mem 591 7))) dX7_isSign_34 at592 o1.1 o1.2 rfl ?_
        refine v_iload_n (pc := 35) dX7_isSign_35 1 rfl ?_
        refine v_icmpne (pc := 36) (tgt := 43) dX7_isSign_36 (by decide) (fun c1 => ?_) (fun c1 => ?_)
        · have h := h.1 c1
          refine v_iconst (pc := 43) dX7_isSign_43 (by decide) ?_
          exact m_retZ (pc := 44) dX7_isSign_44 rfl (by decide) h
        · have h := h.2 c1
          refine v_iconst (pc := 39) dX7_isSign_39 (by decide) ?_
          refine v_goto (pc := 40) (tgt := 44) dX7_isSign_40 (by decide) ?_
          exact m_retZ (pc := 44) dX7_isSign_44 rfl (by decide) h
theorem eX7_isSign {E : EN} {k : Nat} {mem : Mm} {Q : Int → Mm → Prop} {p0 : Int} (hr_p0 : R32 p0) (h : VM E mX7_isSign k mem 0 [(0, aR 591), (1, aI p0)] [] (retI Q)) : CI E mX7_isSign k mem [aR 591, aI p0] Q := CI_of rfl (Nat.le_of_ble_eq_true rfl) h (aNs_c (aNr_R _) (aNs_c (aNr_I hr_p0) (fun _ q => nomatch q)))

theorem dX7_signIn_0 : decode cX7_signIn 0 = .ok (.aload_n 0, 1) := by decide +kernel
theorem dX7_signIn_1 : decode cX7_signIn 1 = .ok (.getfield 64, 3) := by decide +kernel
theorem dX7_signIn_4 : decode cX7_signIn 4 = .ok (.iconst 3, 1) := by decide +kernel
theorem dX7_signIn_5 : decode cX7_signIn 5 = .ok (.if_icmp .ne 38, 3) := by decide +kernel
theorem dX7_signIn_8 : decode cX7_signIn 8 = .ok (.aload_n 0, 1) := by decide +kernel
theorem dX7_signIn_9 : decode cX7_signIn 9 = .ok (.getfield 58, 3) := by decide +kernel
theorem dX7_signIn_12 : decode cX7_signIn 12 = .ok (.ifCond .lt 31, 3) := by decide +kernel
theorem dX7_signIn_15 : decode cX7_signIn 15 = .ok (.aload_n 0, 1) := by decide +kernel
theorem dX7_signIn_16 : decode cX7_signIn 16 = .ok (.getfield 58, 3) := by decide +kernel
theorem dX7_signIn_19 : decode cX7_signIn 19 = .ok (.aload_n 0, 1) := by decide +kernel
theorem dX7_signIn_20 : decode cX7_signIn 20 = .ok (.getfield 35, 3) := by decide +kernel
theorem dX7_signIn_23 : decode cX7_signIn 23 = .ok (.if_icmp .ge 20, 3) := by decide +kernel
theorem dX7_signIn_26 : decode cX7_signIn 26 = .ok (.aload_n 1, 1) := by decide +kernel
theorem dX7_signIn_27 : decode cX7_signIn 27 = .ok (.aload_n 0, 1) := by decide +kernel
theorem dX7_signIn_28 : decode cX7_signIn 28 = .ok (.getfield 9, 3) := by decide +kernel
theorem dX7_signIn_31 : decode cX7_signIn 31 = .ok (.aload_n 0, 1) := by decide +kernel
theorem dX7_signIn_32 : decode cX7_signIn 32 = .ok (.getfield 58, 3) := by decide +kernel
theorem dX7_signIn_35 : decode cX7_signIn 35 = .ok (.iaload, 1) := by decide +kernel
theorem dX7_signIn_36 : decode cX7_signIn 36 = .ok (.i2c, 1) := by decide +kernel
theorem dX7_signIn_37 : decode cX7_signIn 37 = .ok (.invokevirtual 159, 3) := by decide +kernel
theorem dX7_signIn_40 : decode cX7_signIn 40 = .ok (.ifCond .ge 5, 3) := by decide +kernel
theorem dX7_signIn_43 : decode cX7_signIn 43 = .ok (.iconst (-1), 1) := by decide +kernel
theorem dX7_signIn_44 : decode cX7_signIn 44 = .ok (.ireturn, 1) := by decide +kernel
theorem dX7_signIn_45 : decode cX7_signIn 45 = .ok (.aload_n 0, 1) := by decide +kernel
theorem dX7_signIn_46 : decode cX7_signIn 46 = .ok (.getfield 9, 3) := by decide +kernel
theorem dX7_signIn_49 : decode cX7_signIn 49 = .ok (.aload_n 0, 1) := by decide +kernel
theorem dX7_signIn_50 : decode cX7_signIn 50 = .ok (.getfield 58, 3) := by decide +kernel
theorem dX7_signIn_53 : decode cX7_signIn 53 = .ok (.iaload, 1) := by decide +kernel
theorem dX7_signIn_54 : decode cX7_signIn 54 = .ok (.ireturn, 1) := by decide +kernel
set_option maxRecDepth 20000 in
theorem rX7_signIn_0 {E : EN} (hE : Ep E) {k : Nat} {mem : Mm} {Q : Int → Mm → Prop} (hSt : aStr E) {p0 : Int} (hp0 : isSt E p0)
    (h : ((¬ (mem 591 9) = 3 → Q (-1) mem) ∧ ((mem 591 9) = 3 → (((mem 591 7) < 0 → Q (-1) mem) ∧ (0 ≤ (mem 591 7) → (((mem 591 3) ≤ (mem 591 7) → Q (-1) mem) ∧ ((mem 591 7) < (mem 591 3) → (0 ≤ (mem 591 7) ∧ (mem 591 7) < 400) ∧ (R32 (xI2c (mem 592 (mem 591 7))) → CI E mJ0_indexOf_0f7a4 k mem [aF p0, aI (xI2c (mem 592 (mem 591 7)))] (fun r3 m2 => ((0 ≤ r3 → (0 ≤ (m2 591 7) ∧ (m2 591 7) < 400) ∧ Q (m2 592 (m2 591 7)) m2) ∧ (r3 < 0 → Q (-1) m2))))))))))) :
    VM E mX7_signIn (k + 1) mem 0 [(0, aR 591), (1, aF p0)] [] (retI Q) := by
  refine v_aload_n (pc := 0) dX7_signIn_0 0 rfl ?_
  refine m_getf (pc := 1) (t := 0) (v := (mem 591 9)) dX7_signIn_1 flX7_64 rfl at591 rfl ?_
  refine v_iconst (pc := 4) dX7_signIn_4 (by decide) ?_
  refine v_icmpne (pc := 5) (tgt := 43) dX7_signIn_5 (by decide) (fun c1 => ?_) (fun c1 => ?_)
  · have h := h.1 c1
    refine v_iconst (pc := 43) dX7_signIn_43 (by decide) ?_
    exact m_retI (pc := 44) dX7_signIn_44 rfl h
  · have h := h.2 c1
    refine v_aload_n (pc := 8) dX7_signIn_8 0 rfl ?_
    refine m_getf (pc := 9) (t := 0) (v := (mem 591 7)) dX7_signIn_9 flX7_58 rfl at591 rfl ?_
    refine v_iflt (pc := 12) (tgt := 43) dX7_signIn_12 (by decide) (fun c1 => ?_) (fun c1 => ?_)
    · have h := h.1 c1
      refine v_iconst (pc := 43) dX7_signIn_43 (by decide) ?_
      exact m_retI (pc := 44) dX7_signIn_44 rfl h
    · have h := h.2 c1
      refine v_aload_n (pc := 15) dX7_signIn_15 0 rfl ?_
      refine m_getf (pc := 16) (t := 0) (v := (mem 591 7)) dX7_signIn_16 flX7_58 rfl at591 rfl ?_
      refine v_aload_n (pc := 19) dX7_signIn_19 0 rfl ?_
      refine m_getf (pc := 20) (t := 0) (v := (mem 591 3)) dX7_signIn_20 flX7_35 rfl at591 rfl ?_
      refine v_icmpge (pc := 23) (tgt := 43) dX7_signIn_23 (by decide) (fun c1 => ?_) (fun c1 => ?_)
      · have h := h.1 c1
        refine v_iconst (pc := 43) dX7_signIn_43 (by decide) ?_
        exact m_retI (pc := 44) dX7_signIn_44 rfl h
      · have h := h.2 c1
        refine v_aload_nF (pc := 26) dX7_signIn_26 1 rfl ?_
        refine v_aload_n (pc := 27) dX7_signIn_27 0 rfl ?_
        refine m_getfin (pc := 28) (v := 592) hE dX7_signIn_28 flX7_9 rfl at591 rfl ?_
        refine v_aload_n (pc := 31) dX7_signIn_31 0 rfl ?_
        refine m_getf (pc := 32) (t := 0) (v := (mem 591 7)) dX7_signIn_32 flX7_58 rfl at591 rfl ?_
        obtain ⟨o1, h⟩ := h
        refine m_iald (pc := 35) (v := (mem 592 (mem 591 7))) dX7_signIn_35 at592 o1.1 o1.2 rfl ?_
        refine v_i2c (pc := 36) dX7_signIn_36 ?_
        refine m_invFI (pc := 37) (mi' := mJ0_indexOf_0f7a4) (rest := []) [aI (xI2c (mem 592 (mem 591 7)))] hSt hp0 dX7_signIn_37 rfl msJ0_indexOf_0f7a4 mvJ0_indexOf_0f7a4 lkX7_159 rfl (Nat.le_of_ble_eq_true rfl) (fun hn => CI_mono (h (aaI hn 1 rfl)) (fun r3 m2 h => ?_))
        refine v_ifge (pc := 40) (tgt := 45) dX7_signIn_40 (by decide) (fun c1 => ?_) (fun c1 => ?_)
        · have h := h.1 c1
          refine v_aload_n (pc := 45) dX7_signIn_45 0 rfl ?_
          refine m_getfin (pc := 46) (v := 592) hE dX7_signIn_46 flX7_9 rfl at591 rfl ?_
          refine v_aload_n (pc := 49) dX7_signIn_49 0 rfl ?_
          refine m_getf (pc := 50) (t := 0) (v := (m2 591 7)) dX7_signIn_50 flX7_58 rfl at591 rfl ?_
          obtain ⟨o4, h⟩ := h
          refine m_iald (pc := 53) (v := (m2 592 (m2 591 7))) dX7_signIn_53 at592 o4.1 o4.2 rfl ?_
          exact m_retI (pc := 54) dX7_signIn_54 rfl h
        · have h := h.2 c1
          refine v_iconst (pc := 43) dX7_signIn_43 (by decide) ?_
          exact m_retI (pc := 44) dX7_signIn_44 rfl h
theorem eX7_signIn {E : EN} {k : Nat} {mem : Mm} {Q : Int → Mm → Prop} {p0 : Int}  (h : VM E mX7_signIn (k + 1) mem 0 [(0, aR 591), (1, aF p0)] [] (retI Q)) : CI E mX7_signIn (k + 1) mem [aR 591, aF p0] Q := CI_of rfl (Nat.le_of_ble_eq_true rfl) h (aNs_c (aNr_R _) (aNs_c (aNr_F _) (fun _ q => nomatch q)))

theorem dX7_isWord_0 : decode cX7_isWord 0 = .ok (.aload_n 0, 1) := by decide +kernel
theorem dX7_isWord_1 : decode cX7_isWord 1 = .ok (.aload_n 1, 1) := by decide +kernel
theorem dX7_isWord_2 : decode cX7_isWord 2 = .ok (.invokevirtual 75, 3) := by decide +kernel
theorem dX7_isWord_5 : decode cX7_isWord 5 = .ok (.ifCond .ne 7, 3) := by decide +kernel
theorem dX7_isWord_8 : decode cX7_isWord 8 = .ok (.iconst 1, 1) := by decide +kernel
theorem dX7_isWord_9 : decode cX7_isWord 9 = .ok (.goto 4, 3) := by decide +kernel
theorem dX7_isWord_12 : decode cX7_isWord 12 = .ok (.iconst 0, 1) := by decide +kernel
theorem dX7_isWord_13 : decode cX7_isWord 13 = .ok (.ireturn, 1) := by decide +kernel
set_option maxRecDepth 20000 in
theorem rX7_isWord_0 {E : EN} (hE : Ep E) {k : Nat} {mem : Mm} {Q : Int → Mm → Prop} {p0 : Int} (hp0 : isSt E p0)
    (h : (CI E mX7_wordIn k mem [aR 591, aF p0] (fun r2 m1 => ((¬ r2 = 0 → Q 0 m1) ∧ (r2 = 0 → Q 1 m1))))) :
    VM E mX7_isWord (k + 1) mem 0 [(0, aR 591), (1, aF p0)] [] (retI Q) := by
  refine v_aload_n (pc := 0) dX7_isWord_0 0 rfl ?_
  refine v_aload_nF (pc := 1) dX7_isWord_1 1 rfl ?_
  refine m_invI (pc := 2) (mi' := mX7_wordIn) (rest := []) [aF p0] dX7_isWord_2 at591 (by decide) rfl msX7_wordIn mvX7_wordIn lkX7_75 rfl (Nat.le_of_ble_eq_true rfl) (fun hn => CI_mono (h) (fun r2 m1 h => ?_))
  refine v_ifne (pc := 5) (tgt := 12) dX7_isWord_5 (by decide) (fun c1 => ?_) (fun c1 => ?_)
  · have h := h.1 c1
    refine v_iconst (pc := 12) dX7_isWord_12 (by decide) ?_
    exact m_retZ (pc := 13) dX7_isWord_13 rfl (by decide) h
  · have h := h.2 c1
    refine v_iconst (pc := 8) dX7_isWord_8 (by decide) ?_
    refine v_goto (pc := 9) (tgt := 13) dX7_isWord_9 (by decide) ?_
    exact m_retZ (pc := 13) dX7_isWord_13 rfl (by decide) h
theorem eX7_isWord {E : EN} {k : Nat} {mem : Mm} {Q : Int → Mm → Prop} {p0 : Int}  (h : VM E mX7_isWord (k + 1) mem 0 [(0, aR 591), (1, aF p0)] [] (retI Q)) : CI E mX7_isWord (k + 1) mem [aR 591, aF p0] Q := CI_of rfl (Nat.le_of_ble_eq_true rfl) h (aNs_c (aNr_R _) (aNs_c (aNr_F _) (fun _ q => nomatch q)))

theorem dX7_wordIn_0 : decode cX7_wordIn 0 = .ok (.aload_n 0, 1) := by decide +kernel
theorem dX7_wordIn_1 : decode cX7_wordIn 1 = .ok (.getfield 64, 3) := by decide +kernel
theorem dX7_wordIn_4 : decode cX7_wordIn 4 = .ok (.iconst 1, 1) := by decide +kernel
theorem dX7_wordIn_5 : decode cX7_wordIn 5 = .ok (.if_icmp .ne 21, 3) := by decide +kernel
theorem dX7_wordIn_8 : decode cX7_wordIn 8 = .ok (.aload_n 0, 1) := by decide +kernel
theorem dX7_wordIn_9 : decode cX7_wordIn 9 = .ok (.getfield 58, 3) := by decide +kernel
theorem dX7_wordIn_12 : decode cX7_wordIn 12 = .ok (.ifCond .lt 14, 3) := by decide +kernel
theorem dX7_wordIn_15 : decode cX7_wordIn 15 = .ok (.aload_n 0, 1) := by decide +kernel
theorem dX7_wordIn_16 : decode cX7_wordIn 16 = .ok (.getfield 45, 3) := by decide +kernel
theorem dX7_wordIn_19 : decode cX7_wordIn 19 = .ok (.aload_n 0, 1) := by decide +kernel
theorem dX7_wordIn_20 : decode cX7_wordIn 20 = .ok (.getfield 35, 3) := by decide +kernel
theorem dX7_wordIn_23 : decode cX7_wordIn 23 = .ok (.if_icmp .le 5, 3) := by decide +kernel
theorem dX7_wordIn_26 : decode cX7_wordIn 26 = .ok (.iconst (-1), 1) := by decide +kernel
theorem dX7_wordIn_27 : decode cX7_wordIn 27 = .ok (.ireturn, 1) := by decide +kernel
theorem dX7_wordIn_28 : decode cX7_wordIn 28 = .ok (.iconst 0, 1) := by decide +kernel
theorem dX7_wordIn_29 : decode cX7_wordIn 29 = .ok (.istore_n 2, 1) := by decide +kernel
theorem dX7_wordIn_30 : decode cX7_wordIn 30 = .ok (.iconst 0, 1) := by decide +kernel
theorem dX7_wordIn_31 : decode cX7_wordIn 31 = .ok (.istore_n 3, 1) := by decide +kernel
theorem dX7_wordIn_32 : decode cX7_wordIn 32 = .ok (.iconst 0, 1) := by decide +kernel
theorem dX7_wordIn_33 : decode cX7_wordIn 33 = .ok (.istore 4, 2) := by decide +kernel
theorem dX7_wordIn_35 : decode cX7_wordIn 35 = .ok (.iload 4, 2) := by decide +kernel
theorem dX7_wordIn_37 : decode cX7_wordIn 37 = .ok (.aload_n 1, 1) := by decide +kernel
theorem dX7_wordIn_38 : decode cX7_wordIn 38 = .ok (.invokevirtual 164, 3) := by decide +kernel
theorem dX7_wordIn_41 : decode cX7_wordIn 41 = .ok (.if_icmp .gt 109, 3) := by decide +kernel
theorem dX7_wordIn_44 : decode cX7_wordIn 44 = .ok (.iload 4, 2) := by decide +kernel
theorem dX7_wordIn_46 : decode cX7_wordIn 46 = .ok (.aload_n 1, 1) := by decide +kernel
theorem dX7_wordIn_47 : decode cX7_wordIn 47 = .ok (.invokevirtual 164, 3) := by decide +kernel
theorem dX7_wordIn_50 : decode cX7_wordIn 50 = .ok (.if_icmp .eq 14, 3) := by decide +kernel
theorem dX7_wordIn_53 : decode cX7_wordIn 53 = .ok (.aload_n 1, 1) := by decide +kernel
theorem dX7_wordIn_54 : decode cX7_wordIn 54 = .ok (.iload 4, 2) := by decide +kernel
theorem dX7_wordIn_56 : decode cX7_wordIn 56 = .ok (.invokevirtual 167, 3) := by decide +kernel
theorem dX7_wordIn_59 : decode cX7_wordIn 59 = .ok (.bipush 32, 2) := by decide +kernel
theorem dX7_wordIn_61 : decode cX7_wordIn 61 = .ok (.if_icmp .ne 26, 3) := by decide +kernel
theorem dX7_wordIn_64 : decode cX7_wordIn 64 = .ok (.iload_n 3, 1) := by decide +kernel
theorem dX7_wordIn_65 : decode cX7_wordIn 65 = .ok (.aload_n 0, 1) := by decide +kernel
theorem dX7_wordIn_66 : decode cX7_wordIn 66 = .ok (.getfield 45, 3) := by decide +kernel
theorem dX7_wordIn_69 : decode cX7_wordIn 69 = .ok (.aload_n 0, 1) := by decide +kernel
theorem dX7_wordIn_70 : decode cX7_wordIn 70 = .ok (.getfield 58, 3) := by decide +kernel
theorem dX7_wordIn_73 : decode cX7_wordIn 73 = .ok (.isub, 1) := by decide +kernel
theorem dX7_wordIn_74 : decode cX7_wordIn 74 = .ok (.if_icmp .ne 5, 3) := by decide +kernel
theorem dX7_wordIn_77 : decode cX7_wordIn 77 = .ok (.iload_n 2, 1) := by decide +kernel
theorem dX7_wordIn_78 : decode cX7_wordIn 78 = .ok (.ireturn, 1) := by decide +kernel
theorem dX7_wordIn_79 : decode cX7_wordIn 79 = .ok (.iinc 2 1, 3) := by decide +kernel
theorem dX7_wordIn_82 : decode cX7_wordIn 82 = .ok (.iconst 0, 1) := by decide +kernel
theorem dX7_wordIn_83 : decode cX7_wordIn 83 = .ok (.istore_n 3, 1) := by decide +kernel
theorem dX7_wordIn_84 : decode cX7_wordIn 84 = .ok (.goto 60, 3) := by decide +kernel
theorem dX7_wordIn_87 : decode cX7_wordIn 87 = .ok (.iload_n 3, 1) := by decide +kernel
theorem dX7_wordIn_88 : decode cX7_wordIn 88 = .ok (.ifCond .lt 56, 3) := by decide +kernel
theorem dX7_wordIn_91 : decode cX7_wordIn 91 = .ok (.aload_n 0, 1) := by decide +kernel
theorem dX7_wordIn_92 : decode cX7_wordIn 92 = .ok (.getfield 58, 3) := by decide +kernel
theorem dX7_wordIn_95 : decode cX7_wordIn 95 = .ok (.iload_n 3, 1) := by decide +kernel
theorem dX7_wordIn_96 : decode cX7_wordIn 96 = .ok (.iadd, 1) := by decide +kernel
theorem dX7_wordIn_97 : decode cX7_wordIn 97 = .ok (.aload_n 0, 1) := by decide +kernel
theorem dX7_wordIn_98 : decode cX7_wordIn 98 = .ok (.getfield 45, 3) := by decide +kernel
theorem dX7_wordIn_101 : decode cX7_wordIn 101 = .ok (.if_icmp .ge 27, 3) := by decide +kernel
theorem dX7_wordIn_104 : decode cX7_wordIn 104 = .ok (.aload_n 0, 1) := by decide +kernel
theorem dX7_wordIn_105 : decode cX7_wordIn 105 = .ok (.getfield 9, 3) := by decide +kernel
theorem dX7_wordIn_108 : decode cX7_wordIn 108 = .ok (.aload_n 0, 1) := by decide +kernel
theorem dX7_wordIn_109 : decode cX7_wordIn 109 = .ok (.getfield 58, 3) := by decide +kernel
theorem dX7_wordIn_112 : decode cX7_wordIn 112 = .ok (.iload_n 3, 1) := by decide +kernel
theorem dX7_wordIn_113 : decode cX7_wordIn 113 = .ok (.iadd, 1) := by decide +kernel
theorem dX7_wordIn_114 : decode cX7_wordIn 114 = .ok (.iaload, 1) := by decide +kernel
theorem dX7_wordIn_115 : decode cX7_wordIn 115 = .ok (.aload_n 1, 1) := by decide +kernel
theorem dX7_wordIn_116 : decode cX7_wordIn 116 = .ok (.iload 4, 2) := by decide +kernel
theorem dX7_wordIn_118 : decode cX7_wordIn 118 = .ok (.invokevirtual 167, 3) := by decide +kernel
theorem dX7_wordIn_121 : decode cX7_wordIn 121 = .ok (.if_icmp .ne 7, 3) := by decide +kernel
theorem dX7_wordIn_124 : decode cX7_wordIn 124 = .ok (.iconst 1, 1) := by decide +kernel
theorem dX7_wordIn_125 : decode cX7_wordIn 125 = .ok (.goto 4, 3) := by decide +kernel
theorem dX7_wordIn_128 : decode cX7_wordIn 128 = .ok (.iconst 0, 1) := by decide +kernel
theorem dX7_wordIn_129 : decode cX7_wordIn 129 = .ok (.istore 5, 2) := by decide +kernel
theorem dX7_wordIn_131 : decode cX7_wordIn 131 = .ok (.iload 5, 2) := by decide +kernel
theorem dX7_wordIn_133 : decode cX7_wordIn 133 = .ok (.ifCond .eq 9, 3) := by decide +kernel
theorem dX7_wordIn_136 : decode cX7_wordIn 136 = .ok (.iload_n 3, 1) := by decide +kernel
theorem dX7_wordIn_137 : decode cX7_wordIn 137 = .ok (.iconst 1, 1) := by decide +kernel
theorem dX7_wordIn_138 : decode cX7_wordIn 138 = .ok (.iadd, 1) := by decide +kernel
theorem dX7_wordIn_139 : decode cX7_wordIn 139 = .ok (.goto 4, 3) := by decide +kernel
theorem dX7_wordIn_142 : decode cX7_wordIn 142 = .ok (.iconst (-1), 1) := by decide +kernel
theorem dX7_wordIn_143 : decode cX7_wordIn 143 = .ok (.istore_n 3, 1) := by decide +kernel
theorem dX7_wordIn_144 : decode cX7_wordIn 144 = .ok (.iinc 4 1, 3) := by decide +kernel
theorem dX7_wordIn_147 : decode cX7_wordIn 147 = .ok (.goto (-112), 3) := by decide +kernel
theorem dX7_wordIn_150 : decode cX7_wordIn 150 = .ok (.iconst (-1), 1) := by decide +kernel
theorem dX7_wordIn_151 : decode cX7_wordIn 151 = .ok (.ireturn, 1) := by decide +kernel
set_option maxRecDepth 20000 in
theorem rX7_wordIn_0 {E : EN} (hE : Ep E) {k : Nat} {mem : Mm} {Q : Int → Mm → Prop} {p0 : Int} (hp0 : isSt E p0)
    (h : ((¬ (mem 591 9) = 1 → Q (-1) mem) ∧ ((mem 591 9) = 1 → (((mem 591 7) < 0 → Q (-1) mem) ∧ (0 ≤ (mem 591 7) → (((mem 591 8) ≤ (mem 591 3) → VM E mX7_wordIn (k + 1) mem 35 [(0, aR 591), (1, aF p0), (2, aI 0), (3, aI 0), (4, aI 0)] [] (retI Q)) ∧ ((mem 591 3) < (mem 591 8) → Q (-1) mem))))))) :
    VM E mX7_wordIn (k + 1) mem 0 [(0, aR 591), (1, aF p0)] [] (retI Q) := by
  refine v_aload_n (pc := 0) dX7_wordIn_0 0 rfl ?_
  refine m_getf (pc := 1) (t := 0) (v := (mem 591 9)) dX7_wordIn_1 flX7_64 rfl at591 rfl ?_
  refine v_iconst (pc := 4) dX7_wordIn_4 (by decide) ?_
  refine v_icmpne (pc := 5) (tgt := 26) dX7_wordIn_5 (by decide) (fun c1 => ?_) (fun c1 => ?_)
  · have h := h.1 c1
    refine v_iconst (pc := 26) dX7_wordIn_26 (by decide) ?_
    exact m_retI (pc := 27) dX7_wordIn_27 rfl h
  · have h := h.2 c1
    refine v_aload_n (pc := 8) dX7_wordIn_8 0 rfl ?_
    refine m_getf (pc := 9) (t := 0) (v := (mem 591 7)) dX7_wordIn_9 flX7_58 rfl at591 rfl ?_
    refine v_iflt (pc := 12) (tgt := 26) dX7_wordIn_12 (by decide) (fun c1 => ?_) (fun c1 => ?_)
    · have h := h.1 c1
      refine v_iconst (pc := 26) dX7_wordIn_26 (by decide) ?_
      exact m_retI (pc := 27) dX7_wordIn_27 rfl h
    · have h := h.2 c1
      refine v_aload_n (pc := 15) dX7_wordIn_15 0 rfl ?_
      refine m_getf (pc := 16) (t := 0) (v := (mem 591 8)) dX7_wordIn_16 flX7_45 rfl at591 rfl ?_
      refine v_aload_n (pc := 19) dX7_wordIn_19 0 rfl ?_
      refine m_getf (pc := 20) (t := 0) (v := (mem 591 3)) dX7_wordIn_20 flX7_35 rfl at591 rfl ?_
      refine v_icmple (pc := 23) (tgt := 28) dX7_wordIn_23 (by decide) (fun c1 => ?_) (fun c1 => ?_)
      · have h := h.1 c1
        refine v_iconst (pc := 28) dX7_wordIn_28 (by decide) ?_
        refine v_istore_n (pc := 29) (al2 := [(2, aI 0), (0, aR 591), (1, aF p0)]) dX7_wordIn_29 (by decide) rfl ?_
        refine v_iconst (pc := 30) dX7_wordIn_30 (by decide) ?_
        refine v_istore_n (pc := 31) (al2 := [(3, aI 0), (2, aI 0), (0, aR 591), (1, aF p0)]) dX7_wordIn_31 (by decide) rfl ?_
        refine v_iconst (pc := 32) dX7_wordIn_32 (by decide) ?_
        refine v_istore (pc := 33) (al2 := [(4, aI 0), (3, aI 0), (2, aI 0), (0, aR 591), (1, aF p0)]) dX7_wordIn_33 (by decide) rfl ?_
        exact VG_sub (al' := [(0, aR 591), (1, aF p0), (2, aI 0), (3, aI 0), (4, aI 0)]) [3, 4, 2, 1, 0] rfl h
      · have h := h.2 c1
        refine v_iconst (pc := 26) dX7_wordIn_26 (by decide) ?_
        exact m_retI (pc := 27) dX7_wordIn_27 rfl h
theorem eX7_wordIn {E : EN} {k : Nat} {mem : Mm} {Q : Int → Mm → Prop} {p0 : Int}  (h : VM E mX7_wordIn (k + 1) mem 0 [(0, aR 591), (1, aF p0)] [] (retI Q)) : CI E mX7_wordIn (k + 1) mem [aR 591, aF p0] Q := CI_of rfl (Nat.le_of_ble_eq_true rfl) h (aNs_c (aNr_R _) (aNs_c (aNr_F _) (fun _ q => nomatch q)))
set_option maxRecDepth 20000 in
theorem rX7_wordIn_35 {E : EN} (hE : Ep E) {k : Nat} {mem : Mm} {Q : Int → Mm → Prop} (hSt : aStr E) {p0 x2 x3 x4 : Int} (hp0 : isSt E p0)
    (h : (CI E mJ0_length_8abf5 k mem [aF p0] (fun r2 m1 => ((r2 < x4 → Q (-1) m1) ∧ (x4 ≤ r2 → (CI E mJ0_length_8abf5 k m1 [aF p0] (fun r4 m3 => ((x4 = r4 → (R32 ((m3 591 8) - (m3 591 7))) ∧ ((¬ x3 = ((m3 591 8) - (m3 591 7)) → (R32 (x2 + 1)) ∧ (R32 (x4 + 1)) ∧ VM E mX7_wordIn (k + 1) m3 35 [(0, aR 591), (1, aF p0), (2, aI (x2 + 1)), (3, aI 0), (4, aI (x4 + 1))] [] (retI Q)) ∧ (x3 = ((m3 591 8) - (m3 591 7)) → Q x2 m3))) ∧ (¬ x4 = r4 → (R32 x4 → CI E mJ0_charAt_5068e k m3 [aF p0, aI x4] (fun r9 m8 => ((¬ r9 = 32 → ((x3 < 0 → (R32 (x4 + 1)) ∧ VM E mX7_wordIn (k + 1) m8 35 [(0, aR 591), (1, aF p0), (2, aI x2), (3, aI x3), (4, aI (x4 + 1))] [] (retI Q)) ∧ (0 ≤ x3 → (R32 ((m8 591 7) + x3)) ∧ (((m8 591 8) ≤ ((m8 591 7) + x3) → (R32 (x4 + 1)) ∧ VM E mX7_wordIn (k + 1) m8 35 [(0, aR 591), (1, aF p0), (2, aI x2), (3, aI (-1)), (4, aI (x4 + 1))] [] (retI Q)) ∧ (((m8 591 7) + x3) < (m8 591 8) → (0 ≤ ((m8 591 7) + x3) ∧ ((m8 591 7) + x3) < 400) ∧ (R32 x4 → CI E mJ0_charAt_5068e k m8 [aF p0, aI x4] (fun r15 m14 => ((¬ (m8 592 ((m8 591 7) + x3)) = r15 → (R32 (x4 + 1)) ∧ VM E mX7_wordIn (k + 1) m14 35 [(0, aR 591), (1, aF p0), (2, aI x2), (3, aI (-1)), (4, aI (x4 + 1))] [] (retI Q)) ∧ ((m8 592 ((m8 591 7) + x3)) = r15 → (R32 (x3 + 1)) ∧ (R32 (x4 + 1)) ∧ VM E mX7_wordIn (k + 1) m14 35 [(0, aR 591), (1, aF p0), (2, aI x2), (3, aI (x3 + 1)), (4, aI (x4 + 1))] [] (retI Q)))))))))) ∧ (r9 = 32 → (R32 ((m8 591 8) - (m8 591 7))) ∧ ((¬ x3 = ((m8 591 8) - (m8 591 7)) → (R32 (x2 + 1)) ∧ (R32 (x4 + 1)) ∧ VM E mX7_wordIn (k + 1) m8 35 [(0, aR 591), (1, aF p0), (2, aI (x2 + 1)), (3, aI 0), (4, aI (x4 + 1))] [] (retI Q)) ∧ (x3 = ((m8 591 8) - (m8 591 7)) → Q x2 m8))))))))))))))) :
    VM E mX7_wordIn (k + 1) mem 35 [(0, aR 591), (1, aF p0), (2, aI x2), (3, aI x3), (4, aI x4)] [] (retI Q) := by
  refine v_iload (pc := 35) dX7_wordIn_35 4 rfl ?_
  refine v_aload_nF (pc := 37) dX7_wordIn_37 1 rfl ?_
  refine m_invFI (pc := 38) (mi' := mJ0_length_8abf5) (rest := [aI x4]) [] hSt hp0 dX7_wordIn_38 rfl msJ0_length_8abf5 mvJ0_length_8abf5 lkX7_164 rfl (Nat.le_of_ble_eq_true rfl) (fun hn => CI_mono (h) (fun r2 m1 h => ?_))
  refine v_icmpgt (pc := 41) (tgt := 150) dX7_wordIn_41 (by decide) (fun c1 => ?_) (fun c1 => ?_)
  · have h := h.1 c1
    refine v_iconst (pc := 150) dX7_wordIn_150 (by decide) ?_
    exact m_retI (pc := 151) dX7_wordIn_151 rfl h
  · have h := h.2 c1
    refine v_iload (pc := 44) dX7_wordIn_44 4 rfl ?_
    refine v_aload_nF (pc := 46) dX7_wordIn_46 1 rfl ?_
    refine m_invFI (pc := 47) (mi' := mJ0_length_8abf5) (rest := [aI x4]) [] hSt hp0 dX7_wordIn_47 rfl msJ0_length_8abf5 mvJ0_length_8abf5 lkX7_164 rfl (Nat.le_of_ble_eq_true rfl) (fun hn => CI_mono (h) (fun r4 m3 h => ?_))
    refine v_icmpeq (pc := 50) (tgt := 64) dX7_wordIn_50 (by decide) (fun c1 => ?_) (fun c1 => ?_)
    · have h := h.1 c1
      refine v_iload_n (pc := 64) dX7_wordIn_64 3 rfl ?_
      refine v_aload_n (pc := 65) dX7_wordIn_65 0 rfl ?_
      refine m_getf (pc := 66) (t := 0) (v := (m3 591 8)) dX7_wordIn_66 flX7_45 rfl at591 rfl ?_
      refine v_aload_n (pc := 69) dX7_wordIn_69 0 rfl ?_
      refine m_getf (pc := 70) (t := 0) (v := (m3 591 7)) dX7_wordIn_70 flX7_58 rfl at591 rfl ?_
      obtain ⟨o5, h⟩ := h
      refine m_isub (pc := 73) dX7_wordIn_73 o5 ?_
      refine v_icmpne (pc := 74) (tgt := 79) dX7_wordIn_74 (by decide) (fun c1 => ?_) (fun c1 => ?_)
      · have h := h.1 c1
        obtain ⟨o6, h⟩ := h
        refine m_iinc (pc := 79) (al2 := [(2, aI (x2 + 1)), (0, aR 591), (1, aF p0), (3, aI x3), (4, aI x4)]) dX7_wordIn_79 2 rfl (by decide) o6 rfl ?_
        refine v_iconst (pc := 82) dX7_wordIn_82 (by decide) ?_
        refine v_istore_n (pc := 83) (al2 := [(3, aI 0), (2, aI (x2 + 1)), (0, aR 591), (1, aF p0), (4, aI x4)]) dX7_wordIn_83 (by decide) rfl ?_
        refine v_goto (pc := 84) (tgt := 144) dX7_wordIn_84 (by decide) ?_
        obtain ⟨o7, h⟩ := h
        refine m_iinc (pc := 144) (al2 := [(4, aI (x4 + 1)), (3, aI 0), (2, aI (x2 + 1)), (0, aR 591), (1, aF p0)]) dX7_wordIn_144 4 rfl (by decide) o7 rfl ?_
        refine v_goto (pc := 147) (tgt := 35) dX7_wordIn_147 (by decide) ?_
        exact VG_sub (al' := [(0, aR 591), (1, aF p0), (2, aI (x2 + 1)), (3, aI 0), (4, aI (x4 + 1))]) [3, 4, 2, 1, 0] rfl h
      · have h := h.2 c1
        refine v_iload_n (pc := 77) dX7_wordIn_77 2 rfl ?_
        exact m_retI (pc := 78) dX7_wordIn_78 rfl h
    · have h := h.2 c1
      refine v_aload_nF (pc := 53) dX7_wordIn_53 1 rfl ?_
      refine v_iload (pc := 54) dX7_wordIn_54 4 rfl ?_
      refine m_invFI (pc := 56) (mi' := mJ0_charAt_5068e) (rest := []) [aI x4] hSt hp0 dX7_wordIn_56 rfl msJ0_charAt_5068e mvJ0_charAt_5068e lkX7_167 rfl (Nat.le_of_ble_eq_true rfl) (fun hn => CI_mono (h (aaI hn 1 rfl)) (fun r9 m8 h => ?_))
      refine v_bipush (pc := 59) dX7_wordIn_59 (by decide) ?_
      refine v_icmpne (pc := 61) (tgt := 87) dX7_wordIn_61 (by decide) (fun c1 => ?_) (fun c1 => ?_)
      · have h := h.1 c1
        refine v_iload_n (pc := 87) dX7_wordIn_87 3 rfl ?_
        refine v_iflt (pc := 88) (tgt := 144) dX7_wordIn_88 (by decide) (fun c1 => ?_) (fun c1 => ?_)
        · have h := h.1 c1
          obtain ⟨o10, h⟩ := h
          refine m_iinc (pc := 144) (al2 := [(4, aI (x4 + 1)), (0, aR 591), (1, aF p0), (2, aI x2), (3, aI x3)]) dX7_wordIn_144 4 rfl (by decide) o10 rfl ?_
          refine v_goto (pc := 147) (tgt := 35) dX7_wordIn_147 (by decide) ?_
          exact VG_sub (al' := [(0, aR 591), (1, aF p0), (2, aI x2), (3, aI x3), (4, aI (x4 + 1))]) [1, 2, 3, 4, 0] rfl h
        · have h := h.2 c1
          refine v_aload_n (pc := 91) dX7_wordIn_91 0 rfl ?_
          refine m_getf (pc := 92) (t := 0) (v := (m8 591 7)) dX7_wordIn_92 flX7_58 rfl at591 rfl ?_
          refine v_iload_n (pc := 95) dX7_wordIn_95 3 rfl ?_
          obtain ⟨o11, h⟩ := h
          refine m_iadd (pc := 96) dX7_wordIn_96 o11 ?_
          refine v_aload_n (pc := 97) dX7_wordIn_97 0 rfl ?_
          refine m_getf (pc := 98) (t := 0) (v := (m8 591 8)) dX7_wordIn_98 flX7_45 rfl at591 rfl ?_
          refine v_icmpge (pc := 101) (tgt := 128) dX7_wordIn_101 (by decide) (fun c1 => ?_) (fun c1 => ?_)
          · have h := h.1 c1
            refine v_iconst (pc := 128) dX7_wordIn_128 (by decide) ?_
            refine v_istore (pc := 129) (al2 := [(5, aI 0), (0, aR 591), (1, aF p0), (2, aI x2), (3, aI x3), (4, aI x4)]) dX7_wordIn_129 (by decide) rfl ?_
            refine v_iload (pc := 131) dX7_wordIn_131 0 rfl ?_
            refine v_ifeq (pc := 133) (tgt := 142) dX7_wordIn_133 (by decide) (fun c1 => ?_) (fun c1 => absurd c1 (by decide))
            refine v_iconst (pc := 142) dX7_wordIn_142 (by decide) ?_
            refine v_istore_n (pc := 143) (al2 := [(3, aI (-1)), (5, aI 0), (0, aR 591), (1, aF p0), (2, aI x2), (4, aI x4)]) dX7_wordIn_143 (by decide) rfl ?_
            obtain ⟨o12, h⟩ := h
            refine m_iinc (pc := 144) (al2 := [(4, aI (x4 + 1)), (3, aI (-1)), (5, aI 0), (0, aR 591), (1, aF p0), (2, aI x2)]) dX7_wordIn_144 5 rfl (by decide) o12 rfl ?_
            refine v_goto (pc := 147) (tgt := 35) dX7_wordIn_147 (by decide) ?_
            exact VG_sub (al' := [(0, aR 591), (1, aF p0), (2, aI x2), (3, aI (-1)), (4, aI (x4 + 1))]) [3, 4, 5, 1, 0] rfl h
          · have h := h.2 c1
            refine v_aload_n (pc := 104) dX7_wordIn_104 0 rfl ?_
            refine m_getfin (pc := 105) (v := 592) hE dX7_wordIn_105 flX7_9 rfl at591 rfl ?_
            refine v_aload_n (pc := 108) dX7_wordIn_108 0 rfl ?_
            refine m_getf (pc := 109) (t := 0) (v := (m8 591 7)) dX7_wordIn_109 flX7_58 rfl at591 rfl ?_
            refine v_iload_n (pc := 112) dX7_wordIn_112 3 rfl ?_
            refine m_iadd (pc := 113) dX7_wordIn_113 o11 ?_
            obtain ⟨o13, h⟩ := h
            refine m_iald (pc := 114) (v := (m8 592 ((m8 591 7) + x3))) dX7_wordIn_114 at592 o13.1 o13.2 rfl ?_
            refine v_aload_nF (pc := 115) dX7_wordIn_115 1 rfl ?_
            refine v_iload (pc := 116) dX7_wordIn_116 4 rfl ?_
            refine m_invFI (pc := 118) (mi' := mJ0_charAt_5068e) (rest := [aI (m8 592 ((m8 591 7) + x3))]) [aI x4] hSt hp0 dX7_wordIn_118 rfl msJ0_charAt_5068e mvJ0_charAt_5068e lkX7_167 rfl (Nat.le_of_ble_eq_true rfl) (fun hn => CI_mono (h (aaI hn 1 rfl)) (fun r15 m14 h => ?_))
            refine v_icmpne (pc := 121) (tgt := 128) dX7_wordIn_121 (by decide) (fun c1 => ?_) (fun c1 => ?_)
            · have h := h.1 c1
              refine v_iconst (pc := 128) dX7_wordIn_128 (by decide) ?_
              refine v_istore (pc := 129) (al2 := [(5, aI 0), (0, aR 591), (1, aF p0), (2, aI x2), (3, aI x3), (4, aI x4)]) dX7_wordIn_129 (by decide) rfl ?_
              refine v_iload (pc := 131) dX7_wordIn_131 0 rfl ?_
              refine v_ifeq (pc := 133) (tgt := 142) dX7_wordIn_133 (by decide) (fun c1 => ?_) (fun c1 => absurd c1 (by decide))
              refine v_iconst (pc := 142) dX7_wordIn_142 (by decide) ?_
              refine v_istore_n (pc := 143) (al2 := [(3, aI (-1)), (5, aI 0), (0, aR 591), (1, aF p0), (2, aI x2), (4, aI x4)]) dX7_wordIn_143 (by decide) rfl ?_
              obtain ⟨o16, h⟩ := h
              refine m_iinc (pc := 144) (al2 := [(4, aI (x4 + 1)), (3, aI (-1)), (5, aI 0), (0, aR 591), (1, aF p0), (2, aI x2)]) dX7_wordIn_144 5 rfl (by decide) o16 rfl ?_
              refine v_goto (pc := 147) (tgt := 35) dX7_wordIn_147 (by decide) ?_
              exact VG_sub (al' := [(0, aR 591), (1, aF p0), (2, aI x2), (3, aI (-1)), (4, aI (x4 + 1))]) [3, 4, 5, 1, 0] rfl h
            · have h := h.2 c1
              refine v_iconst (pc := 124) dX7_wordIn_124 (by decide) ?_
              refine v_goto (pc := 125) (tgt := 129) dX7_wordIn_125 (by decide) ?_
              refine v_istore (pc := 129) (al2 := [(5, aI 1), (0, aR 591), (1, aF p0), (2, aI x2), (3, aI x3), (4, aI x4)]) dX7_wordIn_129 (by decide) rfl ?_
              refine v_iload (pc := 131) dX7_wordIn_131 0 rfl ?_
              refine v_ifeq (pc := 133) (tgt := 142) dX7_wordIn_133 (by decide) (fun c1 => absurd c1 (by decide)) (fun c1 => ?_)
              refine v_iload_n (pc := 136) dX7_wordIn_136 4 rfl ?_
              refine v_iconst (pc := 137) dX7_wordIn_137 (by decide) ?_
              obtain ⟨o17, h⟩ := h
              refine m_iadd (pc := 138) dX7_wordIn_138 o17 ?_
              refine v_goto (pc := 139) (tgt := 143) dX7_wordIn_139 (by decide) ?_
              refine v_istore_n (pc := 143) (al2 := [(3, aI (x3 + 1)), (5, aI 1), (0, aR 591), (1, aF p0), (2, aI x2), (4, aI x4)]) dX7_wordIn_143 (by decide) rfl ?_
              obtain ⟨o18, h⟩ := h
              refine m_iinc (pc := 144) (al2 := [(4, aI (x4 + 1)), (3, aI (x3 + 1)), (5, aI 1), (0, aR 591), (1, aF p0), (2, aI x2)]) dX7_wordIn_144 5 rfl (by decide) o18 rfl ?_
              refine v_goto (pc := 147) (tgt := 35) dX7_wordIn_147 (by decide) ?_
              exact VG_sub (al' := [(0, aR 591), (1, aF p0), (2, aI x2), (3, aI (x3 + 1)), (4, aI (x4 + 1))]) [3, 4, 5, 1, 0] rfl h
      · have h := h.2 c1
        refine v_iload_n (pc := 64) dX7_wordIn_64 3 rfl ?_
        refine v_aload_n (pc := 65) dX7_wordIn_65 0 rfl ?_
        refine m_getf (pc := 66) (t := 0) (v := (m8 591 8)) dX7_wordIn_66 flX7_45 rfl at591 rfl ?_
        refine v_aload_n (pc := 69) dX7_wordIn_69 0 rfl ?_
        refine m_getf (pc := 70) (t := 0) (v := (m8 591 7)) dX7_wordIn_70 flX7_58 rfl at591 rfl ?_
        obtain ⟨o19, h⟩ := h
        refine m_isub (pc := 73) dX7_wordIn_73 o19 ?_
        refine v_icmpne (pc := 74) (tgt := 79) dX7_wordIn_74 (by decide) (fun c1 => ?_) (fun c1 => ?_)
        · have h := h.1 c1
          obtain ⟨o20, h⟩ := h
          refine m_iinc (pc := 79) (al2 := [(2, aI (x2 + 1)), (0, aR 591), (1, aF p0), (3, aI x3), (4, aI x4)]) dX7_wordIn_79 2 rfl (by decide) o20 rfl ?_
          refine v_iconst (pc := 82) dX7_wordIn_82 (by decide) ?_
          refine v_istore_n (pc := 83) (al2 := [(3, aI 0), (2, aI (x2 + 1)), (0, aR 591), (1, aF p0), (4, aI x4)]) dX7_wordIn_83 (by decide) rfl ?_
          refine v_goto (pc := 84) (tgt := 144) dX7_wordIn_84 (by decide) ?_
          obtain ⟨o21, h⟩ := h
          refine m_iinc (pc := 144) (al2 := [(4, aI (x4 + 1)), (3, aI 0), (2, aI (x2 + 1)), (0, aR 591), (1, aF p0)]) dX7_wordIn_144 4 rfl (by decide) o21 rfl ?_
          refine v_goto (pc := 147) (tgt := 35) dX7_wordIn_147 (by decide) ?_
          exact VG_sub (al' := [(0, aR 591), (1, aF p0), (2, aI (x2 + 1)), (3, aI 0), (4, aI (x4 + 1))]) [3, 4, 2, 1, 0] rfl h
        · have h := h.2 c1
          refine v_iload_n (pc := 77) dX7_wordIn_77 2 rfl ?_
          exact m_retI (pc := 78) dX7_wordIn_78 rfl h
