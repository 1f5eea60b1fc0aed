theorem dX0_run_0 : decode cX0_run 0 = .ok (.aload_n 0, 1) := by decide +kernel
theorem dX0_run_1 : decode cX0_run 1 = .ok (.getfield 12, 3) := by decide +kernel
theorem dX0_run_4 : decode cX0_run 4 = .ok (.aload_n 1, 1) := by decide +kernel
theorem dX0_run_5 : decode cX0_run 5 = .ok (.invokevirtual 18, 3) := by decide +kernel
theorem dX0_run_8 : decode cX0_run 8 = .ok (.aload_n 0, 1) := by decide +kernel
theorem dX0_run_9 : decode cX0_run 9 = .ok (.getfield 12, 3) := by decide +kernel
theorem dX0_run_12 : decode cX0_run 12 = .ok (.aload_n 1, 1) := by decide +kernel
theorem dX0_run_13 : decode cX0_run 13 = .ok (.getfield 22, 3) := by decide +kernel
theorem dX0_run_16 : decode cX0_run 16 = .ok (.putfield 22, 3) := by decide +kernel
theorem dX0_run_19 : decode cX0_run 19 = .ok (.aload_n 0, 1) := by decide +kernel
theorem dX0_run_20 : decode cX0_run 20 = .ok (.iload_n 2, 1) := by decide +kernel
theorem dX0_run_21 : decode cX0_run 21 = .ok (.i2l, 1) := by decide +kernel
theorem dX0_run_22 : decode cX0_run 22 = .ok (.putfield 26, 3) := by decide +kernel
theorem dX0_run_25 : decode cX0_run 25 = .ok (.iconst 0, 1) := by decide +kernel
theorem dX0_run_26 : decode cX0_run 26 = .ok (.istore 4, 2) := by decide +kernel
theorem dX0_run_28 : decode cX0_run 28 = .ok (.iload 4, 2) := by decide +kernel
theorem dX0_run_30 : decode cX0_run 30 = .ok (.iload_n 3, 1) := by decide +kernel
theorem dX0_run_31 : decode cX0_run 31 = .ok (.if_icmp .ge 101, 3) := by decide +kernel
theorem dX0_run_34 : decode cX0_run 34 = .ok (.aload_n 0, 1) := by decide +kernel
theorem dX0_run_35 : decode cX0_run 35 = .ok (.getfield 12, 3) := by decide +kernel
theorem dX0_run_38 : decode cX0_run 38 = .ok (.getfield 30, 3) := by decide +kernel
theorem dX0_run_41 : decode cX0_run 41 = .ok (.iconst 0, 1) := by decide +kernel
theorem dX0_run_42 : decode cX0_run 42 = .ok (.iaload, 1) := by decide +kernel
theorem dX0_run_43 : decode cX0_run 43 = .ok (.sipush 999, 3) := by decide +kernel
theorem dX0_run_46 : decode cX0_run 46 = .ok (.if_icmp .ge 86, 3) := by decide +kernel
theorem dX0_run_49 : decode cX0_run 49 = .ok (.aload_n 0, 1) := by decide +kernel
theorem dX0_run_50 : decode cX0_run 50 = .ok (.bipush 10, 2) := by decide +kernel
theorem dX0_run_52 : decode cX0_run 52 = .ok (.invokevirtual 34, 3) := by decide +kernel
theorem dX0_run_55 : decode cX0_run 55 = .ok (.aload_n 0, 1) := by decide +kernel
theorem dX0_run_56 : decode cX0_run 56 = .ok (.getfield 12, 3) := by decide +kernel
theorem dX0_run_59 : decode cX0_run 59 = .ok (.getfield 30, 3) := by decide +kernel
theorem dX0_run_62 : decode cX0_run 62 = .ok (.iconst 2, 1) := by decide +kernel
theorem dX0_run_63 : decode cX0_run 63 = .ok (.iaload, 1) := by decide +kernel
theorem dX0_run_64 : decode cX0_run 64 = .ok (.if_icmp .ge 13, 3) := by decide +kernel
theorem dX0_run_67 : decode cX0_run 67 = .ok (.aload_n 0, 1) := by decide +kernel
theorem dX0_run_68 : decode cX0_run 68 = .ok (.getfield 12, 3) := by decide +kernel
theorem dX0_run_71 : decode cX0_run 71 = .ok (.invokevirtual 38, 3) := by decide +kernel
theorem dX0_run_74 : decode cX0_run 74 = .ok (.goto 10, 3) := by decide +kernel
theorem dX0_run_77 : decode cX0_run 77 = .ok (.aload_n 0, 1) := by decide +kernel
theorem dX0_run_78 : decode cX0_run 78 = .ok (.getfield 12, 3) := by decide +kernel
theorem dX0_run_81 : decode cX0_run 81 = .ok (.invokevirtual 41, 3) := by decide +kernel
theorem dX0_run_84 : decode cX0_run 84 = .ok (.aload_n 0, 1) := by decide +kernel
theorem dX0_run_85 : decode cX0_run 85 = .ok (.bipush 32, 2) := by decide +kernel
theorem dX0_run_87 : decode cX0_run 87 = .ok (.invokevirtual 34, 3) := by decide +kernel
theorem dX0_run_90 : decode cX0_run 90 = .ok (.istore 5, 2) := by decide +kernel
theorem dX0_run_92 : decode cX0_run 92 = .ok (.aload_n 0, 1) := by decide +kernel
theorem dX0_run_93 : decode cX0_run 93 = .ok (.bipush 6, 2) := by decide +kernel
theorem dX0_run_95 : decode cX0_run 95 = .ok (.invokevirtual 34, 3) := by decide +kernel
theorem dX0_run_98 : decode cX0_run 98 = .ok (.istore 6, 2) := by decide +kernel
theorem dX0_run_100 : decode cX0_run 100 = .ok (.aload_n 0, 1) := by decide +kernel
theorem dX0_run_101 : decode cX0_run 101 = .ok (.getfield 12, 3) := by decide +kernel
theorem dX0_run_104 : decode cX0_run 104 = .ok (.iload 6, 2) := by decide +kernel
theorem dX0_run_106 : decode cX0_run 106 = .ok (.iload 5, 2) := by decide +kernel
theorem dX0_run_108 : decode cX0_run 108 = .ok (.invokevirtual 44, 3) := by decide +kernel
theorem dX0_run_111 : decode cX0_run 111 = .ok (.ifCond .eq 15, 3) := by decide +kernel
theorem dX0_run_114 : decode cX0_run 114 = .ok (.aload_n 0, 1) := by decide +kernel
theorem dX0_run_115 : decode cX0_run 115 = .ok (.getfield 12, 3) := by decide +kernel
theorem dX0_run_118 : decode cX0_run 118 = .ok (.iload 6, 2) := by decide +kernel
theorem dX0_run_120 : decode cX0_run 120 = .ok (.iload 5, 2) := by decide +kernel
theorem dX0_run_122 : decode cX0_run 122 = .ok (.iconst 0, 1) := by decide +kernel
theorem dX0_run_123 : decode cX0_run 123 = .ok (.invokevirtual 48, 3) := by decide +kernel
theorem dX0_run_126 : decode cX0_run 126 = .ok (.iinc 4 1, 3) := by decide +kernel
theorem dX0_run_129 : decode cX0_run 129 = .ok (.goto (-101), 3) := by decide +kernel
theorem dX0_run_132 : decode cX0_run 132 = .ok (.aload_n 0, 1) := by decide +kernel
theorem dX0_run_133 : decode cX0_run 133 = .ok (.getfield 12, 3) := by decide +kernel
theorem dX0_run_136 : decode cX0_run 136 = .ok (.getfield 52, 3) := by decide +kernel
theorem dX0_run_139 : decode cX0_run 139 = .ok (.ireturn, 1) := by decide +kernel
set_option maxRecDepth 20000 in
theorem rX0_run_0 {E : EN} (hE : Ep E) {k : Nat} {mem : Mm} {Q : Int → Mm → Prop} {p0 p1 p2 : Int} (hp0 : isYd p0)
    (h : (CV E mX10_copyFrom k mem [aR 581, aR p0] (fun m1 => VM E mX0_run (k + 1) (aUp (aUp m1 581 9 (m1 p0 9)) 580 1 p1) 28 [(0, aR 580), (3, aI p2), (4, aI 0)] [] (retI Q)))) :
    VM E mX0_run (k + 1) mem 0 [(0, aR 580), (1, aR p0), (2, aI p1), (3, aI p2)] [] (retI Q) := by
  refine v_aload_n (pc := 0) dX0_run_0 0 rfl ?_
  refine m_getfin (pc := 1) (v := 581) hE dX0_run_1 flX0_12 rfl at580 rfl ?_
  refine v_aload_n (pc := 4) dX0_run_4 1 rfl ?_
  refine m_invV (pc := 5) (mi' := mX10_copyFrom) (rest := []) [aR p0] dX0_run_5 (yd0 (show isYd 581 by unfold isYd; omega)) (by decide) rfl msX10_copyFrom mvX10_copyFrom lkX0_18 rfl (Nat.le_of_ble_eq_true rfl) (fun hn => CV_mono (h) (fun m1 h => ?_))
  refine v_aload_n (pc := 8) dX0_run_8 0 rfl ?_
  refine m_getfin (pc := 9) (v := 581) hE dX0_run_9 flX0_12 rfl at580 rfl ?_
  refine v_aload_n (pc := 12) dX0_run_12 1 rfl ?_
  refine m_getf (pc := 13) (t := 2) (v := (m1 p0 9)) dX0_run_13 flX0_22 rfl (yd0 hp0) rfl ?_
  refine v_putf (pc := 16) dX0_run_16 flX0_22 ⟨_, _, rfl, Or.inl rfl⟩ rfl (by decide) (fun q => nomatch q) (Or.inl fun _ => rfl) (yd0 (show isYd 581 by unfold isYd; omega)) ?_
  refine v_aload_n (pc := 19) dX0_run_19 0 rfl ?_
  refine v_iload_n (pc := 20) dX0_run_20 2 rfl ?_
  refine v_i2l (pc := 21) dX0_run_21 ?_
  refine v_putf (pc := 22) dX0_run_22 flX0_26 ⟨_, _, rfl, Or.inl rfl⟩ rfl (by decide) (fun q => nomatch q) (Or.inl fun _ => rfl) at580 ?_
  refine v_iconst (pc := 25) dX0_run_25 (by decide) ?_
  refine v_istore (pc := 26) (al2 := [(4, aI 0), (0, aR 580), (1, aR p0), (2, aI p1), (3, aI p2)]) dX0_run_26 (by decide) rfl ?_
  exact VG_sub (al' := [(0, aR 580), (3, aI p2), (4, aI 0)]) [1, 4, 0] rfl h
theorem eX0_run {E : EN} {k : Nat} {mem : Mm} {Q : Int → Mm → Prop} {p0 p1 p2 : Int} (hr_p1 : R32 p1) (hr_p2 : R32 p2) (h : VM E mX0_run (k + 1) mem 0 [(0, aR 580), (1, aR p0), (2, aI p1), (3, aI p2)] [] (retI Q)) : CI E mX0_run (k + 1) mem [aR 580, aR p0, aI p1, aI p2] Q := CI_of rfl (Nat.le_of_ble_eq_true rfl) h (aNs_c (aNr_R _) (aNs_c (aNr_R _) (aNs_c (aNr_I hr_p1) (aNs_c (aNr_I hr_p2) (fun _ q => nomatch q)))))
set_option maxRecDepth 20000 in
theorem rX0_run_28 {E : EN} (hE : Ep E) {k : Nat} {mem : Mm} {Q : Int → Mm → Prop} {p0 p1 p2 x4 : Int} (hp0 : isYd p0)
    (h : ((p2 ≤ x4 → Q (mem 581 10) mem) ∧ (x4 < p2 → ((999 ≤ (mem 589 0) → Q (mem 581 10) mem) ∧ ((mem 589 0) < 999 → (CI E mX0_draw k mem [aR 580, aI 10] (fun r2 m1 => (((m1 589 2) ≤ r2 → (CV E mX10_turnYear k m1 [aR 581] (fun m3 => (CI E mX0_draw k m3 [aR 580, aI 32] (fun r5 m4 => (CI E mX0_draw k m4 [aR 580, aI 6] (fun r7 m6 => (R32 r7 → R32 r5 → CI E mX10_isOpenTo k m6 [aR 581, aI r7, aI r5] (fun r9 m8 => ((r9 = 0 → (R32 (x4 + 1)) ∧ VM E mX0_run (k + 1) m8 28 [(0, aR 580), (3, aI p2), (4, aI (x4 + 1))] [] (retI Q)) ∧ (¬ r9 = 0 → (R32 r7 → R32 r5 → CV E mX10_add k m8 [aR 581, aI r7, aI r5, aI 0] (fun m11 => (R32 (x4 + 1)) ∧ VM E mX0_run (k + 1) m11 28 [(0, aR 580), (3, aI p2), (4, aI (x4 + 1))] [] (retI Q)))))))))))))) ∧ (r2 < (m1 589 2) → (CV E mX10_age k m1 [aR 581] (fun m13 => (CI E mX0_draw k m13 [aR 580, aI 32] (fun r15 m14 => (CI E mX0_draw k m14 [aR 580, aI 6] (fun r17 m16 => (R32 r17 → R32 r15 → CI E mX10_isOpenTo k m16 [aR 581, aI r17, aI r15] (fun r19 m18 => ((r19 = 0 → (R32 (x4 + 1)) ∧ VM E mX0_run (k + 1) m18 28 [(0, aR 580), (3, aI p2), (4, aI (x4 + 1))] [] (retI Q)) ∧ (¬ r19 = 0 → (R32 r17 → R32 r15 → CV E mX10_add k m18 [aR 581, aI r17, aI r15, aI 0] (fun m21 => (R32 (x4 + 1)) ∧ VM E mX0_run (k + 1) m21 28 [(0, aR 580), (3, aI p2), (4, aI (x4 + 1))] [] (retI Q)))))))))))))))))))))) :
    VM E mX0_run (k + 1) mem 28 [(0, aR 580), (3, aI p2), (4, aI x4)] [] (retI Q) := by
  refine v_iload (pc := 28) dX0_run_28 2 rfl ?_
  refine v_iload_n (pc := 30) dX0_run_30 1 rfl ?_
  refine v_icmpge (pc := 31) (tgt := 132) dX0_run_31 (by decide) (fun c1 => ?_) (fun c1 => ?_)
  · have h := h.1 c1
    refine v_aload_n (pc := 132) dX0_run_132 0 rfl ?_
    refine m_getfin (pc := 133) (v := 581) hE dX0_run_133 flX0_12 rfl at580 rfl ?_
    refine m_getf (pc := 136) (t := 0) (v := (mem 581 10)) dX0_run_136 flX0_52 rfl (yd0 (show isYd 581 by unfold isYd; omega)) rfl ?_
    exact m_retI (pc := 139) dX0_run_139 rfl h
  · have h := h.2 c1
    refine v_aload_n (pc := 34) dX0_run_34 0 rfl ?_
    refine m_getfin (pc := 35) (v := 581) hE dX0_run_35 flX0_12 rfl at580 rfl ?_
    refine m_getfin (pc := 38) (v := 589) hE dX0_run_38 flX0_30 rfl (yd0 (show isYd 581 by unfold isYd; omega)) rfl ?_
    refine v_iconst (pc := 41) dX0_run_41 (by decide) ?_
    refine m_iald (pc := 42) (v := (mem 589 0)) dX0_run_42 (yd8 (show isYd 581 by unfold isYd; omega)) (by omega) (by omega) rfl ?_
    refine v_sipush (pc := 43) dX0_run_43 (by decide) ?_
    refine v_icmpge (pc := 46) (tgt := 132) dX0_run_46 (by decide) (fun c1 => ?_) (fun c1 => ?_)
    · have h := h.1 c1
      refine v_aload_n (pc := 132) dX0_run_132 0 rfl ?_
      refine m_getfin (pc := 133) (v := 581) hE dX0_run_133 flX0_12 rfl at580 rfl ?_
      refine m_getf (pc := 136) (t := 0) (v := (mem 581 10)) dX0_run_136 flX0_52 rfl (yd0 (show isYd 581 by unfold isYd; omega)) rfl ?_
      exact m_retI (pc := 139) dX0_run_139 rfl h
    · have h := h.2 c1
      refine v_aload_n (pc := 49) dX0_run_49 0 rfl ?_
      refine v_bipush (pc := 50) dX0_run_50 (by decide) ?_
      refine m_invI (pc := 52) (mi' := mX0_draw) (rest := []) [aI 10] dX0_run_52 at580 (by decide) rfl msX0_draw mvX0_draw lkX0_34 rfl (Nat.le_of_ble_eq_true rfl) (fun hn => CI_mono (h) (fun r2 m1 h => ?_))
      refine v_aload_n (pc := 55) dX0_run_55 0 rfl ?_
      refine m_getfin (pc := 56) (v := 581) hE dX0_run_56 flX0_12 rfl at580 rfl ?_
      refine m_getfin (pc := 59) (v := 589) hE dX0_run_59 flX0_30 rfl (yd0 (show isYd 581 by unfold isYd; omega)) rfl ?_
      refine v_iconst (pc := 62) dX0_run_62 (by decide) ?_
      refine m_iald (pc := 63) (v := (m1 589 2)) dX0_run_63 (yd8 (show isYd 581 by unfold isYd; omega)) (by omega) (by omega) rfl ?_
      refine v_icmpge (pc := 64) (tgt := 77) dX0_run_64 (by decide) (fun c1 => ?_) (fun c1 => ?_)
      · have h := h.1 c1
        refine v_aload_n (pc := 77) dX0_run_77 0 rfl ?_
        refine m_getfin (pc := 78) (v := 581) hE dX0_run_78 flX0_12 rfl at580 rfl ?_
        refine m_invV (pc := 81) (mi' := mX10_turnYear) (rest := []) [] dX0_run_81 (yd0 (show isYd 581 by unfold isYd; omega)) (by decide) rfl msX10_turnYear mvX10_turnYear lkX0_41 rfl (Nat.le_of_ble_eq_true rfl) (fun hn => CV_mono (h) (fun m3 h => ?_))
        refine v_aload_n (pc := 84) dX0_run_84 0 rfl ?_
        refine v_bipush (pc := 85) dX0_run_85 (by decide) ?_
        refine m_invI (pc := 87) (mi' := mX0_draw) (rest := []) [aI 32] dX0_run_87 at580 (by decide) rfl msX0_draw mvX0_draw lkX0_34 rfl (Nat.le_of_ble_eq_true rfl) (fun hn => CI_mono (h) (fun r5 m4 h => ?_))
        refine v_istore (pc := 90) (al2 := [(5, aI r5), (0, aR 580), (3, aI p2), (4, aI x4)]) dX0_run_90 (by decide) rfl ?_
        refine v_aload_n (pc := 92) dX0_run_92 1 rfl ?_
        refine v_bipush (pc := 93) dX0_run_93 (by decide) ?_
        refine m_invI (pc := 95) (mi' := mX0_draw) (rest := []) [aI 6] dX0_run_95 at580 (by decide) rfl msX0_draw mvX0_draw lkX0_34 rfl (Nat.le_of_ble_eq_true rfl) (fun hn => CI_mono (h) (fun r7 m6 h => ?_))
        refine v_istore (pc := 98) (al2 := [(6, aI r7), (5, aI r5), (0, aR 580), (3, aI p2), (4, aI x4)]) dX0_run_98 (by decide) rfl ?_
        refine v_aload_n (pc := 100) dX0_run_100 2 rfl ?_
        refine m_getfin (pc := 101) (v := 581) hE dX0_run_101 flX0_12 rfl at580 rfl ?_
        refine v_iload (pc := 104) dX0_run_104 0 rfl ?_
        refine v_iload (pc := 106) dX0_run_106 1 rfl ?_
        refine m_invI (pc := 108) (mi' := mX10_isOpenTo) (rest := []) [aI r7, aI r5] dX0_run_108 (yd0 (show isYd 581 by unfold isYd; omega)) (by decide) rfl msX10_isOpenTo mvX10_isOpenTo lkX0_44 rfl (Nat.le_of_ble_eq_true rfl) (fun hn => CI_mono (h (aaI hn 1 rfl) (aaI hn 2 rfl)) (fun r9 m8 h => ?_))
        refine v_ifeq (pc := 111) (tgt := 126) dX0_run_111 (by decide) (fun c1 => ?_) (fun c1 => ?_)
        · have h := h.1 c1
          obtain ⟨o10, h⟩ := h
          refine m_iinc (pc := 126) (al2 := [(4, aI (x4 + 1)), (6, aI r7), (5, aI r5), (0, aR 580), (3, aI p2)]) dX0_run_126 4 rfl (by decide) o10 rfl ?_
          refine v_goto (pc := 129) (tgt := 28) dX0_run_129 (by decide) ?_
          exact VG_sub (al' := [(0, aR 580), (3, aI p2), (4, aI (x4 + 1))]) [3, 4, 0] rfl h
        · have h := h.2 c1
          refine v_aload_n (pc := 114) dX0_run_114 2 rfl ?_
          refine m_getfin (pc := 115) (v := 581) hE dX0_run_115 flX0_12 rfl at580 rfl ?_
          refine v_iload (pc := 118) dX0_run_118 0 rfl ?_
          refine v_iload (pc := 120) dX0_run_120 1 rfl ?_
          refine v_iconst (pc := 122) dX0_run_122 (by decide) ?_
          refine m_invV (pc := 123) (mi' := mX10_add) (rest := []) [aI r7, aI r5, aI 0] dX0_run_123 (yd0 (show isYd 581 by unfold isYd; omega)) (by decide) rfl msX10_add mvX10_add lkX0_48 rfl (Nat.le_of_ble_eq_true rfl) (fun hn => CV_mono (h (aaI hn 1 rfl) (aaI hn 2 rfl)) (fun m11 h => ?_))
          obtain ⟨o12, h⟩ := h
          refine m_iinc (pc := 126) (al2 := [(4, aI (x4 + 1)), (6, aI r7), (5, aI r5), (0, aR 580), (3, aI p2)]) dX0_run_126 4 rfl (by decide) o12 rfl ?_
          refine v_goto (pc := 129) (tgt := 28) dX0_run_129 (by decide) ?_
          exact VG_sub (al' := [(0, aR 580), (3, aI p2), (4, aI (x4 + 1))]) [3, 4, 0] rfl h
      · have h := h.2 c1
        refine v_aload_n (pc := 67) dX0_run_67 0 rfl ?_
        refine m_getfin (pc := 68) (v := 581) hE dX0_run_68 flX0_12 rfl at580 rfl ?_
        refine m_invV (pc := 71) (mi' := mX10_age) (rest := []) [] dX0_run_71 (yd0 (show isYd 581 by unfold isYd; omega)) (by decide) rfl msX10_age mvX10_age lkX0_38 rfl (Nat.le_of_ble_eq_true rfl) (fun hn => CV_mono (h) (fun m13 h => ?_))
        refine v_goto (pc := 74) (tgt := 84) dX0_run_74 (by decide) ?_
        refine v_aload_n (pc := 84) dX0_run_84 0 rfl ?_
        refine v_bipush (pc := 85) dX0_run_85 (by decide) ?_
        refine m_invI (pc := 87) (mi' := mX0_draw) (rest := []) [aI 32] dX0_run_87 at580 (by decide) rfl msX0_draw mvX0_draw lkX0_34 rfl (Nat.le_of_ble_eq_true rfl) (fun hn => CI_mono (h) (fun r15 m14 h => ?_))
        refine v_istore (pc := 90) (al2 := [(5, aI r15), (0, aR 580), (3, aI p2), (4, aI x4)]) dX0_run_90 (by decide) rfl ?_
        refine v_aload_n (pc := 92) dX0_run_92 1 rfl ?_
        refine v_bipush (pc := 93) dX0_run_93 (by decide) ?_
        refine m_invI (pc := 95) (mi' := mX0_draw) (rest := []) [aI 6] dX0_run_95 at580 (by decide) rfl msX0_draw mvX0_draw lkX0_34 rfl (Nat.le_of_ble_eq_true rfl) (fun hn => CI_mono (h) (fun r17 m16 h => ?_))
        refine v_istore (pc := 98) (al2 := [(6, aI r17), (5, aI r15), (0, aR 580), (3, aI p2), (4, aI x4)]) dX0_run_98 (by decide) rfl ?_
        refine v_aload_n (pc := 100) dX0_run_100 2 rfl ?_
        refine m_getfin (pc := 101) (v := 581) hE dX0_run_101 flX0_12 rfl at580 rfl ?_
        refine v_iload (pc := 104) dX0_run_104 0 rfl ?_
        refine v_iload (pc := 106) dX0_run_106 1 rfl ?_
        refine m_invI (pc := 108) (mi' := mX10_isOpenTo) (rest := []) [aI r17, aI r15] dX0_run_108 (yd0 (show isYd 581 by unfold isYd; omega)) (by decide) rfl msX10_isOpenTo mvX10_isOpenTo lkX0_44 rfl (Nat.le_of_ble_eq_true rfl) (fun hn => CI_mono (h (aaI hn 1 rfl) (aaI hn 2 rfl)) (fun r19 m18 h => ?_))
        refine v_ifeq (pc := 111) (tgt := 126) dX0_run_111 (by decide) (fun c1 => ?_) (fun c1 => ?_)
        · have h := h.1 c1
          obtain ⟨o20, h⟩ := h
          refine m_iinc (pc := 126) (al2 := [(4, aI (x4 + 1)), (6, aI r17), (5, aI r15), (0, aR 580), (3, aI p2)]) dX0_run_126 4 rfl (by decide) o20 rfl ?_
          refine v_goto (pc := 129) (tgt := 28) dX0_run_129 (by decide) ?_
          exact VG_sub (al' := [(0, aR 580), (3, aI p2), (4, aI (x4 + 1))]) [3, 4, 0] rfl h
        · have h := h.2 c1
          refine v_aload_n (pc := 114) dX0_run_114 2 rfl ?_
          refine m_getfin (pc := 115) (v := 581) hE dX0_run_115 flX0_12 rfl at580 rfl ?_
          refine v_iload (pc := 118) dX0_run_118 0 rfl ?_
          refine v_iload (pc := 120) dX0_run_120 1 rfl ?_
          refine v_iconst (pc := 122) dX0_run_122 (by decide) ?_
          refine m_invV (pc := 123) (mi' := mX10_add) (rest := []) [aI r17, aI r15, aI 0] dX0_run_123 (yd0 (show isYd 581 by unfold isYd; omega)) (by decide) rfl msX10_add mvX10_add lkX0_48 rfl (Nat.le_of_ble_eq_true rfl) (fun hn => CV_mono (h (aaI hn 1 rfl) (aaI hn 2 rfl)) (fun m21 h => ?_))
          obtain ⟨o22, h⟩ := h
          refine m_iinc (pc := 126) (al2 := [(4, aI (x4 + 1)), (6, aI r17), (5, aI r15), (0, aR 580), (3, aI p2)]) dX0_run_126 4 rfl (by decide) o22 rfl ?_
          refine v_goto (pc := 129) (tgt := 28) dX0_run_129 (by decide) ?_
          exact VG_sub (al' := [(0, aR 580), (3, aI p2), (4, aI (x4 + 1))]) [3, 4, 0] rfl h

theorem dX0_draw_0 : decode cX0_draw 0 = .ok (.aload_n 0, 1) := by decide +kernel
theorem dX0_draw_1 : decode cX0_draw 1 = .ok (.aload_n 0, 1) := by decide +kernel
theorem dX0_draw_2 : decode cX0_draw 2 = .ok (.getfield 26, 3) := by decide +kernel
theorem dX0_draw_5 : decode cX0_draw 5 = .ok (.ldc2_w 56, 3) := by decide +kernel
theorem dX0_draw_8 : decode cX0_draw 8 = .ok (.lmul, 1) := by decide +kernel
theorem dX0_draw_9 : decode cX0_draw 9 = .ok (.ldc2_w 58, 3) := by decide +kernel
theorem dX0_draw_12 : decode cX0_draw 12 = .ok (.ladd, 1) := by decide +kernel
theorem dX0_draw_13 : decode cX0_draw 13 = .ok (.ldc2_w 60, 3) := by decide +kernel
theorem dX0_draw_16 : decode cX0_draw 16 = .ok (.lrem, 1) := by decide +kernel
theorem dX0_draw_17 : decode cX0_draw 17 = .ok (.putfield 26, 3) := by decide +kernel
theorem dX0_draw_20 : decode cX0_draw 20 = .ok (.iload_n 1, 1) := by decide +kernel
theorem dX0_draw_21 : decode cX0_draw 21 = .ok (.ifCond .le 14, 3) := by decide +kernel
theorem dX0_draw_24 : decode cX0_draw 24 = .ok (.aload_n 0, 1) := by decide +kernel
theorem dX0_draw_25 : decode cX0_draw 25 = .ok (.getfield 26, 3) := by decide +kernel
theorem dX0_draw_28 : decode cX0_draw 28 = .ok (.iload_n 1, 1) := by decide +kernel
theorem dX0_draw_29 : decode cX0_draw 29 = .ok (.i2l, 1) := by decide +kernel
theorem dX0_draw_30 : decode cX0_draw 30 = .ok (.lrem, 1) := by decide +kernel
theorem dX0_draw_31 : decode cX0_draw 31 = .ok (.l2i, 1) := by decide +kernel
theorem dX0_draw_32 : decode cX0_draw 32 = .ok (.goto 4, 3) := by decide +kernel
theorem dX0_draw_35 : decode cX0_draw 35 = .ok (.iconst 0, 1) := by decide +kernel
theorem dX0_draw_36 : decode cX0_draw 36 = .ok (.ireturn, 1) := by decide +kernel
set_option maxRecDepth 20000 in
theorem rX0_draw_0 {E : EN} (hE : Ep E) {k : Nat} {mem : Mm} {Q : Int → Mm → Prop} {p0 : Int}
    (h : (R64 ((mem 580 1) * 1103)) ∧ (R64 (((mem 580 1) * 1103) + 12345)) ∧ ((p0 ≤ 0 → Q 0 (aUp mem 580 1 (Int.tmod (((mem 580 1) * 1103) + 12345) 1000003))) ∧ (0 < p0 → (¬ p0 = 0) ∧ (R32 (Int.tmod (Int.tmod (((mem 580 1) * 1103) + 12345) 1000003) p0)) ∧ Q (Int.tmod (Int.tmod (((mem 580 1) * 1103) + 12345) 1000003) p0) (aUp mem 580 1 (Int.tmod (((mem 580 1) * 1103) + 12345) 1000003))))) :
    VM E mX0_draw k mem 0 [(0, aR 580), (1, aI p0)] [] (retI Q) := by
  refine v_aload_n (pc := 0) dX0_draw_0 0 rfl ?_
  refine v_aload_n (pc := 1) dX0_draw_1 0 rfl ?_
  refine m_getf (pc := 2) (t := 1) (v := (mem 580 1)) dX0_draw_2 flX0_26 rfl at580 rfl ?_
  refine v_ldc2 (pc := 5) (n := 1103) dX0_draw_5 cnX0_56 (by decide) ?_
  obtain ⟨o1, h⟩ := h
  refine m_lmul (pc := 8) dX0_draw_8 o1 ?_
  refine v_ldc2 (pc := 9) (n := 12345) dX0_draw_9 cnX0_58 (by decide) ?_
  obtain ⟨o2, h⟩ := h
  refine m_ladd (pc := 12) dX0_draw_12 o2 ?_
  refine v_ldc2 (pc := 13) (n := 1000003) dX0_draw_13 cnX0_60 (by decide) ?_
  refine v_lrem (pc := 16) dX0_draw_16 (by decide) ?_
  refine v_putf (pc := 17) dX0_draw_17 flX0_26 ⟨_, _, rfl, Or.inl rfl⟩ rfl (by decide) (fun q => nomatch q) (Or.inl fun _ => rfl) at580 ?_
  refine v_iload_n (pc := 20) dX0_draw_20 1 rfl ?_
  refine v_ifle (pc := 21) (tgt := 35) dX0_draw_21 (by decide) (fun c1 => ?_) (fun c1 => ?_)
  · have h := h.1 c1
    refine v_iconst (pc := 35) dX0_draw_35 (by decide) ?_
    exact m_retI (pc := 36) dX0_draw_36 rfl h
  · have h := h.2 c1
    refine v_aload_n (pc := 24) dX0_draw_24 0 rfl ?_
    refine m_getf (pc := 25) (t := 1) (v := (Int.tmod (((mem 580 1) * 1103) + 12345) 1000003)) dX0_draw_25 flX0_26 rfl at580 (aUp_re) ?_
    refine v_iload_n (pc := 28) dX0_draw_28 1 rfl ?_
    refine v_i2l (pc := 29) dX0_draw_29 ?_
    obtain ⟨o3, h⟩ := h
    refine v_lrem (pc := 30) dX0_draw_30 o3 ?_
    obtain ⟨o4, h⟩ := h
    refine m_l2i (pc := 31) dX0_draw_31 o4 ?_
    refine v_goto (pc := 32) (tgt := 36) dX0_draw_32 (by decide) ?_
    exact m_retI (pc := 36) dX0_draw_36 rfl h
theorem eX0_draw {E : EN} {k : Nat} {mem : Mm} {Q : Int → Mm → Prop} {p0 : Int} (hr_p0 : R32 p0) (h : VM E mX0_draw k mem 0 [(0, aR 580), (1, aI p0)] [] (retI Q)) : CI E mX0_draw k mem [aR 580, aI p0] Q := CI_of rfl (Nat.le_of_ble_eq_true rfl) h (aNs_c (aNr_R _) (aNs_c (aNr_I hr_p0) (fun _ q => nomatch q)))
