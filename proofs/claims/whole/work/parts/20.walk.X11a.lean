theorem dX11_put_0 : decode cX11_put 0 = .ok (.iload_n 1, 1) := by decide +kernel
theorem dX11_put_1 : decode cX11_put 1 = .ok (.invokestatic 85, 3) := by decide +kernel
theorem dX11_put_4 : decode cX11_put 4 = .ok (.ifCond .eq 11, 3) := by decide +kernel
theorem dX11_put_7 : decode cX11_put 7 = .ok (.iload_n 2, 1) := by decide +kernel
theorem dX11_put_8 : decode cX11_put 8 = .ok (.iload_n 3, 1) := by decide +kernel
theorem dX11_put_9 : decode cX11_put 9 = .ok (.invokestatic 89, 3) := by decide +kernel
theorem dX11_put_12 : decode cX11_put 12 = .ok (.ifCond .ne 9, 3) := by decide +kernel
theorem dX11_put_15 : decode cX11_put 15 = .ok (.aload_n 0, 1) := by decide +kernel
theorem dX11_put_16 : decode cX11_put 16 = .ok (.iconst (-1), 1) := by decide +kernel
theorem dX11_put_17 : decode cX11_put 17 = .ok (.invokevirtual 93, 3) := by decide +kernel
theorem dX11_put_20 : decode cX11_put 20 = .ok (.ireturn, 1) := by decide +kernel
theorem dX11_put_21 : decode cX11_put 21 = .ok (.aload_n 0, 1) := by decide +kernel
theorem dX11_put_22 : decode cX11_put 22 = .ok (.getfield 22, 3) := by decide +kernel
theorem dX11_put_25 : decode cX11_put 25 = .ok (.iload_n 1, 1) := by decide +kernel
theorem dX11_put_26 : decode cX11_put 26 = .ok (.iload_n 2, 1) := by decide +kernel
theorem dX11_put_27 : decode cX11_put 27 = .ok (.iload_n 3, 1) := by decide +kernel
theorem dX11_put_28 : decode cX11_put 28 = .ok (.invokevirtual 97, 3) := by decide +kernel
theorem dX11_put_31 : decode cX11_put 31 = .ok (.ifCond .ne 10, 3) := by decide +kernel
theorem dX11_put_34 : decode cX11_put 34 = .ok (.aload_n 0, 1) := by decide +kernel
theorem dX11_put_35 : decode cX11_put 35 = .ok (.bipush (-3), 2) := by decide +kernel
theorem dX11_put_37 : decode cX11_put 37 = .ok (.invokevirtual 93, 3) := by decide +kernel
theorem dX11_put_40 : decode cX11_put 40 = .ok (.ireturn, 1) := by decide +kernel
theorem dX11_put_41 : decode cX11_put 41 = .ok (.aload_n 0, 1) := by decide +kernel
theorem dX11_put_42 : decode cX11_put 42 = .ok (.getfield 22, 3) := by decide +kernel
theorem dX11_put_45 : decode cX11_put 45 = .ok (.iload_n 1, 1) := by decide +kernel
theorem dX11_put_46 : decode cX11_put 46 = .ok (.iload_n 2, 1) := by decide +kernel
theorem dX11_put_47 : decode cX11_put 47 = .ok (.invokevirtual 103, 3) := by decide +kernel
theorem dX11_put_50 : decode cX11_put 50 = .ok (.istore 4, 2) := by decide +kernel
theorem dX11_put_52 : decode cX11_put 52 = .ok (.aload_n 0, 1) := by decide +kernel
theorem dX11_put_53 : decode cX11_put 53 = .ok (.getfield 27, 3) := by decide +kernel
theorem dX11_put_56 : decode cX11_put 56 = .ok (.iconst 0, 1) := by decide +kernel
theorem dX11_put_57 : decode cX11_put 57 = .ok (.putfield 107, 3) := by decide +kernel
theorem dX11_put_60 : decode cX11_put 60 = .ok (.aload_n 0, 1) := by decide +kernel
theorem dX11_put_61 : decode cX11_put 61 = .ok (.getfield 22, 3) := by decide +kernel
theorem dX11_put_64 : decode cX11_put 64 = .ok (.iload_n 1, 1) := by decide +kernel
theorem dX11_put_65 : decode cX11_put 65 = .ok (.iload_n 2, 1) := by decide +kernel
theorem dX11_put_66 : decode cX11_put 66 = .ok (.iload_n 3, 1) := by decide +kernel
theorem dX11_put_67 : decode cX11_put 67 = .ok (.invokevirtual 112, 3) := by decide +kernel
theorem dX11_put_70 : decode cX11_put 70 = .ok (.aload_n 0, 1) := by decide +kernel
theorem dX11_put_71 : decode cX11_put 71 = .ok (.iload 4, 2) := by decide +kernel
theorem dX11_put_73 : decode cX11_put 73 = .ok (.invokevirtual 116, 3) := by decide +kernel
theorem dX11_put_76 : decode cX11_put 76 = .ok (.ireturn, 1) := by decide +kernel
set_option maxRecDepth 20000 in
theorem rX11_put_0 {E : EN} (hE : Ep E) {k : Nat} {mem : Mm} {Q : Int → Mm → Prop} {p0 p1 p2 : Int}
    (h : (R32 p0 → CI E mX11_isCell k mem [aI p0] (fun r2 m1 => ((r2 = 0 → (CI E mX11_refused k m1 [aR 0, aI (-1)] (fun r4 m3 => Q r4 m3))) ∧ (¬ r2 = 0 → (R32 p1 → R32 p2 → CI E mX11_isFact k m1 [aI p1, aI p2] (fun r6 m5 => ((¬ r6 = 0 → (R32 p0 → R32 p1 → R32 p2 → CI E mX10_mayWrite k m5 [aR 2, aI p0, aI p1, aI p2] (fun r8 m7 => ((¬ r8 = 0 → (R32 p0 → R32 p1 → CI E mX10_fact k m7 [aR 2, aI p0, aI p1] (fun r10 m9 => (R32 p0 → R32 p1 → R32 p2 → CV E mX10_write k (aUp m9 12 2 0) [aR 2, aI p0, aI p1, aI p2] (fun m11 => (R32 r10 → CI E mX11_granted k m11 [aR 0, aI r10] (fun r13 m12 => Q r13 m12))))))) ∧ (r8 = 0 → (CI E mX11_refused k m7 [aR 0, aI (-3)] (fun r15 m14 => Q r15 m14))))))) ∧ (r6 = 0 → (CI E mX11_refused k m5 [aR 0, aI (-1)] (fun r17 m16 => Q r17 m16))))))))))) :
    VM E mX11_put (k + 1) mem 0 [(0, aR 0), (1, aI p0), (2, aI p1), (3, aI p2)] [] (retI Q) := by
  refine v_iload_n (pc := 0) dX11_put_0 1 rfl ?_
  refine m_invSI (pc := 1) (mi' := mX11_isCell) (rest := []) [aI p0] dX11_put_1 msX11_isCell stX11_isCell lkX11_85 rfl (Nat.le_of_ble_eq_true rfl) (fun hn => CI_mono (h (aaI hn 0 rfl)) (fun r2 m1 h => ?_))
  refine v_ifeq (pc := 4) (tgt := 15) dX11_put_4 (by decide) (fun c1 => ?_) (fun c1 => ?_)
  · have h := h.1 c1
    refine v_aload_n (pc := 15) dX11_put_15 0 rfl ?_
    refine v_iconst (pc := 16) dX11_put_16 (by decide) ?_
    refine m_invI (pc := 17) (mi' := mX11_refused) (rest := []) [aI (-1)] dX11_put_17 at0 (by decide) rfl msX11_refused mvX11_refused lkX11_93 rfl (Nat.le_of_ble_eq_true rfl) (fun hn => CI_mono (h) (fun r4 m3 h => ?_))
    exact m_retI (pc := 20) dX11_put_20 rfl h
  · have h := h.2 c1
    refine v_iload_n (pc := 7) dX11_put_7 2 rfl ?_
    refine v_iload_n (pc := 8) dX11_put_8 3 rfl ?_
    refine m_invSI (pc := 9) (mi' := mX11_isFact) (rest := []) [aI p1, aI p2] dX11_put_9 msX11_isFact stX11_isFact lkX11_89 rfl (Nat.le_of_ble_eq_true rfl) (fun hn => CI_mono (h (aaI hn 0 rfl) (aaI hn 1 rfl)) (fun r6 m5 h => ?_))
    refine v_ifne (pc := 12) (tgt := 21) dX11_put_12 (by decide) (fun c1 => ?_) (fun c1 => ?_)
    · have h := h.1 c1
      refine v_aload_n (pc := 21) dX11_put_21 0 rfl ?_
      refine m_getfin (pc := 22) (v := 2) hE dX11_put_22 flX11_22 rfl at0 rfl ?_
      refine v_iload_n (pc := 25) dX11_put_25 1 rfl ?_
      refine v_iload_n (pc := 26) dX11_put_26 2 rfl ?_
      refine v_iload_n (pc := 27) dX11_put_27 3 rfl ?_
      refine m_invI (pc := 28) (mi' := mX10_mayWrite) (rest := []) [aI p0, aI p1, aI p2] dX11_put_28 (yd0 (show isYd 2 by unfold isYd; omega)) (by decide) rfl msX10_mayWrite mvX10_mayWrite lkX11_97 rfl (Nat.le_of_ble_eq_true rfl) (fun hn => CI_mono (h (aaI hn 1 rfl) (aaI hn 2 rfl) (aaI hn 3 rfl)) (fun r8 m7 h => ?_))
      refine v_ifne (pc := 31) (tgt := 41) dX11_put_31 (by decide) (fun c1 => ?_) (fun c1 => ?_)
      · have h := h.1 c1
        refine v_aload_n (pc := 41) dX11_put_41 0 rfl ?_
        refine m_getfin (pc := 42) (v := 2) hE dX11_put_42 flX11_22 rfl at0 rfl ?_
        refine v_iload_n (pc := 45) dX11_put_45 1 rfl ?_
        refine v_iload_n (pc := 46) dX11_put_46 2 rfl ?_
        refine m_invI (pc := 47) (mi' := mX10_fact) (rest := []) [aI p0, aI p1] dX11_put_47 (yd0 (show isYd 2 by unfold isYd; omega)) (by decide) rfl msX10_fact mvX10_fact lkX11_103 rfl (Nat.le_of_ble_eq_true rfl) (fun hn => CI_mono (h (aaI hn 1 rfl) (aaI hn 2 rfl)) (fun r10 m9 h => ?_))
        refine v_istore (pc := 50) (al2 := [(4, aI r10), (0, aR 0), (1, aI p0), (2, aI p1), (3, aI p2)]) dX11_put_50 (by decide) rfl ?_
        refine v_aload_n (pc := 52) dX11_put_52 1 rfl ?_
        refine m_getfin (pc := 53) (v := 12) hE dX11_put_53 flX11_27 rfl at0 rfl ?_
        refine v_iconst (pc := 56) dX11_put_56 (by decide) ?_
        refine v_putf (pc := 57) dX11_put_57 flX11_107 ⟨_, _, rfl, Or.inl rfl⟩ rfl (by decide) (fun q => nomatch q) (Or.inl fun _ => rfl) (pt0 (show isPt 12 by unfold isPt; omega)) ?_
        refine v_aload_n (pc := 60) dX11_put_60 1 rfl ?_
        refine m_getfin (pc := 61) (v := 2) hE dX11_put_61 flX11_22 rfl at0 rfl ?_
        refine v_iload_n (pc := 64) dX11_put_64 2 rfl ?_
        refine v_iload_n (pc := 65) dX11_put_65 3 rfl ?_
        refine v_iload_n (pc := 66) dX11_put_66 4 rfl ?_
        refine m_invV (pc := 67) (mi' := mX10_write) (rest := []) [aI p0, aI p1, aI p2] dX11_put_67 (yd0 (show isYd 2 by unfold isYd; omega)) (by decide) rfl msX10_write mvX10_write lkX11_112 rfl (Nat.le_of_ble_eq_true rfl) (fun hn => CV_mono (h (aaI hn 1 rfl) (aaI hn 2 rfl) (aaI hn 3 rfl)) (fun m11 h => ?_))
        refine v_aload_n (pc := 70) dX11_put_70 1 rfl ?_
        refine v_iload (pc := 71) dX11_put_71 0 rfl ?_
        refine m_invI (pc := 73) (mi' := mX11_granted) (rest := []) [aI r10] dX11_put_73 at0 (by decide) rfl msX11_granted mvX11_granted lkX11_116 rfl (Nat.le_of_ble_eq_true rfl) (fun hn => CI_mono (h (aaI hn 1 rfl)) (fun r13 m12 h => ?_))
        exact m_retI (pc := 76) dX11_put_76 rfl h
      · have h := h.2 c1
        refine v_aload_n (pc := 34) dX11_put_34 0 rfl ?_
        refine v_bipush (pc := 35) dX11_put_35 (by decide) ?_
        refine m_invI (pc := 37) (mi' := mX11_refused) (rest := []) [aI (-3)] dX11_put_37 at0 (by decide) rfl msX11_refused mvX11_refused lkX11_93 rfl (Nat.le_of_ble_eq_true rfl) (fun hn => CI_mono (h) (fun r15 m14 h => ?_))
        exact m_retI (pc := 40) dX11_put_40 rfl h
    · have h := h.2 c1
      refine v_aload_n (pc := 15) dX11_put_15 0 rfl ?_
      refine v_iconst (pc := 16) dX11_put_16 (by decide) ?_
      refine m_invI (pc := 17) (mi' := mX11_refused) (rest := []) [aI (-1)] dX11_put_17 at0 (by decide) rfl msX11_refused mvX11_refused lkX11_93 rfl (Nat.le_of_ble_eq_true rfl) (fun hn => CI_mono (h) (fun r17 m16 h => ?_))
      exact m_retI (pc := 20) dX11_put_20 rfl h
theorem eX11_put {E : EN} {k : Nat} {mem : Mm} {Q : Int → Mm → Prop} {p0 p1 p2 : Int} (hr_p0 : R32 p0) (hr_p1 : R32 p1) (hr_p2 : R32 p2) (h : VM E mX11_put (k + 1) mem 0 [(0, aR 0), (1, aI p0), (2, aI p1), (3, aI p2)] [] (retI Q)) : CI E mX11_put (k + 1) mem [aR 0, aI p0, aI p1, aI p2] Q := CI_of rfl (Nat.le_of_ble_eq_true rfl) h (aNs_c (aNr_R _) (aNs_c (aNr_I hr_p0) (aNs_c (aNr_I hr_p1) (aNs_c (aNr_I hr_p2) (fun _ q => nomatch q)))))

theorem dX11_at_0 : decode cX11_at 0 = .ok (.iload_n 1, 1) := by decide +kernel
theorem dX11_at_1 : decode cX11_at 1 = .ok (.invokestatic 85, 3) := by decide +kernel
theorem dX11_at_4 : decode cX11_at 4 = .ok (.ifCond .ne 5, 3) := by decide +kernel
theorem dX11_at_7 : decode cX11_at 7 = .ok (.iconst (-1), 1) := by decide +kernel
theorem dX11_at_8 : decode cX11_at 8 = .ok (.ireturn, 1) := by decide +kernel
theorem dX11_at_9 : decode cX11_at 9 = .ok (.iload_n 2, 1) := by decide +kernel
theorem dX11_at_10 : decode cX11_at 10 = .ok (.iconst 3, 1) := by decide +kernel
theorem dX11_at_11 : decode cX11_at 11 = .ok (.if_icmp .ne 14, 3) := by decide +kernel
theorem dX11_at_14 : decode cX11_at 14 = .ok (.aload_n 0, 1) := by decide +kernel
theorem dX11_at_15 : decode cX11_at 15 = .ok (.getfield 22, 3) := by decide +kernel
theorem dX11_at_18 : decode cX11_at 18 = .ok (.iload_n 1, 1) := by decide +kernel
theorem dX11_at_19 : decode cX11_at 19 = .ok (.invokevirtual 119, 3) := by decide +kernel
theorem dX11_at_22 : decode cX11_at 22 = .ok (.goto 12, 3) := by decide +kernel
theorem dX11_at_25 : decode cX11_at 25 = .ok (.aload_n 0, 1) := by decide +kernel
theorem dX11_at_26 : decode cX11_at 26 = .ok (.getfield 22, 3) := by decide +kernel
theorem dX11_at_29 : decode cX11_at 29 = .ok (.iload_n 1, 1) := by decide +kernel
theorem dX11_at_30 : decode cX11_at 30 = .ok (.iload_n 2, 1) := by decide +kernel
theorem dX11_at_31 : decode cX11_at 31 = .ok (.invokevirtual 103, 3) := by decide +kernel
theorem dX11_at_34 : decode cX11_at 34 = .ok (.ireturn, 1) := by decide +kernel
set_option maxRecDepth 20000 in
theorem rX11_at_0 {E : EN} (hE : Ep E) {k : Nat} {mem : Mm} {Q : Int → Mm → Prop} {p0 p1 : Int}
    (h : (R32 p0 → CI E mX11_isCell k mem [aI p0] (fun r2 m1 => ((¬ r2 = 0 → ((¬ p1 = 3 → (R32 p0 → R32 p1 → CI E mX10_fact k m1 [aR 2, aI p0, aI p1] (fun r4 m3 => Q r4 m3))) ∧ (p1 = 3 → (R32 p0 → CI E mX10_plotIn k m1 [aR 2, aI p0] (fun r6 m5 => Q r6 m5))))) ∧ (r2 = 0 → Q (-1) m1))))) :
    VM E mX11_at (k + 1) mem 0 [(0, aR 0), (1, aI p0), (2, aI p1)] [] (retI Q) := by
  refine v_iload_n (pc := 0) dX11_at_0 1 rfl ?_
  refine m_invSI (pc := 1) (mi' := mX11_isCell) (rest := []) [aI p0] dX11_at_1 msX11_isCell stX11_isCell lkX11_85 rfl (Nat.le_of_ble_eq_true rfl) (fun hn => CI_mono (h (aaI hn 0 rfl)) (fun r2 m1 h => ?_))
  refine v_ifne (pc := 4) (tgt := 9) dX11_at_4 (by decide) (fun c1 => ?_) (fun c1 => ?_)
  · have h := h.1 c1
    refine v_iload_n (pc := 9) dX11_at_9 2 rfl ?_
    refine v_iconst (pc := 10) dX11_at_10 (by decide) ?_
    refine v_icmpne (pc := 11) (tgt := 25) dX11_at_11 (by decide) (fun c1 => ?_) (fun c1 => ?_)
    · have h := h.1 c1
      refine v_aload_n (pc := 25) dX11_at_25 0 rfl ?_
      refine m_getfin (pc := 26) (v := 2) hE dX11_at_26 flX11_22 rfl at0 rfl ?_
      refine v_iload_n (pc := 29) dX11_at_29 1 rfl ?_
      refine v_iload_n (pc := 30) dX11_at_30 2 rfl ?_
      refine m_invI (pc := 31) (mi' := mX10_fact) (rest := []) [aI p0, aI p1] dX11_at_31 (yd0 (show isYd 2 by unfold isYd; omega)) (by decide) rfl msX10_fact mvX10_fact lkX11_103 rfl (Nat.le_of_ble_eq_true rfl) (fun hn => CI_mono (h (aaI hn 1 rfl) (aaI hn 2 rfl)) (fun r4 m3 h => ?_))
      exact m_retI (pc := 34) dX11_at_34 rfl h
    · have h := h.2 c1
      refine v_aload_n (pc := 14) dX11_at_14 0 rfl ?_
      refine m_getfin (pc := 15) (v := 2) hE dX11_at_15 flX11_22 rfl at0 rfl ?_
      refine v_iload_n (pc := 18) dX11_at_18 1 rfl ?_
      refine m_invI (pc := 19) (mi' := mX10_plotIn) (rest := []) [aI p0] dX11_at_19 (yd0 (show isYd 2 by unfold isYd; omega)) (by decide) rfl msX10_plotIn mvX10_plotIn lkX11_119 rfl (Nat.le_of_ble_eq_true rfl) (fun hn => CI_mono (h (aaI hn 1 rfl)) (fun r6 m5 h => ?_))
      refine v_goto (pc := 22) (tgt := 34) dX11_at_22 (by decide) ?_
      exact m_retI (pc := 34) dX11_at_34 rfl h
  · have h := h.2 c1
    refine v_iconst (pc := 7) dX11_at_7 (by decide) ?_
    exact m_retI (pc := 8) dX11_at_8 rfl h
theorem eX11_at {E : EN} {k : Nat} {mem : Mm} {Q : Int → Mm → Prop} {p0 p1 : Int} (hr_p0 : R32 p0) (hr_p1 : R32 p1) (h : VM E mX11_at (k + 1) mem 0 [(0, aR 0), (1, aI p0), (2, aI p1)] [] (retI Q)) : CI E mX11_at (k + 1) mem [aR 0, aI p0, aI p1] Q := CI_of rfl (Nat.le_of_ble_eq_true rfl) h (aNs_c (aNr_R _) (aNs_c (aNr_I hr_p0) (aNs_c (aNr_I hr_p1) (fun _ q => nomatch q))))

theorem dX11_of_0 : decode cX11_of 0 = .ok (.aload_n 0, 1) := by decide +kernel
theorem dX11_of_1 : decode cX11_of 1 = .ok (.getfield 22, 3) := by decide +kernel
theorem dX11_of_4 : decode cX11_of 4 = .ok (.iload_n 1, 1) := by decide +kernel
theorem dX11_of_5 : decode cX11_of 5 = .ok (.invokevirtual 122, 3) := by decide +kernel
theorem dX11_of_8 : decode cX11_of 8 = .ok (.ifCond .ne 5, 3) := by decide +kernel
theorem dX11_of_11 : decode cX11_of 11 = .ok (.iconst (-1), 1) := by decide +kernel
theorem dX11_of_12 : decode cX11_of 12 = .ok (.ireturn, 1) := by decide +kernel
theorem dX11_of_13 : decode cX11_of 13 = .ok (.iload_n 2, 1) := by decide +kernel
theorem dX11_of_14 : decode cX11_of 14 = .ok (.tableswitch 96 0 5 #[38, 48, 58, 68, 78, 87], 38) := by decide +kernel
theorem dX11_of_52 : decode cX11_of 52 = .ok (.aload_n 0, 1) := by decide +kernel
theorem dX11_of_53 : decode cX11_of 53 = .ok (.getfield 22, 3) := by decide +kernel
theorem dX11_of_56 : decode cX11_of 56 = .ok (.getfield 125, 3) := by decide +kernel
theorem dX11_of_59 : decode cX11_of 59 = .ok (.iload_n 1, 1) := by decide +kernel
theorem dX11_of_60 : decode cX11_of 60 = .ok (.iaload, 1) := by decide +kernel
theorem dX11_of_61 : decode cX11_of 61 = .ok (.ireturn, 1) := by decide +kernel
theorem dX11_of_62 : decode cX11_of 62 = .ok (.aload_n 0, 1) := by decide +kernel
theorem dX11_of_63 : decode cX11_of 63 = .ok (.getfield 22, 3) := by decide +kernel
theorem dX11_of_66 : decode cX11_of 66 = .ok (.getfield 128, 3) := by decide +kernel
theorem dX11_of_69 : decode cX11_of 69 = .ok (.iload_n 1, 1) := by decide +kernel
theorem dX11_of_70 : decode cX11_of 70 = .ok (.iaload, 1) := by decide +kernel
theorem dX11_of_71 : decode cX11_of 71 = .ok (.ireturn, 1) := by decide +kernel
theorem dX11_of_72 : decode cX11_of 72 = .ok (.aload_n 0, 1) := by decide +kernel
theorem dX11_of_73 : decode cX11_of 73 = .ok (.getfield 22, 3) := by decide +kernel
theorem dX11_of_76 : decode cX11_of 76 = .ok (.getfield 131, 3) := by decide +kernel
theorem dX11_of_79 : decode cX11_of 79 = .ok (.iload_n 1, 1) := by decide +kernel
theorem dX11_of_80 : decode cX11_of 80 = .ok (.iaload, 1) := by decide +kernel
theorem dX11_of_81 : decode cX11_of 81 = .ok (.ireturn, 1) := by decide +kernel
theorem dX11_of_82 : decode cX11_of 82 = .ok (.aload_n 0, 1) := by decide +kernel
theorem dX11_of_83 : decode cX11_of 83 = .ok (.getfield 22, 3) := by decide +kernel
theorem dX11_of_86 : decode cX11_of 86 = .ok (.getfield 134, 3) := by decide +kernel
theorem dX11_of_89 : decode cX11_of 89 = .ok (.iload_n 1, 1) := by decide +kernel
theorem dX11_of_90 : decode cX11_of 90 = .ok (.iaload, 1) := by decide +kernel
theorem dX11_of_91 : decode cX11_of 91 = .ok (.ireturn, 1) := by decide +kernel
theorem dX11_of_92 : decode cX11_of 92 = .ok (.aload_n 0, 1) := by decide +kernel
theorem dX11_of_93 : decode cX11_of 93 = .ok (.getfield 22, 3) := by decide +kernel
theorem dX11_of_96 : decode cX11_of 96 = .ok (.iload_n 1, 1) := by decide +kernel
theorem dX11_of_97 : decode cX11_of 97 = .ok (.invokevirtual 137, 3) := by decide +kernel
theorem dX11_of_100 : decode cX11_of 100 = .ok (.ireturn, 1) := by decide +kernel
theorem dX11_of_101 : decode cX11_of 101 = .ok (.aload_n 0, 1) := by decide +kernel
theorem dX11_of_102 : decode cX11_of 102 = .ok (.getfield 22, 3) := by decide +kernel
theorem dX11_of_105 : decode cX11_of 105 = .ok (.iload_n 1, 1) := by decide +kernel
theorem dX11_of_106 : decode cX11_of 106 = .ok (.invokevirtual 140, 3) := by decide +kernel
theorem dX11_of_109 : decode cX11_of 109 = .ok (.ireturn, 1) := by decide +kernel
theorem dX11_of_110 : decode cX11_of 110 = .ok (.iconst (-1), 1) := by decide +kernel
theorem dX11_of_111 : decode cX11_of 111 = .ok (.ireturn, 1) := by decide +kernel
set_option maxRecDepth 20000 in
theorem rX11_of_0 {E : EN} (hE : Ep E) {k : Nat} {mem : Mm} {Q : Int → Mm → Prop} {p0 p1 : Int}
    (h : (R32 p0 → CI E mX10_hasPlot k mem [aR 2, aI p0] (fun r2 m1 => ((¬ r2 = 0 → ((p1 = 0 → (0 ≤ p0 ∧ p0 < 10) ∧ Q (m1 6 p0) m1) ∧ (p1 = 1 → (0 ≤ p0 ∧ p0 < 10) ∧ Q (m1 7 p0) m1) ∧ (p1 = 2 → (0 ≤ p0 ∧ p0 < 10) ∧ Q (m1 8 p0) m1) ∧ (p1 = 3 → (0 ≤ p0 ∧ p0 < 10) ∧ Q (m1 9 p0) m1) ∧ (p1 = 4 → (R32 p0 → CI E mX10_movesOf k m1 [aR 2, aI p0] (fun r8 m7 => Q r8 m7))) ∧ (p1 = 5 → (R32 p0 → CI E mX10_digsOf k m1 [aR 2, aI p0] (fun r10 m9 => Q r10 m9))) ∧ (p1 < 0 ∨ 5 < p1 → Q (-1) m1))) ∧ (r2 = 0 → Q (-1) m1))))) :
    VM E mX11_of (k + 1) mem 0 [(0, aR 0), (1, aI p0), (2, aI p1)] [] (retI Q) := by
  refine v_aload_n (pc := 0) dX11_of_0 0 rfl ?_
  refine m_getfin (pc := 1) (v := 2) hE dX11_of_1 flX11_22 rfl at0 rfl ?_
  refine v_iload_n (pc := 4) dX11_of_4 1 rfl ?_
  refine m_invI (pc := 5) (mi' := mX10_hasPlot) (rest := []) [aI p0] dX11_of_5 (yd0 (show isYd 2 by unfold isYd; omega)) (by decide) rfl msX10_hasPlot mvX10_hasPlot lkX11_122 rfl (Nat.le_of_ble_eq_true rfl) (fun hn => CI_mono (h (aaI hn 1 rfl)) (fun r2 m1 h => ?_))
  refine v_ifne (pc := 8) (tgt := 13) dX11_of_8 (by decide) (fun c1 => ?_) (fun c1 => ?_)
  · have h := h.1 c1
    refine v_iload_n (pc := 13) dX11_of_13 2 rfl ?_
    rcases (show p1 = 0 ∨ p1 = 1 ∨ p1 = 2 ∨ p1 = 3 ∨ p1 = 4 ∨ p1 = 5 ∨ (p1 < 0 ∨ 5 < p1) by omega) with c1 | c1 | c1 | c1 | c1 | c1 | c1
    · have h := h.1 c1
      refine v_tabIn (pc := 14) (tgt := 52) dX11_of_14 (by omega) (by omega) (by rw [c1] <;> rfl) (by decide) ?_
      refine v_aload_n (pc := 52) dX11_of_52 0 rfl ?_
      refine m_getfin (pc := 53) (v := 2) hE dX11_of_53 flX11_22 rfl at0 rfl ?_
      refine m_getfin (pc := 56) (v := 6) hE dX11_of_56 flX11_125 rfl (yd0 (show isYd 2 by unfold isYd; omega)) rfl ?_
      refine v_iload_n (pc := 59) dX11_of_59 1 rfl ?_
      obtain ⟨o3, h⟩ := h
      refine m_iald (pc := 60) (v := (m1 6 p0)) dX11_of_60 (yd4 (show isYd 2 by unfold isYd; omega)) o3.1 o3.2 rfl ?_
      exact m_retI (pc := 61) dX11_of_61 rfl h
    · have h := h.2.1 c1
      refine v_tabIn (pc := 14) (tgt := 62) dX11_of_14 (by omega) (by omega) (by rw [c1] <;> rfl) (by decide) ?_
      refine v_aload_n (pc := 62) dX11_of_62 0 rfl ?_
      refine m_getfin (pc := 63) (v := 2) hE dX11_of_63 flX11_22 rfl at0 rfl ?_
      refine m_getfin (pc := 66) (v := 7) hE dX11_of_66 flX11_128 rfl (yd0 (show isYd 2 by unfold isYd; omega)) rfl ?_
      refine v_iload_n (pc := 69) dX11_of_69 1 rfl ?_
      obtain ⟨o4, h⟩ := h
      refine m_iald (pc := 70) (v := (m1 7 p0)) dX11_of_70 (yd5 (show isYd 2 by unfold isYd; omega)) o4.1 o4.2 rfl ?_
      exact m_retI (pc := 71) dX11_of_71 rfl h
    · have h := h.2.2.1 c1
      refine v_tabIn (pc := 14) (tgt := 72) dX11_of_14 (by omega) (by omega) (by rw [c1] <;> rfl) (by decide) ?_
      refine v_aload_n (pc := 72) dX11_of_72 0 rfl ?_
      refine m_getfin (pc := 73) (v := 2) hE dX11_of_73 flX11_22 rfl at0 rfl ?_
      refine m_getfin (pc := 76) (v := 8) hE dX11_of_76 flX11_131 rfl (yd0 (show isYd 2 by unfold isYd; omega)) rfl ?_
      refine v_iload_n (pc := 79) dX11_of_79 1 rfl ?_
      obtain ⟨o5, h⟩ := h
      refine m_iald (pc := 80) (v := (m1 8 p0)) dX11_of_80 (yd6 (show isYd 2 by unfold isYd; omega)) o5.1 o5.2 rfl ?_
      exact m_retI (pc := 81) dX11_of_81 rfl h
    · have h := h.2.2.2.1 c1
      refine v_tabIn (pc := 14) (tgt := 82) dX11_of_14 (by omega) (by omega) (by rw [c1] <;> rfl) (by decide) ?_
      refine v_aload_n (pc := 82) dX11_of_82 0 rfl ?_
      refine m_getfin (pc := 83) (v := 2) hE dX11_of_83 flX11_22 rfl at0 rfl ?_
      refine m_getfin (pc := 86) (v := 9) hE dX11_of_86 flX11_134 rfl (yd0 (show isYd 2 by unfold isYd; omega)) rfl ?_
      refine v_iload_n (pc := 89) dX11_of_89 1 rfl ?_
      obtain ⟨o6, h⟩ := h
      refine m_iald (pc := 90) (v := (m1 9 p0)) dX11_of_90 (yd7 (show isYd 2 by unfold isYd; omega)) o6.1 o6.2 rfl ?_
      exact m_retI (pc := 91) dX11_of_91 rfl h
    · have h := h.2.2.2.2.1 c1
      refine v_tabIn (pc := 14) (tgt := 92) dX11_of_14 (by omega) (by omega) (by rw [c1] <;> rfl) (by decide) ?_
      refine v_aload_n (pc := 92) dX11_of_92 0 rfl ?_
      refine m_getfin (pc := 93) (v := 2) hE dX11_of_93 flX11_22 rfl at0 rfl ?_
      refine v_iload_n (pc := 96) dX11_of_96 1 rfl ?_
      refine m_invI (pc := 97) (mi' := mX10_movesOf) (rest := []) [aI p0] dX11_of_97 (yd0 (show isYd 2 by unfold isYd; omega)) (by decide) rfl msX10_movesOf mvX10_movesOf lkX11_137 rfl (Nat.le_of_ble_eq_true rfl) (fun hn => CI_mono (h (aaI hn 1 rfl)) (fun r8 m7 h => ?_))
      exact m_retI (pc := 100) dX11_of_100 rfl h
    · have h := h.2.2.2.2.2.1 c1
      refine v_tabIn (pc := 14) (tgt := 101) dX11_of_14 (by omega) (by omega) (by rw [c1] <;> rfl) (by decide) ?_
      refine v_aload_n (pc := 101) dX11_of_101 0 rfl ?_
      refine m_getfin (pc := 102) (v := 2) hE dX11_of_102 flX11_22 rfl at0 rfl ?_
      refine v_iload_n (pc := 105) dX11_of_105 1 rfl ?_
      refine m_invI (pc := 106) (mi' := mX10_digsOf) (rest := []) [aI p0] dX11_of_106 (yd0 (show isYd 2 by unfold isYd; omega)) (by decide) rfl msX10_digsOf mvX10_digsOf lkX11_140 rfl (Nat.le_of_ble_eq_true rfl) (fun hn => CI_mono (h (aaI hn 1 rfl)) (fun r10 m9 h => ?_))
      exact m_retI (pc := 109) dX11_of_109 rfl h
    · have h := h.2.2.2.2.2.2 c1
      refine v_tabOut (pc := 14) (tgt := 110) dX11_of_14 c1 (by decide) ?_
      refine v_iconst (pc := 110) dX11_of_110 (by decide) ?_
      exact m_retI (pc := 111) dX11_of_111 rfl h
  · have h := h.2 c1
    refine v_iconst (pc := 11) dX11_of_11 (by decide) ?_
    exact m_retI (pc := 12) dX11_of_12 rfl h
theorem eX11_of {E : EN} {k : Nat} {mem : Mm} {Q : Int → Mm → Prop} {p0 p1 : Int} (hr_p0 : R32 p0) (hr_p1 : R32 p1) (h : VM E mX11_of (k + 1) mem 0 [(0, aR 0), (1, aI p0), (2, aI p1)] [] (retI Q)) : CI E mX11_of (k + 1) mem [aR 0, aI p0, aI p1] Q := CI_of rfl (Nat.le_of_ble_eq_true rfl) h (aNs_c (aNr_R _) (aNs_c (aNr_I hr_p0) (aNs_c (aNr_I hr_p1) (fun _ q => nomatch q))))

theorem dX11_goes_0 : decode cX11_goes 0 = .ok (.aload_n 0, 1) := by decide +kernel
theorem dX11_goes_1 : decode cX11_goes 1 = .ok (.getfield 22, 3) := by decide +kernel
theorem dX11_goes_4 : decode cX11_goes 4 = .ok (.iload_n 1, 1) := by decide +kernel
theorem dX11_goes_5 : decode cX11_goes 5 = .ok (.invokevirtual 122, 3) := by decide +kernel
theorem dX11_goes_8 : decode cX11_goes 8 = .ok (.ifCond .eq 10, 3) := by decide +kernel
theorem dX11_goes_11 : decode cX11_goes 11 = .ok (.iload_n 2, 1) := by decide +kernel
theorem dX11_goes_12 : decode cX11_goes 12 = .ok (.invokestatic 85, 3) := by decide +kernel
theorem dX11_goes_15 : decode cX11_goes 15 = .ok (.ifCond .ne 5, 3) := by decide +kernel
theorem dX11_goes_18 : decode cX11_goes 18 = .ok (.iconst (-1), 1) := by decide +kernel
theorem dX11_goes_19 : decode cX11_goes 19 = .ok (.ireturn, 1) := by decide +kernel
theorem dX11_goes_20 : decode cX11_goes 20 = .ok (.aload_n 0, 1) := by decide +kernel
theorem dX11_goes_21 : decode cX11_goes 21 = .ok (.getfield 22, 3) := by decide +kernel
theorem dX11_goes_24 : decode cX11_goes 24 = .ok (.iload_n 1, 1) := by decide +kernel
theorem dX11_goes_25 : decode cX11_goes 25 = .ok (.iload_n 2, 1) := by decide +kernel
theorem dX11_goes_26 : decode cX11_goes 26 = .ok (.invokevirtual 143, 3) := by decide +kernel
theorem dX11_goes_29 : decode cX11_goes 29 = .ok (.ifCond .eq 7, 3) := by decide +kernel
theorem dX11_goes_32 : decode cX11_goes 32 = .ok (.iconst 1, 1) := by decide +kernel
theorem dX11_goes_33 : decode cX11_goes 33 = .ok (.goto 4, 3) := by decide +kernel
theorem dX11_goes_36 : decode cX11_goes 36 = .ok (.iconst 0, 1) := by decide +kernel
theorem dX11_goes_37 : decode cX11_goes 37 = .ok (.ireturn, 1) := by decide +kernel
set_option maxRecDepth 20000 in
theorem rX11_goes_0 {E : EN} (hE : Ep E) {k : Nat} {mem : Mm} {Q : Int → Mm → Prop} {p0 p1 : Int}
    (h : (R32 p0 → CI E mX10_hasPlot k mem [aR 2, aI p0] (fun r2 m1 => ((r2 = 0 → Q (-1) m1) ∧ (¬ r2 = 0 → (R32 p1 → CI E mX11_isCell k m1 [aI p1] (fun r4 m3 => ((¬ r4 = 0 → (R32 p0 → R32 p1 → CI E mX10_mayGo k m3 [aR 2, aI p0, aI p1] (fun r6 m5 => ((r6 = 0 → Q 0 m5) ∧ (¬ r6 = 0 → Q 1 m5))))) ∧ (r4 = 0 → Q (-1) m3))))))))) :
    VM E mX11_goes (k + 1) mem 0 [(0, aR 0), (1, aI p0), (2, aI p1)] [] (retI Q) := by
  refine v_aload_n (pc := 0) dX11_goes_0 0 rfl ?_
  refine m_getfin (pc := 1) (v := 2) hE dX11_goes_1 flX11_22 rfl at0 rfl ?_
  refine v_iload_n (pc := 4) dX11_goes_4 1 rfl ?_
  refine m_invI (pc := 5) (mi' := mX10_hasPlot) (rest := []) [aI p0] dX11_goes_5 (yd0 (show isYd 2 by unfold isYd; omega)) (by decide) rfl msX10_hasPlot mvX10_hasPlot lkX11_122 rfl (Nat.le_of_ble_eq_true rfl) (fun hn => CI_mono (h (aaI hn 1 rfl)) (fun r2 m1 h => ?_))
  refine v_ifeq (pc := 8) (tgt := 18) dX11_goes_8 (by decide) (fun c1 => ?_) (fun c1 => ?_)
  · have h := h.1 c1
    refine v_iconst (pc := 18) dX11_goes_18 (by decide) ?_
    exact m_retI (pc := 19) dX11_goes_19 rfl h
  · have h := h.2 c1
    refine v_iload_n (pc := 11) dX11_goes_11 2 rfl ?_
    refine m_invSI (pc := 12) (mi' := mX11_isCell) (rest := []) [aI p1] dX11_goes_12 msX11_isCell stX11_isCell lkX11_85 rfl (Nat.le_of_ble_eq_true rfl) (fun hn => CI_mono (h (aaI hn 0 rfl)) (fun r4 m3 h => ?_))
    refine v_ifne (pc := 15) (tgt := 20) dX11_goes_15 (by decide) (fun c1 => ?_) (fun c1 => ?_)
    · have h := h.1 c1
      refine v_aload_n (pc := 20) dX11_goes_20 0 rfl ?_
      refine m_getfin (pc := 21) (v := 2) hE dX11_goes_21 flX11_22 rfl at0 rfl ?_
      refine v_iload_n (pc := 24) dX11_goes_24 1 rfl ?_
      refine v_iload_n (pc := 25) dX11_goes_25 2 rfl ?_
      refine m_invI (pc := 26) (mi' := mX10_mayGo) (rest := []) [aI p0, aI p1] dX11_goes_26 (yd0 (show isYd 2 by unfold isYd; omega)) (by decide) rfl msX10_mayGo mvX10_mayGo lkX11_143 rfl (Nat.le_of_ble_eq_true rfl) (fun hn => CI_mono (h (aaI hn 1 rfl) (aaI hn 2 rfl)) (fun r6 m5 h => ?_))
      refine v_ifeq (pc := 29) (tgt := 36) dX11_goes_29 (by decide) (fun c1 => ?_) (fun c1 => ?_)
      · have h := h.1 c1
        refine v_iconst (pc := 36) dX11_goes_36 (by decide) ?_
        exact m_retI (pc := 37) dX11_goes_37 rfl h
      · have h := h.2 c1
        refine v_iconst (pc := 32) dX11_goes_32 (by decide) ?_
        refine v_goto (pc := 33) (tgt := 37) dX11_goes_33 (by decide) ?_
        exact m_retI (pc := 37) dX11_goes_37 rfl h
    · have h := h.2 c1
      refine v_iconst (pc := 18) dX11_goes_18 (by decide) ?_
      exact m_retI (pc := 19) dX11_goes_19 rfl h
theorem eX11_goes {E : EN} {k : Nat} {mem : Mm} {Q : Int → Mm → Prop} {p0 p1 : Int} (hr_p0 : R32 p0) (hr_p1 : R32 p1) (h : VM E mX11_goes (k + 1) mem 0 [(0, aR 0), (1, aI p0), (2, aI p1)] [] (retI Q)) : CI E mX11_goes (k + 1) mem [aR 0, aI p0, aI p1] Q := CI_of rfl (Nat.le_of_ble_eq_true rfl) h (aNs_c (aNr_R _) (aNs_c (aNr_I hr_p0) (aNs_c (aNr_I hr_p1) (fun _ q => nomatch q))))

theorem dX11_barred_0 : decode cX11_barred 0 = .ok (.iload_n 1, 1) := by decide +kernel
theorem dX11_barred_1 : decode cX11_barred 1 = .ok (.invokestatic 146, 3) := by decide +kernel
theorem dX11_barred_4 : decode cX11_barred 4 = .ok (.ifCond .eq 10, 3) := by decide +kernel
theorem dX11_barred_7 : decode cX11_barred 7 = .ok (.iload_n 2, 1) := by decide +kernel
theorem dX11_barred_8 : decode cX11_barred 8 = .ok (.invokestatic 85, 3) := by decide +kernel
theorem dX11_barred_11 : decode cX11_barred 11 = .ok (.ifCond .ne 5, 3) := by decide +kernel
theorem dX11_barred_14 : decode cX11_barred 14 = .ok (.iconst (-1), 1) := by decide +kernel
theorem dX11_barred_15 : decode cX11_barred 15 = .ok (.ireturn, 1) := by decide +kernel
theorem dX11_barred_16 : decode cX11_barred 16 = .ok (.aload_n 0, 1) := by decide +kernel
theorem dX11_barred_17 : decode cX11_barred 17 = .ok (.getfield 22, 3) := by decide +kernel
theorem dX11_barred_20 : decode cX11_barred 20 = .ok (.iload_n 1, 1) := by decide +kernel
theorem dX11_barred_21 : decode cX11_barred 21 = .ok (.iload_n 2, 1) := by decide +kernel
theorem dX11_barred_22 : decode cX11_barred 22 = .ok (.invokevirtual 149, 3) := by decide +kernel
theorem dX11_barred_25 : decode cX11_barred 25 = .ok (.ifCond .eq 7, 3) := by decide +kernel
theorem dX11_barred_28 : decode cX11_barred 28 = .ok (.iconst 1, 1) := by decide +kernel
theorem dX11_barred_29 : decode cX11_barred 29 = .ok (.goto 4, 3) := by decide +kernel
theorem dX11_barred_32 : decode cX11_barred 32 = .ok (.iconst 0, 1) := by decide +kernel
theorem dX11_barred_33 : decode cX11_barred 33 = .ok (.ireturn, 1) := by decide +kernel
set_option maxRecDepth 20000 in
theorem rX11_barred_0 {E : EN} (hE : Ep E) {k : Nat} {mem : Mm} {Q : Int → Mm → Prop} {p0 p1 : Int}
    (h : (R32 p0 → CI E mX11_isFamily k mem [aI p0] (fun r2 m1 => ((r2 = 0 → Q (-1) m1) ∧ (¬ r2 = 0 → (R32 p1 → CI E mX11_isCell k m1 [aI p1] (fun r4 m3 => ((¬ r4 = 0 → (R32 p0 → R32 p1 → CI E mX10_isBarred k m3 [aR 2, aI p0, aI p1] (fun r6 m5 => ((r6 = 0 → Q 0 m5) ∧ (¬ r6 = 0 → Q 1 m5))))) ∧ (r4 = 0 → Q (-1) m3))))))))) :
    VM E mX11_barred (k + 1) mem 0 [(0, aR 0), (1, aI p0), (2, aI p1)] [] (retI Q) := by
  refine v_iload_n (pc := 0) dX11_barred_0 1 rfl ?_
  refine m_invSI (pc := 1) (mi' := mX11_isFamily) (rest := []) [aI p0] dX11_barred_1 msX11_isFamily stX11_isFamily lkX11_146 rfl (Nat.le_of_ble_eq_true rfl) (fun hn => CI_mono (h (aaI hn 0 rfl)) (fun r2 m1 h => ?_))
  refine v_ifeq (pc := 4) (tgt := 14) dX11_barred_4 (by decide) (fun c1 => ?_) (fun c1 => ?_)
  · have h := h.1 c1
    refine v_iconst (pc := 14) dX11_barred_14 (by decide) ?_
    exact m_retI (pc := 15) dX11_barred_15 rfl h
  · have h := h.2 c1
    refine v_iload_n (pc := 7) dX11_barred_7 2 rfl ?_
    refine m_invSI (pc := 8) (mi' := mX11_isCell) (rest := []) [aI p1] dX11_barred_8 msX11_isCell stX11_isCell lkX11_85 rfl (Nat.le_of_ble_eq_true rfl) (fun hn => CI_mono (h (aaI hn 0 rfl)) (fun r4 m3 h => ?_))
    refine v_ifne (pc := 11) (tgt := 16) dX11_barred_11 (by decide) (fun c1 => ?_) (fun c1 => ?_)
    · have h := h.1 c1
      refine v_aload_n (pc := 16) dX11_barred_16 0 rfl ?_
      refine m_getfin (pc := 17) (v := 2) hE dX11_barred_17 flX11_22 rfl at0 rfl ?_
      refine v_iload_n (pc := 20) dX11_barred_20 1 rfl ?_
      refine v_iload_n (pc := 21) dX11_barred_21 2 rfl ?_
      refine m_invI (pc := 22) (mi' := mX10_isBarred) (rest := []) [aI p0, aI p1] dX11_barred_22 (yd0 (show isYd 2 by unfold isYd; omega)) (by decide) rfl msX10_isBarred mvX10_isBarred lkX11_149 rfl (Nat.le_of_ble_eq_true rfl) (fun hn => CI_mono (h (aaI hn 1 rfl) (aaI hn 2 rfl)) (fun r6 m5 h => ?_))
      refine v_ifeq (pc := 25) (tgt := 32) dX11_barred_25 (by decide) (fun c1 => ?_) (fun c1 => ?_)
      · have h := h.1 c1
        refine v_iconst (pc := 32) dX11_barred_32 (by decide) ?_
        exact m_retI (pc := 33) dX11_barred_33 rfl h
      · have h := h.2 c1
        refine v_iconst (pc := 28) dX11_barred_28 (by decide) ?_
        refine v_goto (pc := 29) (tgt := 33) dX11_barred_29 (by decide) ?_
        exact m_retI (pc := 33) dX11_barred_33 rfl h
    · have h := h.2 c1
      refine v_iconst (pc := 14) dX11_barred_14 (by decide) ?_
      exact m_retI (pc := 15) dX11_barred_15 rfl h
theorem eX11_barred {E : EN} {k : Nat} {mem : Mm} {Q : Int → Mm → Prop} {p0 p1 : Int} (hr_p0 : R32 p0) (hr_p1 : R32 p1) (h : VM E mX11_barred (k + 1) mem 0 [(0, aR 0), (1, aI p0), (2, aI p1)] [] (retI Q)) : CI E mX11_barred (k + 1) mem [aR 0, aI p0, aI p1] Q := CI_of rfl (Nat.le_of_ble_eq_true rfl) h (aNs_c (aNr_R _) (aNs_c (aNr_I hr_p0) (aNs_c (aNr_I hr_p1) (fun _ q => nomatch q))))

theorem dX11_terms_0 : decode cX11_terms 0 = .ok (.iload_n 1, 1) := by decide +kernel
theorem dX11_terms_1 : decode cX11_terms 1 = .ok (.iload_n 2, 1) := by decide +kernel
theorem dX11_terms_2 : decode cX11_terms 2 = .ok (.invokestatic 152, 3) := by decide +kernel
theorem dX11_terms_5 : decode cX11_terms 5 = .ok (.ifCond .ne 9, 3) := by decide +kernel
theorem dX11_terms_8 : decode cX11_terms 8 = .ok (.aload_n 0, 1) := by decide +kernel
theorem dX11_terms_9 : decode cX11_terms 9 = .ok (.iconst (-1), 1) := by decide +kernel
theorem dX11_terms_10 : decode cX11_terms 10 = .ok (.invokevirtual 93, 3) := by decide +kernel
theorem dX11_terms_13 : decode cX11_terms 13 = .ok (.ireturn, 1) := by decide +kernel
theorem dX11_terms_14 : decode cX11_terms 14 = .ok (.aload_n 0, 1) := by decide +kernel
theorem dX11_terms_15 : decode cX11_terms 15 = .ok (.getfield 22, 3) := by decide +kernel
theorem dX11_terms_18 : decode cX11_terms 18 = .ok (.getfield 155, 3) := by decide +kernel
theorem dX11_terms_21 : decode cX11_terms 21 = .ok (.iload_n 1, 1) := by decide +kernel
theorem dX11_terms_22 : decode cX11_terms 22 = .ok (.iaload, 1) := by decide +kernel
theorem dX11_terms_23 : decode cX11_terms 23 = .ok (.istore_n 3, 1) := by decide +kernel
theorem dX11_terms_24 : decode cX11_terms 24 = .ok (.aload_n 0, 1) := by decide +kernel
theorem dX11_terms_25 : decode cX11_terms 25 = .ok (.getfield 27, 3) := by decide +kernel
theorem dX11_terms_28 : decode cX11_terms 28 = .ok (.iconst 0, 1) := by decide +kernel
theorem dX11_terms_29 : decode cX11_terms 29 = .ok (.putfield 107, 3) := by decide +kernel
theorem dX11_terms_32 : decode cX11_terms 32 = .ok (.aload_n 0, 1) := by decide +kernel
theorem dX11_terms_33 : decode cX11_terms 33 = .ok (.getfield 22, 3) := by decide +kernel
theorem dX11_terms_36 : decode cX11_terms 36 = .ok (.getfield 155, 3) := by decide +kernel
theorem dX11_terms_39 : decode cX11_terms 39 = .ok (.iload_n 1, 1) := by decide +kernel
theorem dX11_terms_40 : decode cX11_terms 40 = .ok (.iload_n 2, 1) := by decide +kernel
theorem dX11_terms_41 : decode cX11_terms 41 = .ok (.iastore, 1) := by decide +kernel
theorem dX11_terms_42 : decode cX11_terms 42 = .ok (.aload_n 0, 1) := by decide +kernel
theorem dX11_terms_43 : decode cX11_terms 43 = .ok (.iload_n 3, 1) := by decide +kernel
theorem dX11_terms_44 : decode cX11_terms 44 = .ok (.invokevirtual 116, 3) := by decide +kernel
theorem dX11_terms_47 : decode cX11_terms 47 = .ok (.ireturn, 1) := by decide +kernel
set_option maxRecDepth 20000 in
theorem rX11_terms_0 {E : EN} (hE : Ep E) {k : Nat} {mem : Mm} {Q : Int → Mm → Prop} {p0 p1 : Int}
    (h : (R32 p0 → R32 p1 → CI E mX11_isTerm k mem [aI p0, aI p1] (fun r2 m1 => ((¬ r2 = 0 → (0 ≤ p0 ∧ p0 < 4) ∧ (R32 (m1 10 p0) → CI E mX11_granted k (aUp (aUp m1 12 2 0) 10 p0 p1) [aR 0, aI (m1 10 p0)] (fun r5 m4 => Q r5 m4))) ∧ (r2 = 0 → (CI E mX11_refused k m1 [aR 0, aI (-1)] (fun r7 m6 => Q r7 m6))))))) :
    VM E mX11_terms (k + 1) mem 0 [(0, aR 0), (1, aI p0), (2, aI p1)] [] (retI Q) := by
  refine v_iload_n (pc := 0) dX11_terms_0 1 rfl ?_
  refine v_iload_n (pc := 1) dX11_terms_1 2 rfl ?_
  refine m_invSI (pc := 2) (mi' := mX11_isTerm) (rest := []) [aI p0, aI p1] dX11_terms_2 msX11_isTerm stX11_isTerm lkX11_152 rfl (Nat.le_of_ble_eq_true rfl) (fun hn => CI_mono (h (aaI hn 0 rfl) (aaI hn 1 rfl)) (fun r2 m1 h => ?_))
  refine v_ifne (pc := 5) (tgt := 14) dX11_terms_5 (by decide) (fun c1 => ?_) (fun c1 => ?_)
  · have h := h.1 c1
    refine v_aload_n (pc := 14) dX11_terms_14 0 rfl ?_
    refine m_getfin (pc := 15) (v := 2) hE dX11_terms_15 flX11_22 rfl at0 rfl ?_
    refine m_getfin (pc := 18) (v := 10) hE dX11_terms_18 flX11_155 rfl (yd0 (show isYd 2 by unfold isYd; omega)) rfl ?_
    refine v_iload_n (pc := 21) dX11_terms_21 1 rfl ?_
    obtain ⟨o3, h⟩ := h
    refine m_iald (pc := 22) (v := (m1 10 p0)) dX11_terms_22 (yd8 (show isYd 2 by unfold isYd; omega)) o3.1 o3.2 rfl ?_
    refine v_istore_n (pc := 23) (al2 := [(3, aI (m1 10 p0)), (0, aR 0), (1, aI p0), (2, aI p1)]) dX11_terms_23 (by decide) rfl ?_
    refine v_aload_n (pc := 24) dX11_terms_24 1 rfl ?_
    refine m_getfin (pc := 25) (v := 12) hE dX11_terms_25 flX11_27 rfl at0 rfl ?_
    refine v_iconst (pc := 28) dX11_terms_28 (by decide) ?_
    refine v_putf (pc := 29) dX11_terms_29 flX11_107 ⟨_, _, rfl, Or.inl rfl⟩ rfl (by decide) (fun q => nomatch q) (Or.inl fun _ => rfl) (pt0 (show isPt 12 by unfold isPt; omega)) ?_
    refine v_aload_n (pc := 32) dX11_terms_32 1 rfl ?_
    refine m_getfin (pc := 33) (v := 2) hE dX11_terms_33 flX11_22 rfl at0 rfl ?_
    refine m_getfin (pc := 36) (v := 10) hE dX11_terms_36 flX11_155 rfl (yd0 (show isYd 2 by unfold isYd; omega)) rfl ?_
    refine v_iload_n (pc := 39) dX11_terms_39 2 rfl ?_
    refine v_iload_n (pc := 40) dX11_terms_40 3 rfl ?_
    refine v_iast (pc := 41) dX11_terms_41 (yd8 (show isYd 2 by unfold isYd; omega)) o3.1 o3.2 ?_
    refine v_aload_n (pc := 42) dX11_terms_42 1 rfl ?_
    refine v_iload_n (pc := 43) dX11_terms_43 0 rfl ?_
    refine m_invI (pc := 44) (mi' := mX11_granted) (rest := []) [aI (m1 10 p0)] dX11_terms_44 at0 (by decide) rfl msX11_granted mvX11_granted lkX11_116 rfl (Nat.le_of_ble_eq_true rfl) (fun hn => CI_mono (h (aaI hn 1 rfl)) (fun r5 m4 h => ?_))
    exact m_retI (pc := 47) dX11_terms_47 rfl h
  · have h := h.2 c1
    refine v_aload_n (pc := 8) dX11_terms_8 0 rfl ?_
    refine v_iconst (pc := 9) dX11_terms_9 (by decide) ?_
    refine m_invI (pc := 10) (mi' := mX11_refused) (rest := []) [aI (-1)] dX11_terms_10 at0 (by decide) rfl msX11_refused mvX11_refused lkX11_93 rfl (Nat.le_of_ble_eq_true rfl) (fun hn => CI_mono (h) (fun r7 m6 h => ?_))
    exact m_retI (pc := 13) dX11_terms_13 rfl h
theorem eX11_terms {E : EN} {k : Nat} {mem : Mm} {Q : Int → Mm → Prop} {p0 p1 : Int} (hr_p0 : R32 p0) (hr_p1 : R32 p1) (h : VM E mX11_terms (k + 1) mem 0 [(0, aR 0), (1, aI p0), (2, aI p1)] [] (retI Q)) : CI E mX11_terms (k + 1) mem [aR 0, aI p0, aI p1] Q := CI_of rfl (Nat.le_of_ble_eq_true rfl) h (aNs_c (aNr_R _) (aNs_c (aNr_I hr_p0) (aNs_c (aNr_I hr_p1) (fun _ q => nomatch q))))

theorem dX11_feed_0 : decode cX11_feed 0 = .ok (.aload_n 0, 1) := by decide +kernel
theorem dX11_feed_1 : decode cX11_feed 1 = .ok (.getfield 73, 3) := by decide +kernel
theorem dX11_feed_4 : decode cX11_feed 4 = .ok (.getfield 158, 3) := by decide +kernel
theorem dX11_feed_7 : decode cX11_feed 7 = .ok (.sipush 380, 3) := by decide +kernel
theorem dX11_feed_10 : decode cX11_feed 10 = .ok (.if_icmp .le 5, 3) := by decide +kernel
theorem dX11_feed_13 : decode cX11_feed 13 = .ok (.iconst (-1), 1) := by decide +kernel
theorem dX11_feed_14 : decode cX11_feed 14 = .ok (.ireturn, 1) := by decide +kernel
theorem dX11_feed_15 : decode cX11_feed 15 = .ok (.aload_n 0, 1) := by decide +kernel
theorem dX11_feed_16 : decode cX11_feed 16 = .ok (.getfield 73, 3) := by decide +kernel
theorem dX11_feed_19 : decode cX11_feed 19 = .ok (.iload_n 1, 1) := by decide +kernel
theorem dX11_feed_20 : decode cX11_feed 20 = .ok (.invokevirtual 161, 3) := by decide +kernel
theorem dX11_feed_23 : decode cX11_feed 23 = .ok (.aload_n 0, 1) := by decide +kernel
theorem dX11_feed_24 : decode cX11_feed 24 = .ok (.getfield 73, 3) := by decide +kernel
theorem dX11_feed_27 : decode cX11_feed 27 = .ok (.iload_n 2, 1) := by decide +kernel
theorem dX11_feed_28 : decode cX11_feed 28 = .ok (.invokevirtual 161, 3) := by decide +kernel
theorem dX11_feed_31 : decode cX11_feed 31 = .ok (.aload_n 0, 1) := by decide +kernel
theorem dX11_feed_32 : decode cX11_feed 32 = .ok (.getfield 73, 3) := by decide +kernel
theorem dX11_feed_35 : decode cX11_feed 35 = .ok (.iload_n 3, 1) := by decide +kernel
theorem dX11_feed_36 : decode cX11_feed 36 = .ok (.invokevirtual 161, 3) := by decide +kernel
theorem dX11_feed_39 : decode cX11_feed 39 = .ok (.aload_n 0, 1) := by decide +kernel
theorem dX11_feed_40 : decode cX11_feed 40 = .ok (.getfield 73, 3) := by decide +kernel
theorem dX11_feed_43 : decode cX11_feed 43 = .ok (.iload 4, 2) := by decide +kernel
theorem dX11_feed_45 : decode cX11_feed 45 = .ok (.invokevirtual 161, 3) := by decide +kernel
theorem dX11_feed_48 : decode cX11_feed 48 = .ok (.aload_n 0, 1) := by decide +kernel
theorem dX11_feed_49 : decode cX11_feed 49 = .ok (.getfield 73, 3) := by decide +kernel
theorem dX11_feed_52 : decode cX11_feed 52 = .ok (.iload 5, 2) := by decide +kernel
theorem dX11_feed_54 : decode cX11_feed 54 = .ok (.invokevirtual 161, 3) := by decide +kernel
theorem dX11_feed_57 : decode cX11_feed 57 = .ok (.aload_n 0, 1) := by decide +kernel
theorem dX11_feed_58 : decode cX11_feed 58 = .ok (.getfield 73, 3) := by decide +kernel
theorem dX11_feed_61 : decode cX11_feed 61 = .ok (.getfield 158, 3) := by decide +kernel
theorem dX11_feed_64 : decode cX11_feed 64 = .ok (.ireturn, 1) := by decide +kernel
set_option maxRecDepth 20000 in
theorem rX11_feed_0 {E : EN} (hE : Ep E) {k : Nat} {mem : Mm} {Q : Int → Mm → Prop} {p0 p1 p2 p3 p4 : Int}
    (h : (((mem 591 2) ≤ 380 → (R32 p0 → CV E mX7_append k mem [aR 591, aI p0] (fun m1 => (R32 p1 → CV E mX7_append k m1 [aR 591, aI p1] (fun m2 => (R32 p2 → CV E mX7_append k m2 [aR 591, aI p2] (fun m3 => (R32 p3 → CV E mX7_append k m3 [aR 591, aI p3] (fun m4 => (R32 p4 → CV E mX7_append k m4 [aR 591, aI p4] (fun m5 => Q (m5 591 2) m5))))))))))) ∧ (380 < (mem 591 2) → Q (-1) mem))) :
    VM E mX11_feed (k + 1) mem 0 [(0, aR 0), (1, aI p0), (2, aI p1), (3, aI p2), (4, aI p3), (5, aI p4)] [] (retI Q) := by
  refine v_aload_n (pc := 0) dX11_feed_0 0 rfl ?_
  refine m_getfin (pc := 1) (v := 591) hE dX11_feed_1 flX11_73 rfl at0 rfl ?_
  refine m_getf (pc := 4) (t := 0) (v := (mem 591 2)) dX11_feed_4 flX11_158 rfl at591 rfl ?_
  refine v_sipush (pc := 7) dX11_feed_7 (by decide) ?_
  refine v_icmple (pc := 10) (tgt := 15) dX11_feed_10 (by decide) (fun c1 => ?_) (fun c1 => ?_)
  · have h := h.1 c1
    refine v_aload_n (pc := 15) dX11_feed_15 0 rfl ?_
    refine m_getfin (pc := 16) (v := 591) hE dX11_feed_16 flX11_73 rfl at0 rfl ?_
    refine v_iload_n (pc := 19) dX11_feed_19 1 rfl ?_
    refine m_invV (pc := 20) (mi' := mX7_append) (rest := []) [aI p0] dX11_feed_20 at591 (by decide) rfl msX7_append mvX7_append lkX11_161 rfl (Nat.le_of_ble_eq_true rfl) (fun hn => CV_mono (h (aaI hn 1 rfl)) (fun m1 h => ?_))
    refine v_aload_n (pc := 23) dX11_feed_23 0 rfl ?_
    refine m_getfin (pc := 24) (v := 591) hE dX11_feed_24 flX11_73 rfl at0 rfl ?_
    refine v_iload_n (pc := 27) dX11_feed_27 2 rfl ?_
    refine m_invV (pc := 28) (mi' := mX7_append) (rest := []) [aI p1] dX11_feed_28 at591 (by decide) rfl msX7_append mvX7_append lkX11_161 rfl (Nat.le_of_ble_eq_true rfl) (fun hn => CV_mono (h (aaI hn 1 rfl)) (fun m2 h => ?_))
    refine v_aload_n (pc := 31) dX11_feed_31 0 rfl ?_
    refine m_getfin (pc := 32) (v := 591) hE dX11_feed_32 flX11_73 rfl at0 rfl ?_
    refine v_iload_n (pc := 35) dX11_feed_35 3 rfl ?_
    refine m_invV (pc := 36) (mi' := mX7_append) (rest := []) [aI p2] dX11_feed_36 at591 (by decide) rfl msX7_append mvX7_append lkX11_161 rfl (Nat.le_of_ble_eq_true rfl) (fun hn => CV_mono (h (aaI hn 1 rfl)) (fun m3 h => ?_))
    refine v_aload_n (pc := 39) dX11_feed_39 0 rfl ?_
    refine m_getfin (pc := 40) (v := 591) hE dX11_feed_40 flX11_73 rfl at0 rfl ?_
    refine v_iload (pc := 43) dX11_feed_43 4 rfl ?_
    refine m_invV (pc := 45) (mi' := mX7_append) (rest := []) [aI p3] dX11_feed_45 at591 (by decide) rfl msX7_append mvX7_append lkX11_161 rfl (Nat.le_of_ble_eq_true rfl) (fun hn => CV_mono (h (aaI hn 1 rfl)) (fun m4 h => ?_))
    refine v_aload_n (pc := 48) dX11_feed_48 0 rfl ?_
    refine m_getfin (pc := 49) (v := 591) hE dX11_feed_49 flX11_73 rfl at0 rfl ?_
    refine v_iload (pc := 52) dX11_feed_52 5 rfl ?_
    refine m_invV (pc := 54) (mi' := mX7_append) (rest := []) [aI p4] dX11_feed_54 at591 (by decide) rfl msX7_append mvX7_append lkX11_161 rfl (Nat.le_of_ble_eq_true rfl) (fun hn => CV_mono (h (aaI hn 1 rfl)) (fun m5 h => ?_))
    refine v_aload_n (pc := 57) dX11_feed_57 0 rfl ?_
    refine m_getfin (pc := 58) (v := 591) hE dX11_feed_58 flX11_73 rfl at0 rfl ?_
    refine m_getf (pc := 61) (t := 0) (v := (m5 591 2)) dX11_feed_61 flX11_158 rfl at591 rfl ?_
    exact m_retI (pc := 64) dX11_feed_64 rfl h
  · have h := h.2 c1
    refine v_iconst (pc := 13) dX11_feed_13 (by decide) ?_
    exact m_retI (pc := 14) dX11_feed_14 rfl h
theorem eX11_feed {E : EN} {k : Nat} {mem : Mm} {Q : Int → Mm → Prop} {p0 p1 p2 p3 p4 : Int} (hr_p0 : R32 p0) (hr_p1 : R32 p1) (hr_p2 : R32 p2) (hr_p3 : R32 p3) (hr_p4 : R32 p4) (h : VM E mX11_feed (k + 1) mem 0 [(0, aR 0), (1, aI p0), (2, aI p1), (3, aI p2), (4, aI p3), (5, aI p4)] [] (retI Q)) : CI E mX11_feed (k + 1) mem [aR 0, aI p0, aI p1, aI p2, aI p3, aI p4] Q := CI_of rfl (Nat.le_of_ble_eq_true rfl) h (aNs_c (aNr_R _) (aNs_c (aNr_I hr_p0) (aNs_c (aNr_I hr_p1) (aNs_c (aNr_I hr_p2) (aNs_c (aNr_I hr_p3) (aNs_c (aNr_I hr_p4) (fun _ q => nomatch q)))))))

theorem dX11_end_0 : decode cX11_end 0 = .ok (.iload_n 1, 1) := by decide +kernel
theorem dX11_end_1 : decode cX11_end 1 = .ok (.ifCond .lt 14, 3) := by decide +kernel
theorem dX11_end_4 : decode cX11_end 4 = .ok (.iload_n 1, 1) := by decide +kernel
theorem dX11_end_5 : decode cX11_end 5 = .ok (.aload_n 0, 1) := by decide +kernel
theorem dX11_end_6 : decode cX11_end 6 = .ok (.getfield 73, 3) := by decide +kernel
theorem dX11_end_9 : decode cX11_end 9 = .ok (.getfield 158, 3) := by decide +kernel
theorem dX11_end_12 : decode cX11_end 12 = .ok (.if_icmp .le 5, 3) := by decide +kernel
theorem dX11_end_15 : decode cX11_end 15 = .ok (.iconst (-1), 1) := by decide +kernel
theorem dX11_end_16 : decode cX11_end 16 = .ok (.ireturn, 1) := by decide +kernel
theorem dX11_end_17 : decode cX11_end 17 = .ok (.aload_n 0, 1) := by decide +kernel
theorem dX11_end_18 : decode cX11_end 18 = .ok (.getfield 73, 3) := by decide +kernel
theorem dX11_end_21 : decode cX11_end 21 = .ok (.iload_n 1, 1) := by decide +kernel
theorem dX11_end_22 : decode cX11_end 22 = .ok (.putfield 158, 3) := by decide +kernel
theorem dX11_end_25 : decode cX11_end 25 = .ok (.iload_n 1, 1) := by decide +kernel
theorem dX11_end_26 : decode cX11_end 26 = .ok (.ireturn, 1) := by decide +kernel
set_option maxRecDepth 20000 in
theorem rX11_end_0 {E : EN} (hE : Ep E) {k : Nat} {mem : Mm} {Q : Int → Mm → Prop} {p0 : Int}
    (h : ((p0 < 0 → Q (-1) mem) ∧ (0 ≤ p0 → ((p0 ≤ (mem 591 2) → Q p0 (aUp mem 591 2 p0)) ∧ ((mem 591 2) < p0 → Q (-1) mem))))) :
    VM E mX11_end k mem 0 [(0, aR 0), (1, aI p0)] [] (retI Q) := by
  refine v_iload_n (pc := 0) dX11_end_0 1 rfl ?_
  refine v_iflt (pc := 1) (tgt := 15) dX11_end_1 (by decide) (fun c1 => ?_) (fun c1 => ?_)
  · have h := h.1 c1
    refine v_iconst (pc := 15) dX11_end_15 (by decide) ?_
    exact m_retI (pc := 16) dX11_end_16 rfl h
  · have h := h.2 c1
    refine v_iload_n (pc := 4) dX11_end_4 1 rfl ?_
    refine v_aload_n (pc := 5) dX11_end_5 0 rfl ?_
    refine m_getfin (pc := 6) (v := 591) hE dX11_end_6 flX11_73 rfl at0 rfl ?_
    refine m_getf (pc := 9) (t := 0) (v := (mem 591 2)) dX11_end_9 flX11_158 rfl at591 rfl ?_
    refine v_icmple (pc := 12) (tgt := 17) dX11_end_12 (by decide) (fun c1 => ?_) (fun c1 => ?_)
    · have h := h.1 c1
      refine v_aload_n (pc := 17) dX11_end_17 0 rfl ?_
      refine m_getfin (pc := 18) (v := 591) hE dX11_end_18 flX11_73 rfl at0 rfl ?_
      refine v_iload_n (pc := 21) dX11_end_21 1 rfl ?_
      refine v_putf (pc := 22) dX11_end_22 flX11_158 ⟨_, _, rfl, Or.inl rfl⟩ rfl (by decide) (fun q => nomatch q) (Or.inl fun _ => rfl) at591 ?_
      refine v_iload_n (pc := 25) dX11_end_25 1 rfl ?_
      exact m_retI (pc := 26) dX11_end_26 rfl h
    · have h := h.2 c1
      refine v_iconst (pc := 15) dX11_end_15 (by decide) ?_
      exact m_retI (pc := 16) dX11_end_16 rfl h
theorem eX11_end {E : EN} {k : Nat} {mem : Mm} {Q : Int → Mm → Prop} {p0 : Int} (hr_p0 : R32 p0) (h : VM E mX11_end k mem 0 [(0, aR 0), (1, aI p0)] [] (retI Q)) : CI E mX11_end k mem [aR 0, aI p0] Q := CI_of rfl (Nat.le_of_ble_eq_true rfl) h (aNs_c (aNr_R _) (aNs_c (aNr_I hr_p0) (fun _ q => nomatch q)))

theorem dX11_row_0 : decode cX11_row 0 = .ok (.aload_n 0, 1) := by decide +kernel
theorem dX11_row_1 : decode cX11_row 1 = .ok (.getfield 73, 3) := by decide +kernel
theorem dX11_row_4 : decode cX11_row 4 = .ok (.getfield 158, 3) := by decide +kernel
theorem dX11_row_7 : decode cX11_row 7 = .ok (.ifCond .ne 10, 3) := by decide +kernel
theorem dX11_row_10 : decode cX11_row 10 = .ok (.aload_n 0, 1) := by decide +kernel
theorem dX11_row_11 : decode cX11_row 11 = .ok (.bipush (-6), 2) := by decide +kernel
theorem dX11_row_13 : decode cX11_row 13 = .ok (.invokevirtual 93, 3) := by decide +kernel
theorem dX11_row_16 : decode cX11_row 16 = .ok (.ireturn, 1) := by decide +kernel
theorem dX11_row_17 : decode cX11_row 17 = .ok (.iconst 0, 1) := by decide +kernel
theorem dX11_row_18 : decode cX11_row 18 = .ok (.istore_n 1, 1) := by decide +kernel
theorem dX11_row_19 : decode cX11_row 19 = .ok (.aload_n 0, 1) := by decide +kernel
theorem dX11_row_20 : decode cX11_row 20 = .ok (.iconst 0, 1) := by decide +kernel
theorem dX11_row_21 : decode cX11_row 21 = .ok (.putfield 165, 3) := by decide +kernel
theorem dX11_row_24 : decode cX11_row 24 = .ok (.iconst 0, 1) := by decide +kernel
theorem dX11_row_25 : decode cX11_row 25 = .ok (.istore_n 2, 1) := by decide +kernel
theorem dX11_row_26 : decode cX11_row 26 = .ok (.iload_n 2, 1) := by decide +kernel
theorem dX11_row_27 : decode cX11_row 27 = .ok (.aload_n 0, 1) := by decide +kernel
theorem dX11_row_28 : decode cX11_row 28 = .ok (.getfield 73, 3) := by decide +kernel
theorem dX11_row_31 : decode cX11_row 31 = .ok (.getfield 158, 3) := by decide +kernel
theorem dX11_row_34 : decode cX11_row 34 = .ok (.if_icmp .ge 90, 3) := by decide +kernel
theorem dX11_row_37 : decode cX11_row 37 = .ok (.iload_n 2, 1) := by decide +kernel
theorem dX11_row_38 : decode cX11_row 38 = .ok (.iconst 1, 1) := by decide +kernel
theorem dX11_row_39 : decode cX11_row 39 = .ok (.iadd, 1) := by decide +kernel
theorem dX11_row_40 : decode cX11_row 40 = .ok (.aload_n 0, 1) := by decide +kernel
theorem dX11_row_41 : decode cX11_row 41 = .ok (.getfield 73, 3) := by decide +kernel
theorem dX11_row_44 : decode cX11_row 44 = .ok (.getfield 158, 3) := by decide +kernel
theorem dX11_row_47 : decode cX11_row 47 = .ok (.if_icmp .ge 16, 3) := by decide +kernel
theorem dX11_row_50 : decode cX11_row 50 = .ok (.iload_n 2, 1) := by decide +kernel
theorem dX11_row_51 : decode cX11_row 51 = .ok (.iconst 1, 1) := by decide +kernel
theorem dX11_row_52 : decode cX11_row 52 = .ok (.iadd, 1) := by decide +kernel
theorem dX11_row_53 : decode cX11_row 53 = .ok (.sipush 400, 3) := by decide +kernel
theorem dX11_row_56 : decode cX11_row 56 = .ok (.if_icmp .ge 7, 3) := by decide +kernel
theorem dX11_row_59 : decode cX11_row 59 = .ok (.iconst 1, 1) := by decide +kernel
theorem dX11_row_60 : decode cX11_row 60 = .ok (.goto 4, 3) := by decide +kernel
theorem dX11_row_63 : decode cX11_row 63 = .ok (.iconst 0, 1) := by decide +kernel
theorem dX11_row_64 : decode cX11_row 64 = .ok (.istore_n 3, 1) := by decide +kernel
theorem dX11_row_65 : decode cX11_row 65 = .ok (.iload_n 3, 1) := by decide +kernel
theorem dX11_row_66 : decode cX11_row 66 = .ok (.ifCond .eq 42, 3) := by decide +kernel
theorem dX11_row_69 : decode cX11_row 69 = .ok (.aload_n 0, 1) := by decide +kernel
theorem dX11_row_70 : decode cX11_row 70 = .ok (.getfield 22, 3) := by decide +kernel
theorem dX11_row_73 : decode cX11_row 73 = .ok (.iload_n 2, 1) := by decide +kernel
theorem dX11_row_74 : decode cX11_row 74 = .ok (.iconst 2, 1) := by decide +kernel
theorem dX11_row_75 : decode cX11_row 75 = .ok (.idiv, 1) := by decide +kernel
theorem dX11_row_76 : decode cX11_row 76 = .ok (.aload_n 0, 1) := by decide +kernel
theorem dX11_row_77 : decode cX11_row 77 = .ok (.getfield 73, 3) := by decide +kernel
theorem dX11_row_80 : decode cX11_row 80 = .ok (.getfield 168, 3) := by decide +kernel
theorem dX11_row_83 : decode cX11_row 83 = .ok (.iload_n 2, 1) := by decide +kernel
theorem dX11_row_84 : decode cX11_row 84 = .ok (.iaload, 1) := by decide +kernel
theorem dX11_row_85 : decode cX11_row 85 = .ok (.aload_n 0, 1) := by decide +kernel
theorem dX11_row_86 : decode cX11_row 86 = .ok (.getfield 73, 3) := by decide +kernel
theorem dX11_row_89 : decode cX11_row 89 = .ok (.getfield 168, 3) := by decide +kernel
theorem dX11_row_92 : decode cX11_row 92 = .ok (.iload_n 2, 1) := by decide +kernel
theorem dX11_row_93 : decode cX11_row 93 = .ok (.iconst 1, 1) := by decide +kernel
theorem dX11_row_94 : decode cX11_row 94 = .ok (.iadd, 1) := by decide +kernel
theorem dX11_row_95 : decode cX11_row 95 = .ok (.iaload, 1) := by decide +kernel
theorem dX11_row_96 : decode cX11_row 96 = .ok (.invokevirtual 171, 3) := by decide +kernel
theorem dX11_row_99 : decode cX11_row 99 = .ok (.ifCond .eq 9, 3) := by decide +kernel
theorem dX11_row_102 : decode cX11_row 102 = .ok (.iinc 1 1, 3) := by decide +kernel
theorem dX11_row_105 : decode cX11_row 105 = .ok (.goto 13, 3) := by decide +kernel
theorem dX11_row_108 : decode cX11_row 108 = .ok (.aload_n 0, 1) := by decide +kernel
theorem dX11_row_109 : decode cX11_row 109 = .ok (.dup, 1) := by decide +kernel
theorem dX11_row_110 : decode cX11_row 110 = .ok (.getfield 165, 3) := by decide +kernel
theorem dX11_row_113 : decode cX11_row 113 = .ok (.iconst 1, 1) := by decide +kernel
theorem dX11_row_114 : decode cX11_row 114 = .ok (.iadd, 1) := by decide +kernel
theorem dX11_row_115 : decode cX11_row 115 = .ok (.putfield 165, 3) := by decide +kernel
theorem dX11_row_118 : decode cX11_row 118 = .ok (.iinc 2 2, 3) := by decide +kernel
theorem dX11_row_121 : decode cX11_row 121 = .ok (.goto (-95), 3) := by decide +kernel
theorem dX11_row_124 : decode cX11_row 124 = .ok (.aload_n 0, 1) := by decide +kernel
theorem dX11_row_125 : decode cX11_row 125 = .ok (.getfield 73, 3) := by decide +kernel
theorem dX11_row_128 : decode cX11_row 128 = .ok (.iconst 0, 1) := by decide +kernel
theorem dX11_row_129 : decode cX11_row 129 = .ok (.putfield 158, 3) := by decide +kernel
theorem dX11_row_132 : decode cX11_row 132 = .ok (.aload_n 0, 1) := by decide +kernel
theorem dX11_row_133 : decode cX11_row 133 = .ok (.getfield 27, 3) := by decide +kernel
theorem dX11_row_136 : decode cX11_row 136 = .ok (.iconst 0, 1) := by decide +kernel
theorem dX11_row_137 : decode cX11_row 137 = .ok (.putfield 107, 3) := by decide +kernel
theorem dX11_row_140 : decode cX11_row 140 = .ok (.aload_n 0, 1) := by decide +kernel
theorem dX11_row_141 : decode cX11_row 141 = .ok (.iload_n 1, 1) := by decide +kernel
theorem dX11_row_142 : decode cX11_row 142 = .ok (.invokevirtual 116, 3) := by decide +kernel
theorem dX11_row_145 : decode cX11_row 145 = .ok (.ireturn, 1) := by decide +kernel
set_option maxRecDepth 20000 in
theorem rX11_row_0 {E : EN} (hE : Ep E) {k : Nat} {mem : Mm} {Q : Int → Mm → Prop}
    (h : ((¬ (mem 591 2) = 0 → VM E mX11_row (k + 1) (aUp mem 0 11 0) 26 [(0, aR 0), (1, aI 0), (2, aI 0)] [] (retI Q)) ∧ ((mem 591 2) = 0 → (CI E mX11_refused k mem [aR 0, aI (-6)] (fun r2 m1 => Q r2 m1))))) :
    VM E mX11_row (k + 1) mem 0 [(0, aR 0)] [] (retI Q) := by
  refine v_aload_n (pc := 0) dX11_row_0 0 rfl ?_
  refine m_getfin (pc := 1) (v := 591) hE dX11_row_1 flX11_73 rfl at0 rfl ?_
  refine m_getf (pc := 4) (t := 0) (v := (mem 591 2)) dX11_row_4 flX11_158 rfl at591 rfl ?_
  refine v_ifne (pc := 7) (tgt := 17) dX11_row_7 (by decide) (fun c1 => ?_) (fun c1 => ?_)
  · have h := h.1 c1
    refine v_iconst (pc := 17) dX11_row_17 (by decide) ?_
    refine v_istore_n (pc := 18) (al2 := [(1, aI 0), (0, aR 0)]) dX11_row_18 (by decide) rfl ?_
    refine v_aload_n (pc := 19) dX11_row_19 1 rfl ?_
    refine v_iconst (pc := 20) dX11_row_20 (by decide) ?_
    refine v_putf (pc := 21) dX11_row_21 flX11_165 ⟨_, _, rfl, Or.inl rfl⟩ rfl (by decide) (fun q => nomatch q) (Or.inl fun _ => rfl) at0 ?_
    refine v_iconst (pc := 24) dX11_row_24 (by decide) ?_
    refine v_istore_n (pc := 25) (al2 := [(2, aI 0), (1, aI 0), (0, aR 0)]) dX11_row_25 (by decide) rfl ?_
    exact VG_sub (al' := [(0, aR 0), (1, aI 0), (2, aI 0)]) [2, 1, 0] rfl h
  · have h := h.2 c1
    refine v_aload_n (pc := 10) dX11_row_10 0 rfl ?_
    refine v_bipush (pc := 11) dX11_row_11 (by decide) ?_
    refine m_invI (pc := 13) (mi' := mX11_refused) (rest := []) [aI (-6)] dX11_row_13 at0 (by decide) rfl msX11_refused mvX11_refused lkX11_93 rfl (Nat.le_of_ble_eq_true rfl) (fun hn => CI_mono (h) (fun r2 m1 h => ?_))
    exact m_retI (pc := 16) dX11_row_16 rfl h
theorem eX11_row {E : EN} {k : Nat} {mem : Mm} {Q : Int → Mm → Prop}  (h : VM E mX11_row (k + 1) mem 0 [(0, aR 0)] [] (retI Q)) : CI E mX11_row (k + 1) mem [aR 0] Q := CI_of rfl (Nat.le_of_ble_eq_true rfl) h (aNs_c (aNr_R _) (fun _ q => nomatch q))
set_option maxRecDepth 20000 in
theorem rX11_row_26 {E : EN} (hE : Ep E) {k : Nat} {mem : Mm} {Q : Int → Mm → Prop} {x1 x2 : Int}
    (h : (((mem 591 2) ≤ x2 → (R32 x1 → CI E mX11_granted k (aUp (aUp mem 591 2 0) 12 2 0) [aR 0, aI x1] (fun r2 m1 => Q r2 m1))) ∧ (x2 < (mem 591 2) → (R32 (x2 + 1)) ∧ (((mem 591 2) ≤ (x2 + 1) → (R32 ((mem 0 11) + 1)) ∧ (R32 (x2 + 2)) ∧ VM E mX11_row (k + 1) (aUp mem 0 11 ((mem 0 11) + 1)) 26 [(0, aR 0), (1, aI x1), (2, aI (x2 + 2))] [] (retI Q)) ∧ ((x2 + 1) < (mem 591 2) → ((400 ≤ (x2 + 1) → (R32 ((mem 0 11) + 1)) ∧ (R32 (x2 + 2)) ∧ VM E mX11_row (k + 1) (aUp mem 0 11 ((mem 0 11) + 1)) 26 [(0, aR 0), (1, aI x1), (2, aI (x2 + 2))] [] (retI Q)) ∧ ((x2 + 1) < 400 → (0 ≤ x2 ∧ x2 < 400) ∧ (0 ≤ (x2 + 1) ∧ (x2 + 1) < 400) ∧ (R32 (w32 (Int.tdiv x2 2)) → R32 (mem 592 x2) → R32 (mem 592 (x2 + 1)) → CI E mX10_writeCell k mem [aR 2, aI (w32 (Int.tdiv x2 2)), aI (mem 592 x2), aI (mem 592 (x2 + 1))] (fun r11 m10 => ((r11 = 0 → (R32 ((m10 0 11) + 1)) ∧ (R32 (x2 + 2)) ∧ VM E mX11_row (k + 1) (aUp m10 0 11 ((m10 0 11) + 1)) 26 [(0, aR 0), (1, aI x1), (2, aI (x2 + 2))] [] (retI Q)) ∧ (¬ r11 = 0 → (R32 (x1 + 1)) ∧ (R32 (x2 + 2)) ∧ VM E mX11_row (k + 1) m10 26 [(0, aR 0), (1, aI (x1 + 1)), (2, aI (x2 + 2))] [] (retI Q)))))))))))) :
    VM E mX11_row (k + 1) mem 26 [(0, aR 0), (1, aI x1), (2, aI x2)] [] (retI Q) := by
  refine v_iload_n (pc := 26) dX11_row_26 2 rfl ?_
  refine v_aload_n (pc := 27) dX11_row_27 0 rfl ?_
  refine m_getfin (pc := 28) (v := 591) hE dX11_row_28 flX11_73 rfl at0 rfl ?_
  refine m_getf (pc := 31) (t := 0) (v := (mem 591 2)) dX11_row_31 flX11_158 rfl at591 rfl ?_
  refine v_icmpge (pc := 34) (tgt := 124) dX11_row_34 (by decide) (fun c1 => ?_) (fun c1 => ?_)
  · have h := h.1 c1
    refine v_aload_n (pc := 124) dX11_row_124 0 rfl ?_
    refine m_getfin (pc := 125) (v := 591) hE dX11_row_125 flX11_73 rfl at0 rfl ?_
    refine v_iconst (pc := 128) dX11_row_128 (by decide) ?_
    refine v_putf (pc := 129) dX11_row_129 flX11_158 ⟨_, _, rfl, Or.inl rfl⟩ rfl (by decide) (fun q => nomatch q) (Or.inl fun _ => rfl) at591 ?_
    refine v_aload_n (pc := 132) dX11_row_132 0 rfl ?_
    refine m_getfin (pc := 133) (v := 12) hE dX11_row_133 flX11_27 rfl at0 rfl ?_
    refine v_iconst (pc := 136) dX11_row_136 (by decide) ?_
    refine v_putf (pc := 137) dX11_row_137 flX11_107 ⟨_, _, rfl, Or.inl rfl⟩ rfl (by decide) (fun q => nomatch q) (Or.inl fun _ => rfl) (pt0 (show isPt 12 by unfold isPt; omega)) ?_
    refine v_aload_n (pc := 140) dX11_row_140 0 rfl ?_
    refine v_iload_n (pc := 141) dX11_row_141 1 rfl ?_
    refine m_invI (pc := 142) (mi' := mX11_granted) (rest := []) [aI x1] dX11_row_142 at0 (by decide) rfl msX11_granted mvX11_granted lkX11_116 rfl (Nat.le_of_ble_eq_true rfl) (fun hn => CI_mono (h (aaI hn 1 rfl)) (fun r2 m1 h => ?_))
    exact m_retI (pc := 145) dX11_row_145 rfl h
  · have h := h.2 c1
    refine v_iload_n (pc := 37) dX11_row_37 2 rfl ?_
    refine v_iconst (pc := 38) dX11_row_38 (by decide) ?_
    obtain ⟨o3, h⟩ := h
    refine m_iadd (pc := 39) dX11_row_39 o3 ?_
    refine v_aload_n (pc := 40) dX11_row_40 0 rfl ?_
    refine m_getfin (pc := 41) (v := 591) hE dX11_row_41 flX11_73 rfl at0 rfl ?_
    refine m_getf (pc := 44) (t := 0) (v := (mem 591 2)) dX11_row_44 flX11_158 rfl at591 rfl ?_
    refine v_icmpge (pc := 47) (tgt := 63) dX11_row_47 (by decide) (fun c1 => ?_) (fun c1 => ?_)
    · have h := h.1 c1
      refine v_iconst (pc := 63) dX11_row_63 (by decide) ?_
      refine v_istore_n (pc := 64) (al2 := [(3, aI 0), (0, aR 0), (1, aI x1), (2, aI x2)]) dX11_row_64 (by decide) rfl ?_
      refine v_iload_n (pc := 65) dX11_row_65 0 rfl ?_
      refine v_ifeq (pc := 66) (tgt := 108) dX11_row_66 (by decide) (fun c1 => ?_) (fun c1 => absurd c1 (by decide))
      refine v_aload_n (pc := 108) dX11_row_108 1 rfl ?_
      refine v_dup (pc := 109) dX11_row_109 rfl ?_
      refine m_getf (pc := 110) (t := 0) (v := (mem 0 11)) dX11_row_110 flX11_165 rfl at0 rfl ?_
      refine v_iconst (pc := 113) dX11_row_113 (by decide) ?_
      obtain ⟨o4, h⟩ := h
      refine m_iadd (pc := 114) dX11_row_114 o4 ?_
      refine v_putf (pc := 115) dX11_row_115 flX11_165 ⟨_, _, rfl, Or.inl rfl⟩ rfl (by decide) (fun q => nomatch q) (Or.inl fun _ => rfl) at0 ?_
      obtain ⟨o5, h⟩ := h
      refine m_iinc (pc := 118) (al2 := [(2, aI (x2 + 2)), (3, aI 0), (0, aR 0), (1, aI x1)]) dX11_row_118 3 rfl (by decide) o5 rfl ?_
      refine v_goto (pc := 121) (tgt := 26) dX11_row_121 (by decide) ?_
      exact VG_sub (al' := [(0, aR 0), (1, aI x1), (2, aI (x2 + 2))]) [2, 3, 0] rfl h
    · have h := h.2 c1
      refine v_iload_n (pc := 50) dX11_row_50 2 rfl ?_
      refine v_iconst (pc := 51) dX11_row_51 (by decide) ?_
      refine m_iadd (pc := 52) dX11_row_52 o3 ?_
      refine v_sipush (pc := 53) dX11_row_53 (by decide) ?_
      refine v_icmpge (pc := 56) (tgt := 63) dX11_row_56 (by decide) (fun c1 => ?_) (fun c1 => ?_)
      · have h := h.1 c1
        refine v_iconst (pc := 63) dX11_row_63 (by decide) ?_
        refine v_istore_n (pc := 64) (al2 := [(3, aI 0), (0, aR 0), (1, aI x1), (2, aI x2)]) dX11_row_64 (by decide) rfl ?_
        refine v_iload_n (pc := 65) dX11_row_65 0 rfl ?_
        refine v_ifeq (pc := 66) (tgt := 108) dX11_row_66 (by decide) (fun c1 => ?_) (fun c1 => absurd c1 (by decide))
        refine v_aload_n (pc := 108) dX11_row_108 1 rfl ?_
        refine v_dup (pc := 109) dX11_row_109 rfl ?_
        refine m_getf (pc := 110) (t := 0) (v := (mem 0 11)) dX11_row_110 flX11_165 rfl at0 rfl ?_
        refine v_iconst (pc := 113) dX11_row_113 (by decide) ?_
        obtain ⟨o6, h⟩ := h
        refine m_iadd (pc := 114) dX11_row_114 o6 ?_
        refine v_putf (pc := 115) dX11_row_115 flX11_165 ⟨_, _, rfl, Or.inl rfl⟩ rfl (by decide) (fun q => nomatch q) (Or.inl fun _ => rfl) at0 ?_
        obtain ⟨o7, h⟩ := h
        refine m_iinc (pc := 118) (al2 := [(2, aI (x2 + 2)), (3, aI 0), (0, aR 0), (1, aI x1)]) dX11_row_118 3 rfl (by decide) o7 rfl ?_
        refine v_goto (pc := 121) (tgt := 26) dX11_row_121 (by decide) ?_
        exact VG_sub (al' := [(0, aR 0), (1, aI x1), (2, aI (x2 + 2))]) [2, 3, 0] rfl h
      · have h := h.2 c1
        refine v_iconst (pc := 59) dX11_row_59 (by decide) ?_
        refine v_goto (pc := 60) (tgt := 64) dX11_row_60 (by decide) ?_
        refine v_istore_n (pc := 64) (al2 := [(3, aI 1), (0, aR 0), (1, aI x1), (2, aI x2)]) dX11_row_64 (by decide) rfl ?_
        refine v_iload_n (pc := 65) dX11_row_65 0 rfl ?_
        refine v_ifeq (pc := 66) (tgt := 108) dX11_row_66 (by decide) (fun c1 => absurd c1 (by decide)) (fun c1 => ?_)
        refine v_aload_n (pc := 69) dX11_row_69 1 rfl ?_
        refine m_getfin (pc := 70) (v := 2) hE dX11_row_70 flX11_22 rfl at0 rfl ?_
        refine v_iload_n (pc := 73) dX11_row_73 3 rfl ?_
        refine v_iconst (pc := 74) dX11_row_74 (by decide) ?_
        refine v_idiv (pc := 75) dX11_row_75 (by decide) ?_
        refine v_aload_n (pc := 76) dX11_row_76 1 rfl ?_
        refine m_getfin (pc := 77) (v := 591) hE dX11_row_77 flX11_73 rfl at0 rfl ?_
        refine m_getfin (pc := 80) (v := 592) hE dX11_row_80 flX11_168 rfl at591 rfl ?_
        refine v_iload_n (pc := 83) dX11_row_83 3 rfl ?_
        obtain ⟨o8, h⟩ := h
        refine m_iald (pc := 84) (v := (mem 592 x2)) dX11_row_84 at592 o8.1 o8.2 rfl ?_
        refine v_aload_n (pc := 85) dX11_row_85 1 rfl ?_
        refine m_getfin (pc := 86) (v := 591) hE dX11_row_86 flX11_73 rfl at0 rfl ?_
        refine m_getfin (pc := 89) (v := 592) hE dX11_row_89 flX11_168 rfl at591 rfl ?_
        refine v_iload_n (pc := 92) dX11_row_92 3 rfl ?_
        refine v_iconst (pc := 93) dX11_row_93 (by decide) ?_
        refine m_iadd (pc := 94) dX11_row_94 o3 ?_
        obtain ⟨o9, h⟩ := h
        refine m_iald (pc := 95) (v := (mem 592 (x2 + 1))) dX11_row_95 at592 o9.1 o9.2 rfl ?_
        refine m_invI (pc := 96) (mi' := mX10_writeCell) (rest := []) [aI (w32 (Int.tdiv x2 2)), aI (mem 592 x2), aI (mem 592 (x2 + 1))] dX11_row_96 (yd0 (show isYd 2 by unfold isYd; omega)) (by decide) rfl msX10_writeCell mvX10_writeCell lkX11_171 rfl (Nat.le_of_ble_eq_true rfl) (fun hn => CI_mono (h (aaI hn 1 rfl) (aaI hn 2 rfl) (aaI hn 3 rfl)) (fun r11 m10 h => ?_))
        refine v_ifeq (pc := 99) (tgt := 108) dX11_row_99 (by decide) (fun c1 => ?_) (fun c1 => ?_)
        · have h := h.1 c1
          refine v_aload_n (pc := 108) dX11_row_108 1 rfl ?_
          refine v_dup (pc := 109) dX11_row_109 rfl ?_
          refine m_getf (pc := 110) (t := 0) (v := (m10 0 11)) dX11_row_110 flX11_165 rfl at0 rfl ?_
          refine v_iconst (pc := 113) dX11_row_113 (by decide) ?_
          obtain ⟨o12, h⟩ := h
          refine m_iadd (pc := 114) dX11_row_114 o12 ?_
          refine v_putf (pc := 115) dX11_row_115 flX11_165 ⟨_, _, rfl, Or.inl rfl⟩ rfl (by decide) (fun q => nomatch q) (Or.inl fun _ => rfl) at0 ?_
          obtain ⟨o13, h⟩ := h
          refine m_iinc (pc := 118) (al2 := [(2, aI (x2 + 2)), (3, aI 1), (0, aR 0), (1, aI x1)]) dX11_row_118 3 rfl (by decide) o13 rfl ?_
          refine v_goto (pc := 121) (tgt := 26) dX11_row_121 (by decide) ?_
          exact VG_sub (al' := [(0, aR 0), (1, aI x1), (2, aI (x2 + 2))]) [2, 3, 0] rfl h
        · have h := h.2 c1
          obtain ⟨o14, h⟩ := h
          refine m_iinc (pc := 102) (al2 := [(1, aI (x1 + 1)), (3, aI 1), (0, aR 0), (2, aI x2)]) dX11_row_102 2 rfl (by decide) o14 rfl ?_
          refine v_goto (pc := 105) (tgt := 118) dX11_row_105 (by decide) ?_
          obtain ⟨o15, h⟩ := h
          refine m_iinc (pc := 118) (al2 := [(2, aI (x2 + 2)), (1, aI (x1 + 1)), (3, aI 1), (0, aR 0)]) dX11_row_118 3 rfl (by decide) o15 rfl ?_
          refine v_goto (pc := 121) (tgt := 26) dX11_row_121 (by decide) ?_
          exact VG_sub (al' := [(0, aR 0), (1, aI (x1 + 1)), (2, aI (x2 + 2))]) [3, 1, 0] rfl h

theorem dX11_moles_0 : decode cX11_moles 0 = .ok (.aload_n 0, 1) := by decide +kernel
theorem dX11_moles_1 : decode cX11_moles 1 = .ok (.getfield 165, 3) := by decide +kernel
theorem dX11_moles_4 : decode cX11_moles 4 = .ok (.ireturn, 1) := by decide +kernel
set_option maxRecDepth 20000 in
theorem rX11_moles_0 {E : EN} (hE : Ep E) {k : Nat} {mem : Mm} {Q : Int → Mm → Prop}
    (h : Q (mem 0 11) mem) :
    VM E mX11_moles k mem 0 [(0, aR 0)] [] (retI Q) := by
  refine v_aload_n (pc := 0) dX11_moles_0 0 rfl ?_
  refine m_getf (pc := 1) (t := 0) (v := (mem 0 11)) dX11_moles_1 flX11_165 rfl at0 rfl ?_
  exact m_retI (pc := 4) dX11_moles_4 rfl h
theorem eX11_moles {E : EN} {k : Nat} {mem : Mm} {Q : Int → Mm → Prop}  (h : VM E mX11_moles k mem 0 [(0, aR 0)] [] (retI Q)) : CI E mX11_moles k mem [aR 0] Q := CI_of rfl (Nat.le_of_ble_eq_true rfl) h (aNs_c (aNr_R _) (fun _ q => nomatch q))

theorem dX11_law_0 : decode cX11_law 0 = .ok (.aload_n 0, 1) := by decide +kernel
theorem dX11_law_1 : decode cX11_law 1 = .ok (.getfield 38, 3) := by decide +kernel
theorem dX11_law_4 : decode cX11_law 4 = .ok (.invokevirtual 174, 3) := by decide +kernel
theorem dX11_law_7 : decode cX11_law 7 = .ok (.astore_n 1, 1) := by decide +kernel
theorem dX11_law_8 : decode cX11_law 8 = .ok (.aload_n 1, 1) := by decide +kernel
theorem dX11_law_9 : decode cX11_law 9 = .ok (.ifnonnull 18, 3) := by decide +kernel
theorem dX11_law_12 : decode cX11_law 12 = .ok (.aload_n 0, 1) := by decide +kernel
theorem dX11_law_13 : decode cX11_law 13 = .ok (.getfield 73, 3) := by decide +kernel
theorem dX11_law_16 : decode cX11_law 16 = .ok (.iconst 0, 1) := by decide +kernel
theorem dX11_law_17 : decode cX11_law 17 = .ok (.putfield 158, 3) := by decide +kernel
theorem dX11_law_20 : decode cX11_law 20 = .ok (.aload_n 0, 1) := by decide +kernel
theorem dX11_law_21 : decode cX11_law 21 = .ok (.bipush (-5), 2) := by decide +kernel
theorem dX11_law_23 : decode cX11_law 23 = .ok (.invokevirtual 93, 3) := by decide +kernel
theorem dX11_law_26 : decode cX11_law 26 = .ok (.ireturn, 1) := by decide +kernel
theorem dX11_law_27 : decode cX11_law 27 = .ok (.aload_n 0, 1) := by decide +kernel
theorem dX11_law_28 : decode cX11_law 28 = .ok (.aload_n 0, 1) := by decide +kernel
theorem dX11_law_29 : decode cX11_law 29 = .ok (.getfield 73, 3) := by decide +kernel
theorem dX11_law_32 : decode cX11_law 32 = .ok (.aload_n 1, 1) := by decide +kernel
theorem dX11_law_33 : decode cX11_law 33 = .ok (.iconst 0, 1) := by decide +kernel
theorem dX11_law_34 : decode cX11_law 34 = .ok (.invokevirtual 178, 3) := by decide +kernel
theorem dX11_law_37 : decode cX11_law 37 = .ok (.putfield 81, 3) := by decide +kernel
theorem dX11_law_40 : decode cX11_law 40 = .ok (.aload_n 0, 1) := by decide +kernel
theorem dX11_law_41 : decode cX11_law 41 = .ok (.getfield 81, 3) := by decide +kernel
theorem dX11_law_44 : decode cX11_law 44 = .ok (.iconst (-1), 1) := by decide +kernel
theorem dX11_law_45 : decode cX11_law 45 = .ok (.if_icmp .eq 10, 3) := by decide +kernel
theorem dX11_law_48 : decode cX11_law 48 = .ok (.aload_n 0, 1) := by decide +kernel
theorem dX11_law_49 : decode cX11_law 49 = .ok (.bipush (-6), 2) := by decide +kernel
theorem dX11_law_51 : decode cX11_law 51 = .ok (.invokevirtual 93, 3) := by decide +kernel
theorem dX11_law_54 : decode cX11_law 54 = .ok (.ireturn, 1) := by decide +kernel
theorem dX11_law_55 : decode cX11_law 55 = .ok (.aload_n 0, 1) := by decide +kernel
theorem dX11_law_56 : decode cX11_law 56 = .ok (.getfield 38, 3) := by decide +kernel
theorem dX11_law_59 : decode cX11_law 59 = .ok (.dup, 1) := by decide +kernel
theorem dX11_law_60 : decode cX11_law 60 = .ok (.getfield 182, 3) := by decide +kernel
theorem dX11_law_63 : decode cX11_law 63 = .ok (.iconst 1, 1) := by decide +kernel
theorem dX11_law_64 : decode cX11_law 64 = .ok (.iadd, 1) := by decide +kernel
theorem dX11_law_65 : decode cX11_law 65 = .ok (.putfield 182, 3) := by decide +kernel
theorem dX11_law_68 : decode cX11_law 68 = .ok (.aload_n 0, 1) := by decide +kernel
theorem dX11_law_69 : decode cX11_law 69 = .ok (.aload_n 0, 1) := by decide +kernel
theorem dX11_law_70 : decode cX11_law 70 = .ok (.getfield 38, 3) := by decide +kernel
theorem dX11_law_73 : decode cX11_law 73 = .ok (.getfield 182, 3) := by decide +kernel
theorem dX11_law_76 : decode cX11_law 76 = .ok (.iconst 1, 1) := by decide +kernel
theorem dX11_law_77 : decode cX11_law 77 = .ok (.isub, 1) := by decide +kernel
theorem dX11_law_78 : decode cX11_law 78 = .ok (.invokevirtual 116, 3) := by decide +kernel
theorem dX11_law_81 : decode cX11_law 81 = .ok (.ireturn, 1) := by decide +kernel
set_option maxRecDepth 20000 in
theorem rX11_law_0 {E : EN} (hE : Ep E) {k : Nat} {mem : Mm} {Q : Int → Mm → Prop}
    (h : (CR E mX3_next k mem [aR 353] (fun r2 m1 => ((0 ≤ r2 → (CI E mX7_read k m1 [aR 591, aR r2, aI 0] (fun r4 m3 => ((r4 = (-1) → (R32 ((m3 353 1) + 1)) ∧ (R32 (((m3 353 1) + 1) - 1)) ∧ (R32 (((m3 353 1) + 1) - 1) → CI E mX11_granted k (aUp (aUp m3 0 12 r4) 353 1 ((m3 353 1) + 1)) [aR 0, aI (((m3 353 1) + 1) - 1)] (fun r8 m7 => Q r8 m7))) ∧ (¬ r4 = (-1) → (CI E mX11_refused k (aUp m3 0 12 r4) [aR 0, aI (-6)] (fun r10 m9 => Q r10 m9))))))) ∧ (r2 < 0 → (CI E mX11_refused k (aUp m1 591 2 0) [aR 0, aI (-5)] (fun r12 m11 => Q r12 m11))))))) :
    VM E mX11_law (k + 1) mem 0 [(0, aR 0)] [] (retI Q) := by
  refine v_aload_n (pc := 0) dX11_law_0 0 rfl ?_
  refine m_getfin (pc := 1) (v := 353) hE dX11_law_1 flX11_38 rfl at0 rfl ?_
  refine m_invR (pc := 4) (mi' := mX3_next) (rest := []) [] dX11_law_4 (lw0 (show isLw 353 by unfold isLw; omega)) (by decide) rfl msX3_next mvX3_next lkX11_174 rfl (Nat.le_of_ble_eq_true rfl) (fun hn => CR_mono (h) (fun r2 m1 h => ?_))
  refine v_astore_n (pc := 7) (al2 := [(1, aR r2), (0, aR 0)]) dX11_law_7 (by decide) rfl ?_
  refine v_aload_n (pc := 8) dX11_law_8 0 rfl ?_
  refine v_ifnonnull (pc := 9) (tgt := 27) dX11_law_9 (by decide) (fun c1 => ?_) (fun c1 => ?_)
  · have h := h.1 c1
    refine v_aload_n (pc := 27) dX11_law_27 1 rfl ?_
    refine v_aload_n (pc := 28) dX11_law_28 1 rfl ?_
    refine m_getfin (pc := 29) (v := 591) hE dX11_law_29 flX11_73 rfl at0 rfl ?_
    refine v_aload_n (pc := 32) dX11_law_32 0 rfl ?_
    refine v_iconst (pc := 33) dX11_law_33 (by decide) ?_
    refine m_invI (pc := 34) (mi' := mX7_read) (rest := [aR 0]) [aR r2, aI 0] dX11_law_34 at591 (by decide) rfl msX7_read mvX7_read lkX11_178 rfl (Nat.le_of_ble_eq_true rfl) (fun hn => CI_mono (h) (fun r4 m3 h => ?_))
    refine v_putf (pc := 37) dX11_law_37 flX11_81 ⟨_, _, rfl, Or.inl rfl⟩ rfl (by decide) (fun q => nomatch q) (Or.inl fun _ => rfl) at0 ?_
    refine v_aload_n (pc := 40) dX11_law_40 1 rfl ?_
    refine m_getf (pc := 41) (t := 0) (v := r4) dX11_law_41 flX11_81 rfl at0 (aUp_re) ?_
    refine v_iconst (pc := 44) dX11_law_44 (by decide) ?_
    refine v_icmpeq (pc := 45) (tgt := 55) dX11_law_45 (by decide) (fun c1 => ?_) (fun c1 => ?_)
    · have h := h.1 c1
      refine v_aload_n (pc := 55) dX11_law_55 1 rfl ?_
      refine m_getfin (pc := 56) (v := 353) hE dX11_law_56 flX11_38 rfl at0 rfl ?_
      refine v_dup (pc := 59) dX11_law_59 rfl ?_
      refine m_getf (pc := 60) (t := 0) (v := (m3 353 1)) dX11_law_60 flX11_182 rfl (lw0 (show isLw 353 by unfold isLw; omega)) (aUp_rn (by omega)) ?_
      refine v_iconst (pc := 63) dX11_law_63 (by decide) ?_
      obtain ⟨o5, h⟩ := h
      refine m_iadd (pc := 64) dX11_law_64 o5 ?_
      refine v_putf (pc := 65) dX11_law_65 flX11_182 ⟨_, _, rfl, Or.inl rfl⟩ rfl (by decide) (fun q => nomatch q) (Or.inl fun _ => rfl) (lw0 (show isLw 353 by unfold isLw; omega)) ?_
      refine v_aload_n (pc := 68) dX11_law_68 1 rfl ?_
      refine v_aload_n (pc := 69) dX11_law_69 1 rfl ?_
      refine m_getfin (pc := 70) (v := 353) hE dX11_law_70 flX11_38 rfl at0 rfl ?_
      refine m_getf (pc := 73) (t := 0) (v := ((m3 353 1) + 1)) dX11_law_73 flX11_182 rfl (lw0 (show isLw 353 by unfold isLw; omega)) (aUp_re) ?_
      refine v_iconst (pc := 76) dX11_law_76 (by decide) ?_
      obtain ⟨o6, h⟩ := h
      refine m_isub (pc := 77) dX11_law_77 o6 ?_
      refine m_invI (pc := 78) (mi' := mX11_granted) (rest := []) [aI (((m3 353 1) + 1) - 1)] dX11_law_78 at0 (by decide) rfl msX11_granted mvX11_granted lkX11_116 rfl (Nat.le_of_ble_eq_true rfl) (fun hn => CI_mono (h (aaI hn 1 rfl)) (fun r8 m7 h => ?_))
      exact m_retI (pc := 81) dX11_law_81 rfl h
    · have h := h.2 c1
      refine v_aload_n (pc := 48) dX11_law_48 1 rfl ?_
      refine v_bipush (pc := 49) dX11_law_49 (by decide) ?_
      refine m_invI (pc := 51) (mi' := mX11_refused) (rest := []) [aI (-6)] dX11_law_51 at0 (by decide) rfl msX11_refused mvX11_refused lkX11_93 rfl (Nat.le_of_ble_eq_true rfl) (fun hn => CI_mono (h) (fun r10 m9 h => ?_))
      exact m_retI (pc := 54) dX11_law_54 rfl h
  · have h := h.2 c1
    refine v_aload_n (pc := 12) dX11_law_12 1 rfl ?_
    refine m_getfin (pc := 13) (v := 591) hE dX11_law_13 flX11_73 rfl at0 rfl ?_
    refine v_iconst (pc := 16) dX11_law_16 (by decide) ?_
    refine v_putf (pc := 17) dX11_law_17 flX11_158 ⟨_, _, rfl, Or.inl rfl⟩ rfl (by decide) (fun q => nomatch q) (Or.inl fun _ => rfl) at591 ?_
    refine v_aload_n (pc := 20) dX11_law_20 1 rfl ?_
    refine v_bipush (pc := 21) dX11_law_21 (by decide) ?_
    refine m_invI (pc := 23) (mi' := mX11_refused) (rest := []) [aI (-5)] dX11_law_23 at0 (by decide) rfl msX11_refused mvX11_refused lkX11_93 rfl (Nat.le_of_ble_eq_true rfl) (fun hn => CI_mono (h) (fun r12 m11 h => ?_))
    exact m_retI (pc := 26) dX11_law_26 rfl h
theorem eX11_law {E : EN} {k : Nat} {mem : Mm} {Q : Int → Mm → Prop}  (h : VM E mX11_law (k + 1) mem 0 [(0, aR 0)] [] (retI Q)) : CI E mX11_law (k + 1) mem [aR 0] Q := CI_of rfl (Nat.le_of_ble_eq_true rfl) h (aNs_c (aNr_R _) (fun _ q => nomatch q))

theorem dX11_orders_0 : decode cX11_orders 0 = .ok (.aload_n 0, 1) := by decide +kernel
theorem dX11_orders_1 : decode cX11_orders 1 = .ok (.getfield 73, 3) := by decide +kernel
theorem dX11_orders_4 : decode cX11_orders 4 = .ok (.getfield 185, 3) := by decide +kernel
theorem dX11_orders_7 : decode cX11_orders 7 = .ok (.astore_n 1, 1) := by decide +kernel
theorem dX11_orders_8 : decode cX11_orders 8 = .ok (.aload_n 0, 1) := by decide +kernel
theorem dX11_orders_9 : decode cX11_orders 9 = .ok (.getfield 14, 3) := by decide +kernel
theorem dX11_orders_12 : decode cX11_orders 12 = .ok (.iconst (-1), 1) := by decide +kernel
theorem dX11_orders_13 : decode cX11_orders 13 = .ok (.putfield 189, 3) := by decide +kernel
theorem dX11_orders_16 : decode cX11_orders 16 = .ok (.aload_n 0, 1) := by decide +kernel
theorem dX11_orders_17 : decode cX11_orders 17 = .ok (.aload_n 0, 1) := by decide +kernel
theorem dX11_orders_18 : decode cX11_orders 18 = .ok (.getfield 73, 3) := by decide +kernel
theorem dX11_orders_21 : decode cX11_orders 21 = .ok (.aload_n 1, 1) := by decide +kernel
theorem dX11_orders_22 : decode cX11_orders 22 = .ok (.iconst 1, 1) := by decide +kernel
theorem dX11_orders_23 : decode cX11_orders 23 = .ok (.invokevirtual 178, 3) := by decide +kernel
theorem dX11_orders_26 : decode cX11_orders 26 = .ok (.putfield 81, 3) := by decide +kernel
theorem dX11_orders_29 : decode cX11_orders 29 = .ok (.aload_n 0, 1) := by decide +kernel
theorem dX11_orders_30 : decode cX11_orders 30 = .ok (.getfield 81, 3) := by decide +kernel
theorem dX11_orders_33 : decode cX11_orders 33 = .ok (.iconst (-1), 1) := by decide +kernel
theorem dX11_orders_34 : decode cX11_orders 34 = .ok (.if_icmp .eq 10, 3) := by decide +kernel
theorem dX11_orders_37 : decode cX11_orders 37 = .ok (.aload_n 0, 1) := by decide +kernel
theorem dX11_orders_38 : decode cX11_orders 38 = .ok (.bipush (-6), 2) := by decide +kernel
theorem dX11_orders_40 : decode cX11_orders 40 = .ok (.invokevirtual 93, 3) := by decide +kernel
theorem dX11_orders_43 : decode cX11_orders 43 = .ok (.ireturn, 1) := by decide +kernel
theorem dX11_orders_44 : decode cX11_orders 44 = .ok (.aload_n 0, 1) := by decide +kernel
theorem dX11_orders_45 : decode cX11_orders 45 = .ok (.getfield 14, 3) := by decide +kernel
theorem dX11_orders_48 : decode cX11_orders 48 = .ok (.invokevirtual 192, 3) := by decide +kernel
theorem dX11_orders_51 : decode cX11_orders 51 = .ok (.iconst 0, 1) := by decide +kernel
theorem dX11_orders_52 : decode cX11_orders 52 = .ok (.istore_n 2, 1) := by decide +kernel
theorem dX11_orders_53 : decode cX11_orders 53 = .ok (.iload_n 2, 1) := by decide +kernel
theorem dX11_orders_54 : decode cX11_orders 54 = .ok (.aload_n 1, 1) := by decide +kernel
theorem dX11_orders_55 : decode cX11_orders 55 = .ok (.getfield 195, 3) := by decide +kernel
theorem dX11_orders_58 : decode cX11_orders 58 = .ok (.if_icmp .ge 76, 3) := by decide +kernel
theorem dX11_orders_61 : decode cX11_orders 61 = .ok (.iload_n 2, 1) := by decide +kernel
theorem dX11_orders_62 : decode cX11_orders 62 = .ok (.bipush 12, 2) := by decide +kernel
theorem dX11_orders_64 : decode cX11_orders 64 = .ok (.if_icmp .ge 70, 3) := by decide +kernel
theorem dX11_orders_67 : decode cX11_orders 67 = .ok (.iconst 0, 1) := by decide +kernel
theorem dX11_orders_68 : decode cX11_orders 68 = .ok (.istore_n 3, 1) := by decide +kernel
theorem dX11_orders_69 : decode cX11_orders 69 = .ok (.iload_n 3, 1) := by decide +kernel
theorem dX11_orders_70 : decode cX11_orders 70 = .ok (.aload_n 1, 1) := by decide +kernel
theorem dX11_orders_71 : decode cX11_orders 71 = .ok (.getfield 200, 3) := by decide +kernel
theorem dX11_orders_74 : decode cX11_orders 74 = .ok (.iload_n 2, 1) := by decide +kernel
theorem dX11_orders_75 : decode cX11_orders 75 = .ok (.iaload, 1) := by decide +kernel
theorem dX11_orders_76 : decode cX11_orders 76 = .ok (.if_icmp .ge 52, 3) := by decide +kernel
theorem dX11_orders_79 : decode cX11_orders 79 = .ok (.aload_n 0, 1) := by decide +kernel
theorem dX11_orders_80 : decode cX11_orders 80 = .ok (.getfield 14, 3) := by decide +kernel
theorem dX11_orders_83 : decode cX11_orders 83 = .ok (.aload_n 1, 1) := by decide +kernel
theorem dX11_orders_84 : decode cX11_orders 84 = .ok (.iload_n 2, 1) := by decide +kernel
theorem dX11_orders_85 : decode cX11_orders 85 = .ok (.invokevirtual 203, 3) := by decide +kernel
theorem dX11_orders_88 : decode cX11_orders 88 = .ok (.istore 4, 2) := by decide +kernel
theorem dX11_orders_90 : decode cX11_orders 90 = .ok (.iload 4, 2) := by decide +kernel
theorem dX11_orders_92 : decode cX11_orders 92 = .ok (.ifCond .ge 30, 3) := by decide +kernel
theorem dX11_orders_95 : decode cX11_orders 95 = .ok (.aload_n 0, 1) := by decide +kernel
theorem dX11_orders_96 : decode cX11_orders 96 = .ok (.getfield 14, 3) := by decide +kernel
theorem dX11_orders_99 : decode cX11_orders 99 = .ok (.iload_n 2, 1) := by decide +kernel
theorem dX11_orders_100 : decode cX11_orders 100 = .ok (.invokevirtual 207, 3) := by decide +kernel
theorem dX11_orders_103 : decode cX11_orders 103 = .ok (.aload_n 0, 1) := by decide +kernel
theorem dX11_orders_104 : decode cX11_orders 104 = .ok (.iload 4, 2) := by decide +kernel
theorem dX11_orders_106 : decode cX11_orders 106 = .ok (.bipush (-5), 2) := by decide +kernel
theorem dX11_orders_108 : decode cX11_orders 108 = .ok (.if_icmp .ne 8, 3) := by decide +kernel
theorem dX11_orders_111 : decode cX11_orders 111 = .ok (.bipush (-5), 2) := by decide +kernel
theorem dX11_orders_113 : decode cX11_orders 113 = .ok (.goto 5, 3) := by decide +kernel
theorem dX11_orders_116 : decode cX11_orders 116 = .ok (.bipush (-3), 2) := by decide +kernel
theorem dX11_orders_118 : decode cX11_orders 118 = .ok (.invokevirtual 93, 3) := by decide +kernel
theorem dX11_orders_121 : decode cX11_orders 121 = .ok (.ireturn, 1) := by decide +kernel
theorem dX11_orders_122 : decode cX11_orders 122 = .ok (.iinc 3 1, 3) := by decide +kernel
theorem dX11_orders_125 : decode cX11_orders 125 = .ok (.goto (-56), 3) := by decide +kernel
theorem dX11_orders_128 : decode cX11_orders 128 = .ok (.iinc 2 1, 3) := by decide +kernel
theorem dX11_orders_131 : decode cX11_orders 131 = .ok (.goto (-78), 3) := by decide +kernel
theorem dX11_orders_134 : decode cX11_orders 134 = .ok (.aload_n 0, 1) := by decide +kernel
theorem dX11_orders_135 : decode cX11_orders 135 = .ok (.aload_n 0, 1) := by decide +kernel
theorem dX11_orders_136 : decode cX11_orders 136 = .ok (.getfield 14, 3) := by decide +kernel
theorem dX11_orders_139 : decode cX11_orders 139 = .ok (.getfield 210, 3) := by decide +kernel
theorem dX11_orders_142 : decode cX11_orders 142 = .ok (.invokevirtual 116, 3) := by decide +kernel
theorem dX11_orders_145 : decode cX11_orders 145 = .ok (.ireturn, 1) := by decide +kernel
set_option maxRecDepth 20000 in
theorem rX11_orders_0 {E : EN} (hE : Ep E) {k : Nat} {mem : Mm} {Q : Int → Mm → Prop}
    (h : (CI E mX7_read k (aUp mem 1 9 (-1)) [aR 591, aR 593, aI 1] (fun r2 m1 => ((r2 = (-1) → (CV E mX8_beginOrders k (aUp m1 0 12 r2) [aR 1] (fun m3 => VM E mX11_orders (k + 1) m3 53 [(0, aR 0), (1, aR 593), (2, aI 0)] [] (retI Q)))) ∧ (¬ r2 = (-1) → (CI E mX11_refused k (aUp m1 0 12 r2) [aR 0, aI (-6)] (fun r5 m4 => Q r5 m4))))))) :
    VM E mX11_orders (k + 1) mem 0 [(0, aR 0)] [] (retI Q) := by
  refine v_aload_n (pc := 0) dX11_orders_0 0 rfl ?_
  refine m_getfin (pc := 1) (v := 591) hE dX11_orders_1 flX11_73 rfl at0 rfl ?_
  refine m_getfin (pc := 4) (v := 593) hE dX11_orders_4 flX11_185 rfl at591 rfl ?_
  refine v_astore_n (pc := 7) (al2 := [(1, aR 593), (0, aR 0)]) dX11_orders_7 (by decide) rfl ?_
  refine v_aload_n (pc := 8) dX11_orders_8 1 rfl ?_
  refine m_getfin (pc := 9) (v := 1) hE dX11_orders_9 flX11_14 rfl at0 rfl ?_
  refine v_iconst (pc := 12) dX11_orders_12 (by decide) ?_
  refine v_putf (pc := 13) dX11_orders_13 flX11_189 ⟨_, _, rfl, Or.inl rfl⟩ rfl (by decide) (fun q => nomatch q) (Or.inl fun _ => rfl) at1 ?_
  refine v_aload_n (pc := 16) dX11_orders_16 1 rfl ?_
  refine v_aload_n (pc := 17) dX11_orders_17 1 rfl ?_
  refine m_getfin (pc := 18) (v := 591) hE dX11_orders_18 flX11_73 rfl at0 rfl ?_
  refine v_aload_n (pc := 21) dX11_orders_21 0 rfl ?_
  refine v_iconst (pc := 22) dX11_orders_22 (by decide) ?_
  refine m_invI (pc := 23) (mi' := mX7_read) (rest := [aR 0]) [aR 593, aI 1] dX11_orders_23 at591 (by decide) rfl msX7_read mvX7_read lkX11_178 rfl (Nat.le_of_ble_eq_true rfl) (fun hn => CI_mono (h) (fun r2 m1 h => ?_))
  refine v_putf (pc := 26) dX11_orders_26 flX11_81 ⟨_, _, rfl, Or.inl rfl⟩ rfl (by decide) (fun q => nomatch q) (Or.inl fun _ => rfl) at0 ?_
  refine v_aload_n (pc := 29) dX11_orders_29 1 rfl ?_
  refine m_getf (pc := 30) (t := 0) (v := r2) dX11_orders_30 flX11_81 rfl at0 (aUp_re) ?_
  refine v_iconst (pc := 33) dX11_orders_33 (by decide) ?_
  refine v_icmpeq (pc := 34) (tgt := 44) dX11_orders_34 (by decide) (fun c1 => ?_) (fun c1 => ?_)
  · have h := h.1 c1
    refine v_aload_n (pc := 44) dX11_orders_44 1 rfl ?_
    refine m_getfin (pc := 45) (v := 1) hE dX11_orders_45 flX11_14 rfl at0 rfl ?_
    refine m_invV (pc := 48) (mi' := mX8_beginOrders) (rest := []) [] dX11_orders_48 at1 (by decide) rfl msX8_beginOrders mvX8_beginOrders lkX11_192 rfl (Nat.le_of_ble_eq_true rfl) (fun hn => CV_mono (h) (fun m3 h => ?_))
    refine v_iconst (pc := 51) dX11_orders_51 (by decide) ?_
    refine v_istore_n (pc := 52) (al2 := [(2, aI 0), (1, aR 593), (0, aR 0)]) dX11_orders_52 (by decide) rfl ?_
    exact VG_sub (al' := [(0, aR 0), (1, aR 593), (2, aI 0)]) [2, 1, 0] rfl h
  · have h := h.2 c1
    refine v_aload_n (pc := 37) dX11_orders_37 1 rfl ?_
    refine v_bipush (pc := 38) dX11_orders_38 (by decide) ?_
    refine m_invI (pc := 40) (mi' := mX11_refused) (rest := []) [aI (-6)] dX11_orders_40 at0 (by decide) rfl msX11_refused mvX11_refused lkX11_93 rfl (Nat.le_of_ble_eq_true rfl) (fun hn => CI_mono (h) (fun r5 m4 h => ?_))
    exact m_retI (pc := 43) dX11_orders_43 rfl h
theorem eX11_orders {E : EN} {k : Nat} {mem : Mm} {Q : Int → Mm → Prop}  (h : VM E mX11_orders (k + 1) mem 0 [(0, aR 0)] [] (retI Q)) : CI E mX11_orders (k + 1) mem [aR 0] Q := CI_of rfl (Nat.le_of_ble_eq_true rfl) h (aNs_c (aNr_R _) (fun _ q => nomatch q))
set_option maxRecDepth 20000 in
theorem rX11_orders_53 {E : EN} (hE : Ep E) {k : Nat} {mem : Mm} {Q : Int → Mm → Prop} {x1 x2 : Int} (hx1 : isTx x1)
    (h : (((mem x1 0) ≤ x2 → (R32 (mem 1 8) → CI E mX11_granted k mem [aR 0, aI (mem 1 8)] (fun r2 m1 => Q r2 m1))) ∧ (x2 < (mem x1 0) → ((12 ≤ x2 → (R32 (mem 1 8) → CI E mX11_granted k mem [aR 0, aI (mem 1 8)] (fun r4 m3 => Q r4 m3))) ∧ (x2 < 12 → VM E mX11_orders (k + 1) mem 69 [(0, aR 0), (1, aR x1), (2, aI x2), (3, aI 0)] [] (retI Q)))))) :
    VM E mX11_orders (k + 1) mem 53 [(0, aR 0), (1, aR x1), (2, aI x2)] [] (retI Q) := by
  refine v_iload_n (pc := 53) dX11_orders_53 2 rfl ?_
  refine v_aload_n (pc := 54) dX11_orders_54 1 rfl ?_
  refine m_getf (pc := 55) (t := 0) (v := (mem x1 0)) dX11_orders_55 flX11_195 rfl (tx0 hx1) rfl ?_
  refine v_icmpge (pc := 58) (tgt := 134) dX11_orders_58 (by decide) (fun c1 => ?_) (fun c1 => ?_)
  · have h := h.1 c1
    refine v_aload_n (pc := 134) dX11_orders_134 0 rfl ?_
    refine v_aload_n (pc := 135) dX11_orders_135 0 rfl ?_
    refine m_getfin (pc := 136) (v := 1) hE dX11_orders_136 flX11_14 rfl at0 rfl ?_
    refine m_getf (pc := 139) (t := 0) (v := (mem 1 8)) dX11_orders_139 flX11_210 rfl at1 rfl ?_
    refine m_invI (pc := 142) (mi' := mX11_granted) (rest := []) [aI (mem 1 8)] dX11_orders_142 at0 (by decide) rfl msX11_granted mvX11_granted lkX11_116 rfl (Nat.le_of_ble_eq_true rfl) (fun hn => CI_mono (h (aaI hn 1 rfl)) (fun r2 m1 h => ?_))
    exact m_retI (pc := 145) dX11_orders_145 rfl h
  · have h := h.2 c1
    refine v_iload_n (pc := 61) dX11_orders_61 2 rfl ?_
    refine v_bipush (pc := 62) dX11_orders_62 (by decide) ?_
    refine v_icmpge (pc := 64) (tgt := 134) dX11_orders_64 (by decide) (fun c1 => ?_) (fun c1 => ?_)
    · have h := h.1 c1
      refine v_aload_n (pc := 134) dX11_orders_134 0 rfl ?_
      refine v_aload_n (pc := 135) dX11_orders_135 0 rfl ?_
      refine m_getfin (pc := 136) (v := 1) hE dX11_orders_136 flX11_14 rfl at0 rfl ?_
      refine m_getf (pc := 139) (t := 0) (v := (mem 1 8)) dX11_orders_139 flX11_210 rfl at1 rfl ?_
      refine m_invI (pc := 142) (mi' := mX11_granted) (rest := []) [aI (mem 1 8)] dX11_orders_142 at0 (by decide) rfl msX11_granted mvX11_granted lkX11_116 rfl (Nat.le_of_ble_eq_true rfl) (fun hn => CI_mono (h (aaI hn 1 rfl)) (fun r4 m3 h => ?_))
      exact m_retI (pc := 145) dX11_orders_145 rfl h
    · have h := h.2 c1
      refine v_iconst (pc := 67) dX11_orders_67 (by decide) ?_
      refine v_istore_n (pc := 68) (al2 := [(3, aI 0), (0, aR 0), (1, aR x1), (2, aI x2)]) dX11_orders_68 (by decide) rfl ?_
      exact VG_sub (al' := [(0, aR 0), (1, aR x1), (2, aI x2), (3, aI 0)]) [1, 2, 3, 0] rfl h
set_option maxRecDepth 20000 in
theorem rX11_orders_69 {E : EN} (hE : Ep E) {k : Nat} {mem : Mm} {Q : Int → Mm → Prop} {x1 x2 x3 : Int} (hx1 : isTx x1)
    (h : (0 ≤ x2 ∧ x2 < 12) ∧ (((mem (x1 + 2) x2) ≤ x3 → (R32 (x2 + 1)) ∧ VM E mX11_orders (k + 1) mem 53 [(0, aR 0), (1, aR x1), (2, aI (x2 + 1))] [] (retI Q)) ∧ (x3 < (mem (x1 + 2) x2) → (R32 x2 → CI E mX8_obey k mem [aR 1, aR x1, aI x2] (fun r4 m3 => ((0 ≤ r4 → (R32 (x3 + 1)) ∧ VM E mX11_orders (k + 1) m3 69 [(0, aR 0), (1, aR x1), (2, aI x2), (3, aI (x3 + 1))] [] (retI Q)) ∧ (r4 < 0 → (R32 x2 → CV E mX8_giveUpOrders k m3 [aR 1, aI x2] (fun m6 => ((¬ r4 = (-5) → (CI E mX11_refused k m6 [aR 0, aI (-3)] (fun r8 m7 => Q r8 m7))) ∧ (r4 = (-5) → (CI E mX11_refused k m6 [aR 0, aI (-5)] (fun r10 m9 => Q r10 m9))))))))))))) :
    VM E mX11_orders (k + 1) mem 69 [(0, aR 0), (1, aR x1), (2, aI x2), (3, aI x3)] [] (retI Q) := by
  refine v_iload_n (pc := 69) dX11_orders_69 3 rfl ?_
  refine v_aload_n (pc := 70) dX11_orders_70 1 rfl ?_
  refine m_getfin (pc := 71) (v := (x1 + 2)) hE dX11_orders_71 flX11_200 rfl (tx0 hx1) rfl ?_
  refine v_iload_n (pc := 74) dX11_orders_74 2 rfl ?_
  obtain ⟨o1, h⟩ := h
  refine m_iald (pc := 75) (v := (mem (x1 + 2) x2)) dX11_orders_75 (tx2 hx1) o1.1 o1.2 rfl ?_
  refine v_icmpge (pc := 76) (tgt := 128) dX11_orders_76 (by decide) (fun c1 => ?_) (fun c1 => ?_)
  · have h := h.1 c1
    obtain ⟨o2, h⟩ := h
    refine m_iinc (pc := 128) (al2 := [(2, aI (x2 + 1)), (0, aR 0), (1, aR x1), (3, aI x3)]) dX11_orders_128 2 rfl (by decide) o2 rfl ?_
    refine v_goto (pc := 131) (tgt := 53) dX11_orders_131 (by decide) ?_
    exact VG_sub (al' := [(0, aR 0), (1, aR x1), (2, aI (x2 + 1))]) [1, 2, 0] rfl h
  · have h := h.2 c1
    refine v_aload_n (pc := 79) dX11_orders_79 0 rfl ?_
    refine m_getfin (pc := 80) (v := 1) hE dX11_orders_80 flX11_14 rfl at0 rfl ?_
    refine v_aload_n (pc := 83) dX11_orders_83 1 rfl ?_
    refine v_iload_n (pc := 84) dX11_orders_84 2 rfl ?_
    refine m_invI (pc := 85) (mi' := mX8_obey) (rest := []) [aR x1, aI x2] dX11_orders_85 at1 (by decide) rfl msX8_obey mvX8_obey lkX11_203 rfl (Nat.le_of_ble_eq_true rfl) (fun hn => CI_mono (h (aaI hn 2 rfl)) (fun r4 m3 h => ?_))
    refine v_istore (pc := 88) (al2 := [(4, aI r4), (0, aR 0), (1, aR x1), (2, aI x2), (3, aI x3)]) dX11_orders_88 (by decide) rfl ?_
    refine v_iload (pc := 90) dX11_orders_90 0 rfl ?_
    refine v_ifge (pc := 92) (tgt := 122) dX11_orders_92 (by decide) (fun c1 => ?_) (fun c1 => ?_)
    · have h := h.1 c1
      obtain ⟨o5, h⟩ := h
      refine m_iinc (pc := 122) (al2 := [(3, aI (x3 + 1)), (4, aI r4), (0, aR 0), (1, aR x1), (2, aI x2)]) dX11_orders_122 4 rfl (by decide) o5 rfl ?_
      refine v_goto (pc := 125) (tgt := 69) dX11_orders_125 (by decide) ?_
      exact VG_sub (al' := [(0, aR 0), (1, aR x1), (2, aI x2), (3, aI (x3 + 1))]) [2, 3, 4, 0] rfl h
    · have h := h.2 c1
      refine v_aload_n (pc := 95) dX11_orders_95 1 rfl ?_
      refine m_getfin (pc := 96) (v := 1) hE dX11_orders_96 flX11_14 rfl at0 rfl ?_
      refine v_iload_n (pc := 99) dX11_orders_99 3 rfl ?_
      refine m_invV (pc := 100) (mi' := mX8_giveUpOrders) (rest := []) [aI x2] dX11_orders_100 at1 (by decide) rfl msX8_giveUpOrders mvX8_giveUpOrders lkX11_207 rfl (Nat.le_of_ble_eq_true rfl) (fun hn => CV_mono (h (aaI hn 1 rfl)) (fun m6 h => ?_))
      refine v_aload_n (pc := 103) dX11_orders_103 1 rfl ?_
      refine v_iload (pc := 104) dX11_orders_104 0 rfl ?_
      refine v_bipush (pc := 106) dX11_orders_106 (by decide) ?_
      refine v_icmpne (pc := 108) (tgt := 116) dX11_orders_108 (by decide) (fun c1 => ?_) (fun c1 => ?_)
      · have h := h.1 c1
        refine v_bipush (pc := 116) dX11_orders_116 (by decide) ?_
        refine m_invI (pc := 118) (mi' := mX11_refused) (rest := []) [aI (-3)] dX11_orders_118 at0 (by decide) rfl msX11_refused mvX11_refused lkX11_93 rfl (Nat.le_of_ble_eq_true rfl) (fun hn => CI_mono (h) (fun r8 m7 h => ?_))
        exact m_retI (pc := 121) dX11_orders_121 rfl h
      · have h := h.2 c1
        refine v_bipush (pc := 111) dX11_orders_111 (by decide) ?_
        refine v_goto (pc := 113) (tgt := 118) dX11_orders_113 (by decide) ?_
        refine m_invI (pc := 118) (mi' := mX11_refused) (rest := []) [aI (-5)] dX11_orders_118 at0 (by decide) rfl msX11_refused mvX11_refused lkX11_93 rfl (Nat.le_of_ble_eq_true rfl) (fun hn => CI_mono (h) (fun r10 m9 h => ?_))
        exact m_retI (pc := 121) dX11_orders_121 rfl h

theorem dX11_fault_0 : decode cX11_fault 0 = .ok (.aload_n 0, 1) := by decide +kernel
theorem dX11_fault_1 : decode cX11_fault 1 = .ok (.getfield 81, 3) := by decide +kernel
theorem dX11_fault_4 : decode cX11_fault 4 = .ok (.ireturn, 1) := by decide +kernel
set_option maxRecDepth 20000 in
theorem rX11_fault_0 {E : EN} (hE : Ep E) {k : Nat} {mem : Mm} {Q : Int → Mm → Prop}
    (h : Q (mem 0 12) mem) :
    VM E mX11_fault k mem 0 [(0, aR 0)] [] (retI Q) := by
  refine v_aload_n (pc := 0) dX11_fault_0 0 rfl ?_
  refine m_getf (pc := 1) (t := 0) (v := (mem 0 12)) dX11_fault_1 flX11_81 rfl at0 rfl ?_
  exact m_retI (pc := 4) dX11_fault_4 rfl h
theorem eX11_fault {E : EN} {k : Nat} {mem : Mm} {Q : Int → Mm → Prop}  (h : VM E mX11_fault k mem 0 [(0, aR 0)] [] (retI Q)) : CI E mX11_fault k mem [aR 0] Q := CI_of rfl (Nat.le_of_ble_eq_true rfl) h (aNs_c (aNr_R _) (fun _ q => nomatch q))

theorem dX11_stopped_0 : decode cX11_stopped 0 = .ok (.aload_n 0, 1) := by decide +kernel
theorem dX11_stopped_1 : decode cX11_stopped 1 = .ok (.getfield 14, 3) := by decide +kernel
theorem dX11_stopped_4 : decode cX11_stopped 4 = .ok (.getfield 189, 3) := by decide +kernel
theorem dX11_stopped_7 : decode cX11_stopped 7 = .ok (.ireturn, 1) := by decide +kernel
set_option maxRecDepth 20000 in
theorem rX11_stopped_0 {E : EN} (hE : Ep E) {k : Nat} {mem : Mm} {Q : Int → Mm → Prop}
    (h : Q (mem 1 9) mem) :
    VM E mX11_stopped k mem 0 [(0, aR 0)] [] (retI Q) := by
  refine v_aload_n (pc := 0) dX11_stopped_0 0 rfl ?_
  refine m_getfin (pc := 1) (v := 1) hE dX11_stopped_1 flX11_14 rfl at0 rfl ?_
  refine m_getf (pc := 4) (t := 0) (v := (mem 1 9)) dX11_stopped_4 flX11_189 rfl at1 rfl ?_
  exact m_retI (pc := 7) dX11_stopped_7 rfl h
theorem eX11_stopped {E : EN} {k : Nat} {mem : Mm} {Q : Int → Mm → Prop}  (h : VM E mX11_stopped k mem 0 [(0, aR 0)] [] (retI Q)) : CI E mX11_stopped k mem [aR 0] Q := CI_of rfl (Nat.le_of_ble_eq_true rfl) h (aNs_c (aNr_R _) (fun _ q => nomatch q))

theorem dX11_force_0 : decode cX11_force 0 = .ok (.iload_n 1, 1) := by decide +kernel
theorem dX11_force_1 : decode cX11_force 1 = .ok (.iconst (-1), 1) := by decide +kernel
theorem dX11_force_2 : decode cX11_force 2 = .ok (.if_icmp .eq 21, 3) := by decide +kernel
theorem dX11_force_5 : decode cX11_force 5 = .ok (.aload_n 0, 1) := by decide +kernel
theorem dX11_force_6 : decode cX11_force 6 = .ok (.getfield 38, 3) := by decide +kernel
theorem dX11_force_9 : decode cX11_force 9 = .ok (.iload_n 1, 1) := by decide +kernel
theorem dX11_force_10 : decode cX11_force 10 = .ok (.invokevirtual 213, 3) := by decide +kernel
theorem dX11_force_13 : decode cX11_force 13 = .ok (.ifCond .ne 10, 3) := by decide +kernel
theorem dX11_force_16 : decode cX11_force 16 = .ok (.aload_n 0, 1) := by decide +kernel
theorem dX11_force_17 : decode cX11_force 17 = .ok (.bipush (-2), 2) := by decide +kernel
theorem dX11_force_19 : decode cX11_force 19 = .ok (.invokevirtual 93, 3) := by decide +kernel
theorem dX11_force_22 : decode cX11_force 22 = .ok (.ireturn, 1) := by decide +kernel
theorem dX11_force_23 : decode cX11_force 23 = .ok (.aload_n 0, 1) := by decide +kernel
theorem dX11_force_24 : decode cX11_force 24 = .ok (.getfield 38, 3) := by decide +kernel
theorem dX11_force_27 : decode cX11_force 27 = .ok (.getfield 216, 3) := by decide +kernel
theorem dX11_force_30 : decode cX11_force 30 = .ok (.istore_n 2, 1) := by decide +kernel
theorem dX11_force_31 : decode cX11_force 31 = .ok (.aload_n 0, 1) := by decide +kernel
theorem dX11_force_32 : decode cX11_force 32 = .ok (.getfield 38, 3) := by decide +kernel
theorem dX11_force_35 : decode cX11_force 35 = .ok (.iload_n 1, 1) := by decide +kernel
theorem dX11_force_36 : decode cX11_force 36 = .ok (.putfield 216, 3) := by decide +kernel
theorem dX11_force_39 : decode cX11_force 39 = .ok (.aload_n 0, 1) := by decide +kernel
theorem dX11_force_40 : decode cX11_force 40 = .ok (.getfield 22, 3) := by decide +kernel
theorem dX11_force_43 : decode cX11_force 43 = .ok (.aload_n 0, 1) := by decide +kernel
theorem dX11_force_44 : decode cX11_force 44 = .ok (.getfield 38, 3) := by decide +kernel
theorem dX11_force_47 : decode cX11_force 47 = .ok (.iload_n 1, 1) := by decide +kernel
theorem dX11_force_48 : decode cX11_force 48 = .ok (.invokevirtual 219, 3) := by decide +kernel
theorem dX11_force_51 : decode cX11_force 51 = .ok (.putfield 223, 3) := by decide +kernel
theorem dX11_force_54 : decode cX11_force 54 = .ok (.aload_n 0, 1) := by decide +kernel
theorem dX11_force_55 : decode cX11_force 55 = .ok (.iload_n 2, 1) := by decide +kernel
theorem dX11_force_56 : decode cX11_force 56 = .ok (.invokevirtual 116, 3) := by decide +kernel
theorem dX11_force_59 : decode cX11_force 59 = .ok (.ireturn, 1) := by decide +kernel
set_option maxRecDepth 20000 in
theorem rX11_force_0 {E : EN} (hE : Ep E) {k : Nat} {mem : Mm} {Q : Int → Mm → Prop} {p0 : Int}
    (h : ((p0 = (-1) → (R32 p0 → CR E mX3_numbered k (aUp mem 353 2 p0) [aR 353, aI p0] (fun r2 m1 => (R32 (mem 353 2) → CI E mX11_granted k (aUp m1 2 9 r2) [aR 0, aI (mem 353 2)] (fun r4 m3 => Q r4 m3))))) ∧ (¬ p0 = (-1) → (R32 p0 → CI E mX3_has k mem [aR 353, aI p0] (fun r6 m5 => ((¬ r6 = 0 → (R32 p0 → CR E mX3_numbered k (aUp m5 353 2 p0) [aR 353, aI p0] (fun r8 m7 => (R32 (m5 353 2) → CI E mX11_granted k (aUp m7 2 9 r8) [aR 0, aI (m5 353 2)] (fun r10 m9 => Q r10 m9))))) ∧ (r6 = 0 → (CI E mX11_refused k m5 [aR 0, aI (-2)] (fun r12 m11 => Q r12 m11))))))))) :
    VM E mX11_force (k + 1) mem 0 [(0, aR 0), (1, aI p0)] [] (retI Q) := by
  refine v_iload_n (pc := 0) dX11_force_0 1 rfl ?_
  refine v_iconst (pc := 1) dX11_force_1 (by decide) ?_
  refine v_icmpeq (pc := 2) (tgt := 23) dX11_force_2 (by decide) (fun c1 => ?_) (fun c1 => ?_)
  · have h := h.1 c1
    refine v_aload_n (pc := 23) dX11_force_23 0 rfl ?_
    refine m_getfin (pc := 24) (v := 353) hE dX11_force_24 flX11_38 rfl at0 rfl ?_
    refine m_getf (pc := 27) (t := 0) (v := (mem 353 2)) dX11_force_27 flX11_216 rfl (lw0 (show isLw 353 by unfold isLw; omega)) rfl ?_
    refine v_istore_n (pc := 30) (al2 := [(2, aI (mem 353 2)), (0, aR 0), (1, aI p0)]) dX11_force_30 (by decide) rfl ?_
    refine v_aload_n (pc := 31) dX11_force_31 1 rfl ?_
    refine m_getfin (pc := 32) (v := 353) hE dX11_force_32 flX11_38 rfl at0 rfl ?_
    refine v_iload_n (pc := 35) dX11_force_35 2 rfl ?_
    refine v_putf (pc := 36) dX11_force_36 flX11_216 ⟨_, _, rfl, Or.inl rfl⟩ rfl (by decide) (fun q => nomatch q) (Or.inl fun _ => rfl) (lw0 (show isLw 353 by unfold isLw; omega)) ?_
    refine v_aload_n (pc := 39) dX11_force_39 1 rfl ?_
    refine m_getfin (pc := 40) (v := 2) hE dX11_force_40 flX11_22 rfl at0 rfl ?_
    refine v_aload_n (pc := 43) dX11_force_43 1 rfl ?_
    refine m_getfin (pc := 44) (v := 353) hE dX11_force_44 flX11_38 rfl at0 rfl ?_
    refine v_iload_n (pc := 47) dX11_force_47 2 rfl ?_
    refine m_invR (pc := 48) (mi' := mX3_numbered) (rest := [aR 2]) [aI p0] dX11_force_48 (lw0 (show isLw 353 by unfold isLw; omega)) (by decide) rfl msX3_numbered mvX3_numbered lkX11_219 rfl (Nat.le_of_ble_eq_true rfl) (fun hn => CR_mono (h (aaI hn 1 rfl)) (fun r2 m1 h => ?_))
    refine v_putf (pc := 51) dX11_force_51 flX11_223 ⟨_, _, rfl, Or.inl rfl⟩ rfl (by decide) (fun q => nomatch q) (Or.inl fun _ => rfl) (yd0 (show isYd 2 by unfold isYd; omega)) ?_
    refine v_aload_n (pc := 54) dX11_force_54 1 rfl ?_
    refine v_iload_n (pc := 55) dX11_force_55 0 rfl ?_
    refine m_invI (pc := 56) (mi' := mX11_granted) (rest := []) [aI (mem 353 2)] dX11_force_56 at0 (by decide) rfl msX11_granted mvX11_granted lkX11_116 rfl (Nat.le_of_ble_eq_true rfl) (fun hn => CI_mono (h (aaI hn 1 rfl)) (fun r4 m3 h => ?_))
    exact m_retI (pc := 59) dX11_force_59 rfl h
  · have h := h.2 c1
    refine v_aload_n (pc := 5) dX11_force_5 0 rfl ?_
    refine m_getfin (pc := 6) (v := 353) hE dX11_force_6 flX11_38 rfl at0 rfl ?_
    refine v_iload_n (pc := 9) dX11_force_9 1 rfl ?_
    refine m_invI (pc := 10) (mi' := mX3_has) (rest := []) [aI p0] dX11_force_10 (lw0 (show isLw 353 by unfold isLw; omega)) (by decide) rfl msX3_has mvX3_has lkX11_213 rfl (Nat.le_of_ble_eq_true rfl) (fun hn => CI_mono (h (aaI hn 1 rfl)) (fun r6 m5 h => ?_))
    refine v_ifne (pc := 13) (tgt := 23) dX11_force_13 (by decide) (fun c1 => ?_) (fun c1 => ?_)
    · have h := h.1 c1
      refine v_aload_n (pc := 23) dX11_force_23 0 rfl ?_
      refine m_getfin (pc := 24) (v := 353) hE dX11_force_24 flX11_38 rfl at0 rfl ?_
      refine m_getf (pc := 27) (t := 0) (v := (m5 353 2)) dX11_force_27 flX11_216 rfl (lw0 (show isLw 353 by unfold isLw; omega)) rfl ?_
      refine v_istore_n (pc := 30) (al2 := [(2, aI (m5 353 2)), (0, aR 0), (1, aI p0)]) dX11_force_30 (by decide) rfl ?_
      refine v_aload_n (pc := 31) dX11_force_31 1 rfl ?_
      refine m_getfin (pc := 32) (v := 353) hE dX11_force_32 flX11_38 rfl at0 rfl ?_
      refine v_iload_n (pc := 35) dX11_force_35 2 rfl ?_
      refine v_putf (pc := 36) dX11_force_36 flX11_216 ⟨_, _, rfl, Or.inl rfl⟩ rfl (by decide) (fun q => nomatch q) (Or.inl fun _ => rfl) (lw0 (show isLw 353 by unfold isLw; omega)) ?_
      refine v_aload_n (pc := 39) dX11_force_39 1 rfl ?_
      refine m_getfin (pc := 40) (v := 2) hE dX11_force_40 flX11_22 rfl at0 rfl ?_
      refine v_aload_n (pc := 43) dX11_force_43 1 rfl ?_
      refine m_getfin (pc := 44) (v := 353) hE dX11_force_44 flX11_38 rfl at0 rfl ?_
      refine v_iload_n (pc := 47) dX11_force_47 2 rfl ?_
      refine m_invR (pc := 48) (mi' := mX3_numbered) (rest := [aR 2]) [aI p0] dX11_force_48 (lw0 (show isLw 353 by unfold isLw; omega)) (by decide) rfl msX3_numbered mvX3_numbered lkX11_219 rfl (Nat.le_of_ble_eq_true rfl) (fun hn => CR_mono (h (aaI hn 1 rfl)) (fun r8 m7 h => ?_))
      refine v_putf (pc := 51) dX11_force_51 flX11_223 ⟨_, _, rfl, Or.inl rfl⟩ rfl (by decide) (fun q => nomatch q) (Or.inl fun _ => rfl) (yd0 (show isYd 2 by unfold isYd; omega)) ?_
      refine v_aload_n (pc := 54) dX11_force_54 1 rfl ?_
      refine v_iload_n (pc := 55) dX11_force_55 0 rfl ?_
      refine m_invI (pc := 56) (mi' := mX11_granted) (rest := []) [aI (m5 353 2)] dX11_force_56 at0 (by decide) rfl msX11_granted mvX11_granted lkX11_116 rfl (Nat.le_of_ble_eq_true rfl) (fun hn => CI_mono (h (aaI hn 1 rfl)) (fun r10 m9 h => ?_))
      exact m_retI (pc := 59) dX11_force_59 rfl h
    · have h := h.2 c1
      refine v_aload_n (pc := 16) dX11_force_16 0 rfl ?_
      refine v_bipush (pc := 17) dX11_force_17 (by decide) ?_
      refine m_invI (pc := 19) (mi' := mX11_refused) (rest := []) [aI (-2)] dX11_force_19 at0 (by decide) rfl msX11_refused mvX11_refused lkX11_93 rfl (Nat.le_of_ble_eq_true rfl) (fun hn => CI_mono (h) (fun r12 m11 h => ?_))
      exact m_retI (pc := 22) dX11_force_22 rfl h
theorem eX11_force {E : EN} {k : Nat} {mem : Mm} {Q : Int → Mm → Prop} {p0 : Int} (hr_p0 : R32 p0) (h : VM E mX11_force (k + 1) mem 0 [(0, aR 0), (1, aI p0)] [] (retI Q)) : CI E mX11_force (k + 1) mem [aR 0, aI p0] Q := CI_of rfl (Nat.le_of_ble_eq_true rfl) h (aNs_c (aNr_R _) (aNs_c (aNr_I hr_p0) (fun _ q => nomatch q)))

theorem dX11_bury_0 : decode cX11_bury 0 = .ok (.iload_n 3, 1) := by decide +kernel
theorem dX11_bury_1 : decode cX11_bury 1 = .ok (.invokestatic 226, 3) := by decide +kernel
theorem dX11_bury_4 : decode cX11_bury 4 = .ok (.ifCond .ne 9, 3) := by decide +kernel
theorem dX11_bury_7 : decode cX11_bury 7 = .ok (.aload_n 0, 1) := by decide +kernel
theorem dX11_bury_8 : decode cX11_bury 8 = .ok (.iconst (-1), 1) := by decide +kernel
theorem dX11_bury_9 : decode cX11_bury 9 = .ok (.invokevirtual 93, 3) := by decide +kernel
theorem dX11_bury_12 : decode cX11_bury 12 = .ok (.ireturn, 1) := by decide +kernel
theorem dX11_bury_13 : decode cX11_bury 13 = .ok (.aload_n 0, 1) := by decide +kernel
theorem dX11_bury_14 : decode cX11_bury 14 = .ok (.aload_n 0, 1) := by decide +kernel
theorem dX11_bury_15 : decode cX11_bury 15 = .ok (.getfield 14, 3) := by decide +kernel
theorem dX11_bury_18 : decode cX11_bury 18 = .ok (.iload_n 1, 1) := by decide +kernel
theorem dX11_bury_19 : decode cX11_bury 19 = .ok (.iload_n 2, 1) := by decide +kernel
theorem dX11_bury_20 : decode cX11_bury 20 = .ok (.iload_n 3, 1) := by decide +kernel
theorem dX11_bury_21 : decode cX11_bury 21 = .ok (.invokevirtual 229, 3) := by decide +kernel
theorem dX11_bury_24 : decode cX11_bury 24 = .ok (.invokevirtual 233, 3) := by decide +kernel
theorem dX11_bury_27 : decode cX11_bury 27 = .ok (.ireturn, 1) := by decide +kernel
set_option maxRecDepth 20000 in
theorem rX11_bury_0 {E : EN} (hE : Ep E) {k : Nat} {mem : Mm} {Q : Int → Mm → Prop} {p0 p1 p2 : Int}
    (h : (R32 p2 → CI E mX11_isYesNo k mem [aI p2] (fun r2 m1 => ((¬ r2 = 0 → (R32 p0 → R32 p1 → R32 p2 → CI E mX8_layDown k m1 [aR 1, aI p0, aI p1, aI p2] (fun r4 m3 => (R32 r4 → CI E mX11_answered k m3 [aR 0, aI r4] (fun r6 m5 => Q r6 m5))))) ∧ (r2 = 0 → (CI E mX11_refused k m1 [aR 0, aI (-1)] (fun r8 m7 => Q r8 m7))))))) :
    VM E mX11_bury (k + 1) mem 0 [(0, aR 0), (1, aI p0), (2, aI p1), (3, aI p2)] [] (retI Q) := by
  refine v_iload_n (pc := 0) dX11_bury_0 3 rfl ?_
  refine m_invSI (pc := 1) (mi' := mX11_isYesNo) (rest := []) [aI p2] dX11_bury_1 msX11_isYesNo stX11_isYesNo lkX11_226 rfl (Nat.le_of_ble_eq_true rfl) (fun hn => CI_mono (h (aaI hn 0 rfl)) (fun r2 m1 h => ?_))
  refine v_ifne (pc := 4) (tgt := 13) dX11_bury_4 (by decide) (fun c1 => ?_) (fun c1 => ?_)
  · have h := h.1 c1
    refine v_aload_n (pc := 13) dX11_bury_13 0 rfl ?_
    refine v_aload_n (pc := 14) dX11_bury_14 0 rfl ?_
    refine m_getfin (pc := 15) (v := 1) hE dX11_bury_15 flX11_14 rfl at0 rfl ?_
    refine v_iload_n (pc := 18) dX11_bury_18 1 rfl ?_
    refine v_iload_n (pc := 19) dX11_bury_19 2 rfl ?_
    refine v_iload_n (pc := 20) dX11_bury_20 3 rfl ?_
    refine m_invI (pc := 21) (mi' := mX8_layDown) (rest := [aR 0]) [aI p0, aI p1, aI p2] dX11_bury_21 at1 (by decide) rfl msX8_layDown mvX8_layDown lkX11_229 rfl (Nat.le_of_ble_eq_true rfl) (fun hn => CI_mono (h (aaI hn 1 rfl) (aaI hn 2 rfl) (aaI hn 3 rfl)) (fun r4 m3 h => ?_))
    refine m_invI (pc := 24) (mi' := mX11_answered) (rest := []) [aI r4] dX11_bury_24 at0 (by decide) rfl msX11_answered mvX11_answered lkX11_233 rfl (Nat.le_of_ble_eq_true rfl) (fun hn => CI_mono (h (aaI hn 1 rfl)) (fun r6 m5 h => ?_))
    exact m_retI (pc := 27) dX11_bury_27 rfl h
  · have h := h.2 c1
    refine v_aload_n (pc := 7) dX11_bury_7 0 rfl ?_
    refine v_iconst (pc := 8) dX11_bury_8 (by decide) ?_
    refine m_invI (pc := 9) (mi' := mX11_refused) (rest := []) [aI (-1)] dX11_bury_9 at0 (by decide) rfl msX11_refused mvX11_refused lkX11_93 rfl (Nat.le_of_ble_eq_true rfl) (fun hn => CI_mono (h) (fun r8 m7 h => ?_))
    exact m_retI (pc := 12) dX11_bury_12 rfl h
theorem eX11_bury {E : EN} {k : Nat} {mem : Mm} {Q : Int → Mm → Prop} {p0 p1 p2 : Int} (hr_p0 : R32 p0) (hr_p1 : R32 p1) (hr_p2 : R32 p2) (h : VM E mX11_bury (k + 1) mem 0 [(0, aR 0), (1, aI p0), (2, aI p1), (3, aI p2)] [] (retI Q)) : CI E mX11_bury (k + 1) mem [aR 0, aI p0, aI p1, aI p2] Q := CI_of rfl (Nat.le_of_ble_eq_true rfl) h (aNs_c (aNr_R _) (aNs_c (aNr_I hr_p0) (aNs_c (aNr_I hr_p1) (aNs_c (aNr_I hr_p2) (fun _ q => nomatch q)))))

theorem dX11_buy_0 : decode cX11_buy 0 = .ok (.aload_n 0, 1) := by decide +kernel
theorem dX11_buy_1 : decode cX11_buy 1 = .ok (.aload_n 0, 1) := by decide +kernel
theorem dX11_buy_2 : decode cX11_buy 2 = .ok (.getfield 14, 3) := by decide +kernel
theorem dX11_buy_5 : decode cX11_buy 5 = .ok (.iload_n 1, 1) := by decide +kernel
theorem dX11_buy_6 : decode cX11_buy 6 = .ok (.invokevirtual 236, 3) := by decide +kernel
theorem dX11_buy_9 : decode cX11_buy 9 = .ok (.invokevirtual 233, 3) := by decide +kernel
theorem dX11_buy_12 : decode cX11_buy 12 = .ok (.ireturn, 1) := by decide +kernel
set_option maxRecDepth 20000 in
theorem rX11_buy_0 {E : EN} (hE : Ep E) {k : Nat} {mem : Mm} {Q : Int → Mm → Prop} {p0 : Int}
    (h : (R32 p0 → CI E mX8_purchase k mem [aR 1, aI p0] (fun r2 m1 => (R32 r2 → CI E mX11_answered k m1 [aR 0, aI r2] (fun r4 m3 => Q r4 m3))))) :
    VM E mX11_buy (k + 1) mem 0 [(0, aR 0), (1, aI p0)] [] (retI Q) := by
  refine v_aload_n (pc := 0) dX11_buy_0 0 rfl ?_
  refine v_aload_n (pc := 1) dX11_buy_1 0 rfl ?_
  refine m_getfin (pc := 2) (v := 1) hE dX11_buy_2 flX11_14 rfl at0 rfl ?_
  refine v_iload_n (pc := 5) dX11_buy_5 1 rfl ?_
  refine m_invI (pc := 6) (mi' := mX8_purchase) (rest := [aR 0]) [aI p0] dX11_buy_6 at1 (by decide) rfl msX8_purchase mvX8_purchase lkX11_236 rfl (Nat.le_of_ble_eq_true rfl) (fun hn => CI_mono (h (aaI hn 1 rfl)) (fun r2 m1 h => ?_))
  refine m_invI (pc := 9) (mi' := mX11_answered) (rest := []) [aI r2] dX11_buy_9 at0 (by decide) rfl msX11_answered mvX11_answered lkX11_233 rfl (Nat.le_of_ble_eq_true rfl) (fun hn => CI_mono (h (aaI hn 1 rfl)) (fun r4 m3 h => ?_))
  exact m_retI (pc := 12) dX11_buy_12 rfl h
theorem eX11_buy {E : EN} {k : Nat} {mem : Mm} {Q : Int → Mm → Prop} {p0 : Int} (hr_p0 : R32 p0) (h : VM E mX11_buy (k + 1) mem 0 [(0, aR 0), (1, aI p0)] [] (retI Q)) : CI E mX11_buy (k + 1) mem [aR 0, aI p0] Q := CI_of rfl (Nat.le_of_ble_eq_true rfl) h (aNs_c (aNr_R _) (aNs_c (aNr_I hr_p0) (fun _ q => nomatch q)))

theorem dX11_raise_0 : decode cX11_raise 0 = .ok (.aload_n 0, 1) := by decide +kernel
theorem dX11_raise_1 : decode cX11_raise 1 = .ok (.aload_n 0, 1) := by decide +kernel
theorem dX11_raise_2 : decode cX11_raise 2 = .ok (.getfield 14, 3) := by decide +kernel
theorem dX11_raise_5 : decode cX11_raise 5 = .ok (.iload_n 1, 1) := by decide +kernel
theorem dX11_raise_6 : decode cX11_raise 6 = .ok (.invokevirtual 239, 3) := by decide +kernel
theorem dX11_raise_9 : decode cX11_raise 9 = .ok (.invokevirtual 233, 3) := by decide +kernel
theorem dX11_raise_12 : decode cX11_raise 12 = .ok (.ireturn, 1) := by decide +kernel
set_option maxRecDepth 20000 in
theorem rX11_raise_0 {E : EN} (hE : Ep E) {k : Nat} {mem : Mm} {Q : Int → Mm → Prop} {p0 : Int}
    (h : (R32 p0 → CI E mX8_takeUp k mem [aR 1, aI p0] (fun r2 m1 => (R32 r2 → CI E mX11_answered k m1 [aR 0, aI r2] (fun r4 m3 => Q r4 m3))))) :
    VM E mX11_raise (k + 1) mem 0 [(0, aR 0), (1, aI p0)] [] (retI Q) := by
  refine v_aload_n (pc := 0) dX11_raise_0 0 rfl ?_
  refine v_aload_n (pc := 1) dX11_raise_1 0 rfl ?_
  refine m_getfin (pc := 2) (v := 1) hE dX11_raise_2 flX11_14 rfl at0 rfl ?_
  refine v_iload_n (pc := 5) dX11_raise_5 1 rfl ?_
  refine m_invI (pc := 6) (mi' := mX8_takeUp) (rest := [aR 0]) [aI p0] dX11_raise_6 at1 (by decide) rfl msX8_takeUp mvX8_takeUp lkX11_239 rfl (Nat.le_of_ble_eq_true rfl) (fun hn => CI_mono (h (aaI hn 1 rfl)) (fun r2 m1 h => ?_))
  refine m_invI (pc := 9) (mi' := mX11_answered) (rest := []) [aI r2] dX11_raise_9 at0 (by decide) rfl msX11_answered mvX11_answered lkX11_233 rfl (Nat.le_of_ble_eq_true rfl) (fun hn => CI_mono (h (aaI hn 1 rfl)) (fun r4 m3 h => ?_))
  exact m_retI (pc := 12) dX11_raise_12 rfl h
theorem eX11_raise {E : EN} {k : Nat} {mem : Mm} {Q : Int → Mm → Prop} {p0 : Int} (hr_p0 : R32 p0) (h : VM E mX11_raise (k + 1) mem 0 [(0, aR 0), (1, aI p0)] [] (retI Q)) : CI E mX11_raise (k + 1) mem [aR 0, aI p0] Q := CI_of rfl (Nat.le_of_ble_eq_true rfl) h (aNs_c (aNr_R _) (aNs_c (aNr_I hr_p0) (fun _ q => nomatch q)))

theorem dX11_pass_0 : decode cX11_pass 0 = .ok (.aload_n 0, 1) := by decide +kernel
theorem dX11_pass_1 : decode cX11_pass 1 = .ok (.aload_n 0, 1) := by decide +kernel
theorem dX11_pass_2 : decode cX11_pass 2 = .ok (.getfield 14, 3) := by decide +kernel
theorem dX11_pass_5 : decode cX11_pass 5 = .ok (.invokevirtual 242, 3) := by decide +kernel
theorem dX11_pass_8 : decode cX11_pass 8 = .ok (.invokevirtual 233, 3) := by decide +kernel
theorem dX11_pass_11 : decode cX11_pass 11 = .ok (.ireturn, 1) := by decide +kernel
set_option maxRecDepth 20000 in
theorem rX11_pass_0 {E : EN} (hE : Ep E) {k : Nat} {mem : Mm} {Q : Int → Mm → Prop}
    (h : (CI E mX8_bringYear k mem [aR 1] (fun r2 m1 => (R32 r2 → CI E mX11_answered k m1 [aR 0, aI r2] (fun r4 m3 => Q r4 m3))))) :
    VM E mX11_pass (k + 1) mem 0 [(0, aR 0)] [] (retI Q) := by
  refine v_aload_n (pc := 0) dX11_pass_0 0 rfl ?_
  refine v_aload_n (pc := 1) dX11_pass_1 0 rfl ?_
  refine m_getfin (pc := 2) (v := 1) hE dX11_pass_2 flX11_14 rfl at0 rfl ?_
  refine m_invI (pc := 5) (mi' := mX8_bringYear) (rest := [aR 0]) [] dX11_pass_5 at1 (by decide) rfl msX8_bringYear mvX8_bringYear lkX11_242 rfl (Nat.le_of_ble_eq_true rfl) (fun hn => CI_mono (h) (fun r2 m1 h => ?_))
  refine m_invI (pc := 8) (mi' := mX11_answered) (rest := []) [aI r2] dX11_pass_8 at0 (by decide) rfl msX11_answered mvX11_answered lkX11_233 rfl (Nat.le_of_ble_eq_true rfl) (fun hn => CI_mono (h (aaI hn 1 rfl)) (fun r4 m3 h => ?_))
  exact m_retI (pc := 11) dX11_pass_11 rfl h
theorem eX11_pass {E : EN} {k : Nat} {mem : Mm} {Q : Int → Mm → Prop}  (h : VM E mX11_pass (k + 1) mem 0 [(0, aR 0)] [] (retI Q)) : CI E mX11_pass (k + 1) mem [aR 0] Q := CI_of rfl (Nat.le_of_ble_eq_true rfl) h (aNs_c (aNr_R _) (fun _ q => nomatch q))

theorem dX11_blocked_0 : decode cX11_blocked 0 = .ok (.aload_n 0, 1) := by decide +kernel
theorem dX11_blocked_1 : decode cX11_blocked 1 = .ok (.getfield 14, 3) := by decide +kernel
theorem dX11_blocked_4 : decode cX11_blocked 4 = .ok (.getfield 246, 3) := by decide +kernel
theorem dX11_blocked_7 : decode cX11_blocked 7 = .ok (.ireturn, 1) := by decide +kernel
set_option maxRecDepth 20000 in
theorem rX11_blocked_0 {E : EN} (hE : Ep E) {k : Nat} {mem : Mm} {Q : Int → Mm → Prop}
    (h : Q (mem 1 6) mem) :
    VM E mX11_blocked k mem 0 [(0, aR 0)] [] (retI Q) := by
  refine v_aload_n (pc := 0) dX11_blocked_0 0 rfl ?_
  refine m_getfin (pc := 1) (v := 1) hE dX11_blocked_1 flX11_14 rfl at0 rfl ?_
  refine m_getf (pc := 4) (t := 0) (v := (mem 1 6)) dX11_blocked_4 flX11_246 rfl at1 rfl ?_
  exact m_retI (pc := 7) dX11_blocked_7 rfl h
theorem eX11_blocked {E : EN} {k : Nat} {mem : Mm} {Q : Int → Mm → Prop}  (h : VM E mX11_blocked k mem 0 [(0, aR 0)] [] (retI Q)) : CI E mX11_blocked k mem [aR 0] Q := CI_of rfl (Nat.le_of_ble_eq_true rfl) h (aNs_c (aNr_R _) (fun _ q => nomatch q))

theorem dX11_undo_0 : decode cX11_undo 0 = .ok (.aload_n 0, 1) := by decide +kernel
theorem dX11_undo_1 : decode cX11_undo 1 = .ok (.aload_n 0, 1) := by decide +kernel
theorem dX11_undo_2 : decode cX11_undo 2 = .ok (.getfield 27, 3) := by decide +kernel
theorem dX11_undo_5 : decode cX11_undo 5 = .ok (.aload_n 0, 1) := by decide +kernel
theorem dX11_undo_6 : decode cX11_undo 6 = .ok (.getfield 22, 3) := by decide +kernel
theorem dX11_undo_9 : decode cX11_undo 9 = .ok (.invokevirtual 249, 3) := by decide +kernel
theorem dX11_undo_12 : decode cX11_undo 12 = .ok (.invokevirtual 233, 3) := by decide +kernel
theorem dX11_undo_15 : decode cX11_undo 15 = .ok (.ireturn, 1) := by decide +kernel
set_option maxRecDepth 20000 in
theorem rX11_undo_0 {E : EN} (hE : Ep E) {k : Nat} {mem : Mm} {Q : Int → Mm → Prop}
    (h : (CI E mX6_takeBack k mem [aR 12, aR 2] (fun r2 m1 => (R32 r2 → CI E mX11_answered k m1 [aR 0, aI r2] (fun r4 m3 => Q r4 m3))))) :
    VM E mX11_undo (k + 1) mem 0 [(0, aR 0)] [] (retI Q) := by
  refine v_aload_n (pc := 0) dX11_undo_0 0 rfl ?_
  refine v_aload_n (pc := 1) dX11_undo_1 0 rfl ?_
  refine m_getfin (pc := 2) (v := 12) hE dX11_undo_2 flX11_27 rfl at0 rfl ?_
  refine v_aload_n (pc := 5) dX11_undo_5 0 rfl ?_
  refine m_getfin (pc := 6) (v := 2) hE dX11_undo_6 flX11_22 rfl at0 rfl ?_
  refine m_invI (pc := 9) (mi' := mX6_takeBack) (rest := [aR 0]) [aR 2] dX11_undo_9 (pt0 (show isPt 12 by unfold isPt; omega)) (by decide) rfl msX6_takeBack mvX6_takeBack lkX11_249 rfl (Nat.le_of_ble_eq_true rfl) (fun hn => CI_mono (h) (fun r2 m1 h => ?_))
  refine m_invI (pc := 12) (mi' := mX11_answered) (rest := []) [aI r2] dX11_undo_12 at0 (by decide) rfl msX11_answered mvX11_answered lkX11_233 rfl (Nat.le_of_ble_eq_true rfl) (fun hn => CI_mono (h (aaI hn 1 rfl)) (fun r4 m3 h => ?_))
  exact m_retI (pc := 15) dX11_undo_15 rfl h
theorem eX11_undo {E : EN} {k : Nat} {mem : Mm} {Q : Int → Mm → Prop}  (h : VM E mX11_undo (k + 1) mem 0 [(0, aR 0)] [] (retI Q)) : CI E mX11_undo (k + 1) mem [aR 0] Q := CI_of rfl (Nat.le_of_ble_eq_true rfl) h (aNs_c (aNr_R _) (fun _ q => nomatch q))

theorem dX11_where_0 : decode cX11_where 0 = .ok (.aload_n 0, 1) := by decide +kernel
theorem dX11_where_1 : decode cX11_where 1 = .ok (.getfield 22, 3) := by decide +kernel
theorem dX11_where_4 : decode cX11_where 4 = .ok (.iload_n 1, 1) := by decide +kernel
theorem dX11_where_5 : decode cX11_where 5 = .ok (.invokevirtual 122, 3) := by decide +kernel
theorem dX11_where_8 : decode cX11_where 8 = .ok (.ifCond .eq 13, 3) := by decide +kernel
theorem dX11_where_11 : decode cX11_where 11 = .ok (.iload_n 2, 1) := by decide +kernel
theorem dX11_where_12 : decode cX11_where 12 = .ok (.iconst 0, 1) := by decide +kernel
theorem dX11_where_13 : decode cX11_where 13 = .ok (.bipush 100, 2) := by decide +kernel
theorem dX11_where_15 : decode cX11_where 15 = .ok (.invokestatic 253, 3) := by decide +kernel
theorem dX11_where_18 : decode cX11_where 18 = .ok (.ifCond .ne 5, 3) := by decide +kernel
theorem dX11_where_21 : decode cX11_where 21 = .ok (.iconst (-1), 1) := by decide +kernel
theorem dX11_where_22 : decode cX11_where 22 = .ok (.ireturn, 1) := by decide +kernel
theorem dX11_where_23 : decode cX11_where 23 = .ok (.aload_n 0, 1) := by decide +kernel
theorem dX11_where_24 : decode cX11_where 24 = .ok (.getfield 52, 3) := by decide +kernel
theorem dX11_where_27 : decode cX11_where 27 = .ok (.aload_n 0, 1) := by decide +kernel
theorem dX11_where_28 : decode cX11_where 28 = .ok (.getfield 22, 3) := by decide +kernel
theorem dX11_where_31 : decode cX11_where 31 = .ok (.iload_n 1, 1) := by decide +kernel
theorem dX11_where_32 : decode cX11_where 32 = .ok (.iload_n 2, 1) := by decide +kernel
theorem dX11_where_33 : decode cX11_where 33 = .ok (.invokevirtual 256, 3) := by decide +kernel
theorem dX11_where_36 : decode cX11_where 36 = .ok (.ireturn, 1) := by decide +kernel
set_option maxRecDepth 20000 in
theorem rX11_where_0 {E : EN} (hE : Ep E) {k : Nat} {mem : Mm} {Q : Int → Mm → Prop} {p0 p1 : Int}
    (h : (R32 p0 → CI E mX10_hasPlot k mem [aR 2, aI p0] (fun r2 m1 => ((r2 = 0 → Q (-1) m1) ∧ (¬ r2 = 0 → (R32 p1 → CI E mX11_isWithin k m1 [aI p1, aI 0, aI 100] (fun r4 m3 => ((¬ r4 = 0 → (R32 p0 → R32 p1 → CI E mX5_cellBehind k m3 [aR 552, aR 2, aI p0, aI p1] (fun r6 m5 => Q r6 m5))) ∧ (r4 = 0 → Q (-1) m3))))))))) :
    VM E mX11_where (k + 1) mem 0 [(0, aR 0), (1, aI p0), (2, aI p1)] [] (retI Q) := by
  refine v_aload_n (pc := 0) dX11_where_0 0 rfl ?_
  refine m_getfin (pc := 1) (v := 2) hE dX11_where_1 flX11_22 rfl at0 rfl ?_
  refine v_iload_n (pc := 4) dX11_where_4 1 rfl ?_
  refine m_invI (pc := 5) (mi' := mX10_hasPlot) (rest := []) [aI p0] dX11_where_5 (yd0 (show isYd 2 by unfold isYd; omega)) (by decide) rfl msX10_hasPlot mvX10_hasPlot lkX11_122 rfl (Nat.le_of_ble_eq_true rfl) (fun hn => CI_mono (h (aaI hn 1 rfl)) (fun r2 m1 h => ?_))
  refine v_ifeq (pc := 8) (tgt := 21) dX11_where_8 (by decide) (fun c1 => ?_) (fun c1 => ?_)
  · have h := h.1 c1
    refine v_iconst (pc := 21) dX11_where_21 (by decide) ?_
    exact m_retI (pc := 22) dX11_where_22 rfl h
  · have h := h.2 c1
    refine v_iload_n (pc := 11) dX11_where_11 2 rfl ?_
    refine v_iconst (pc := 12) dX11_where_12 (by decide) ?_
    refine v_bipush (pc := 13) dX11_where_13 (by decide) ?_
    refine m_invSI (pc := 15) (mi' := mX11_isWithin) (rest := []) [aI p1, aI 0, aI 100] dX11_where_15 msX11_isWithin stX11_isWithin lkX11_253 rfl (Nat.le_of_ble_eq_true rfl) (fun hn => CI_mono (h (aaI hn 0 rfl)) (fun r4 m3 h => ?_))
    refine v_ifne (pc := 18) (tgt := 23) dX11_where_18 (by decide) (fun c1 => ?_) (fun c1 => ?_)
    · have h := h.1 c1
      refine v_aload_n (pc := 23) dX11_where_23 0 rfl ?_
      refine m_getfin (pc := 24) (v := 552) hE dX11_where_24 flX11_52 rfl at0 rfl ?_
      refine v_aload_n (pc := 27) dX11_where_27 0 rfl ?_
      refine m_getfin (pc := 28) (v := 2) hE dX11_where_28 flX11_22 rfl at0 rfl ?_
      refine v_iload_n (pc := 31) dX11_where_31 1 rfl ?_
      refine v_iload_n (pc := 32) dX11_where_32 2 rfl ?_
      refine m_invI (pc := 33) (mi' := mX5_cellBehind) (rest := []) [aR 2, aI p0, aI p1] dX11_where_33 at552 (by decide) rfl msX5_cellBehind mvX5_cellBehind lkX11_256 rfl (Nat.le_of_ble_eq_true rfl) (fun hn => CI_mono (h (aaI hn 2 rfl) (aaI hn 3 rfl)) (fun r6 m5 h => ?_))
      exact m_retI (pc := 36) dX11_where_36 rfl h
    · have h := h.2 c1
      refine v_iconst (pc := 21) dX11_where_21 (by decide) ?_
      exact m_retI (pc := 22) dX11_where_22 rfl h
theorem eX11_where {E : EN} {k : Nat} {mem : Mm} {Q : Int → Mm → Prop} {p0 p1 : Int} (hr_p0 : R32 p0) (hr_p1 : R32 p1) (h : VM E mX11_where (k + 1) mem 0 [(0, aR 0), (1, aI p0), (2, aI p1)] [] (retI Q)) : CI E mX11_where (k + 1) mem [aR 0, aI p0, aI p1] Q := CI_of rfl (Nat.le_of_ble_eq_true rfl) h (aNs_c (aNr_R _) (aNs_c (aNr_I hr_p0) (aNs_c (aNr_I hr_p1) (fun _ q => nomatch q))))

theorem dX11_indoors_0 : decode cX11_indoors 0 = .ok (.aload_n 0, 1) := by decide +kernel
theorem dX11_indoors_1 : decode cX11_indoors 1 = .ok (.getfield 52, 3) := by decide +kernel
theorem dX11_indoors_4 : decode cX11_indoors 4 = .ok (.aload_n 0, 1) := by decide +kernel
theorem dX11_indoors_5 : decode cX11_indoors 5 = .ok (.getfield 22, 3) := by decide +kernel
theorem dX11_indoors_8 : decode cX11_indoors 8 = .ok (.invokevirtual 260, 3) := by decide +kernel
theorem dX11_indoors_11 : decode cX11_indoors 11 = .ok (.ireturn, 1) := by decide +kernel
set_option maxRecDepth 20000 in
theorem rX11_indoors_0 {E : EN} (hE : Ep E) {k : Nat} {mem : Mm} {Q : Int → Mm → Prop}
    (h : (CI E mX5_firstIndoors k mem [aR 552, aR 2] (fun r2 m1 => Q r2 m1))) :
    VM E mX11_indoors (k + 1) mem 0 [(0, aR 0)] [] (retI Q) := by
  refine v_aload_n (pc := 0) dX11_indoors_0 0 rfl ?_
  refine m_getfin (pc := 1) (v := 552) hE dX11_indoors_1 flX11_52 rfl at0 rfl ?_
  refine v_aload_n (pc := 4) dX11_indoors_4 0 rfl ?_
  refine m_getfin (pc := 5) (v := 2) hE dX11_indoors_5 flX11_22 rfl at0 rfl ?_
  refine m_invI (pc := 8) (mi' := mX5_firstIndoors) (rest := []) [aR 2] dX11_indoors_8 at552 (by decide) rfl msX5_firstIndoors mvX5_firstIndoors lkX11_260 rfl (Nat.le_of_ble_eq_true rfl) (fun hn => CI_mono (h) (fun r2 m1 h => ?_))
  exact m_retI (pc := 11) dX11_indoors_11 rfl h
theorem eX11_indoors {E : EN} {k : Nat} {mem : Mm} {Q : Int → Mm → Prop}  (h : VM E mX11_indoors (k + 1) mem 0 [(0, aR 0)] [] (retI Q)) : CI E mX11_indoors (k + 1) mem [aR 0] Q := CI_of rfl (Nat.le_of_ble_eq_true rfl) h (aNs_c (aNr_R _) (fun _ q => nomatch q))

theorem dX11_ways_0 : decode cX11_ways 0 = .ok (.aload_n 0, 1) := by decide +kernel
theorem dX11_ways_1 : decode cX11_ways 1 = .ok (.getfield 22, 3) := by decide +kernel
theorem dX11_ways_4 : decode cX11_ways 4 = .ok (.iload_n 1, 1) := by decide +kernel
theorem dX11_ways_5 : decode cX11_ways 5 = .ok (.invokevirtual 122, 3) := by decide +kernel
theorem dX11_ways_8 : decode cX11_ways 8 = .ok (.ifCond .eq 28, 3) := by decide +kernel
theorem dX11_ways_11 : decode cX11_ways 11 = .ok (.iload_n 2, 1) := by decide +kernel
theorem dX11_ways_12 : decode cX11_ways 12 = .ok (.invokestatic 85, 3) := by decide +kernel
theorem dX11_ways_15 : decode cX11_ways 15 = .ok (.ifCond .eq 21, 3) := by decide +kernel
theorem dX11_ways_18 : decode cX11_ways 18 = .ok (.iload_n 3, 1) := by decide +kernel
theorem dX11_ways_19 : decode cX11_ways 19 = .ok (.iconst 0, 1) := by decide +kernel
theorem dX11_ways_20 : decode cX11_ways 20 = .ok (.bipush 30, 2) := by decide +kernel
theorem dX11_ways_22 : decode cX11_ways 22 = .ok (.invokestatic 253, 3) := by decide +kernel
theorem dX11_ways_25 : decode cX11_ways 25 = .ok (.ifCond .eq 11, 3) := by decide +kernel
theorem dX11_ways_28 : decode cX11_ways 28 = .ok (.iload 4, 2) := by decide +kernel
theorem dX11_ways_30 : decode cX11_ways 30 = .ok (.invokestatic 226, 3) := by decide +kernel
theorem dX11_ways_33 : decode cX11_ways 33 = .ok (.ifCond .ne 7, 3) := by decide +kernel
theorem dX11_ways_36 : decode cX11_ways 36 = .ok (.ldc2_w 263, 3) := by decide +kernel
theorem dX11_ways_39 : decode cX11_ways 39 = .ok (.lreturn, 1) := by decide +kernel
theorem dX11_ways_40 : decode cX11_ways 40 = .ok (.aload_n 0, 1) := by decide +kernel
theorem dX11_ways_41 : decode cX11_ways 41 = .ok (.getfield 52, 3) := by decide +kernel
theorem dX11_ways_44 : decode cX11_ways 44 = .ok (.aload_n 0, 1) := by decide +kernel
theorem dX11_ways_45 : decode cX11_ways 45 = .ok (.getfield 22, 3) := by decide +kernel
theorem dX11_ways_48 : decode cX11_ways 48 = .ok (.iload_n 1, 1) := by decide +kernel
theorem dX11_ways_49 : decode cX11_ways 49 = .ok (.iload_n 2, 1) := by decide +kernel
theorem dX11_ways_50 : decode cX11_ways 50 = .ok (.iload_n 3, 1) := by decide +kernel
theorem dX11_ways_51 : decode cX11_ways 51 = .ok (.invokevirtual 265, 3) := by decide +kernel
theorem dX11_ways_54 : decode cX11_ways 54 = .ok (.ifCond .ne 7, 3) := by decide +kernel
theorem dX11_ways_57 : decode cX11_ways 57 = .ok (.ldc2_w 263, 3) := by decide +kernel
theorem dX11_ways_60 : decode cX11_ways 60 = .ok (.lreturn, 1) := by decide +kernel
theorem dX11_ways_61 : decode cX11_ways 61 = .ok (.iload 4, 2) := by decide +kernel
theorem dX11_ways_63 : decode cX11_ways 63 = .ok (.ifCond .ne 13, 3) := by decide +kernel
theorem dX11_ways_66 : decode cX11_ways 66 = .ok (.aload_n 0, 1) := by decide +kernel
theorem dX11_ways_67 : decode cX11_ways 67 = .ok (.getfield 52, 3) := by decide +kernel
theorem dX11_ways_70 : decode cX11_ways 70 = .ok (.getfield 269, 3) := by decide +kernel
theorem dX11_ways_73 : decode cX11_ways 73 = .ok (.goto 10, 3) := by decide +kernel
theorem dX11_ways_76 : decode cX11_ways 76 = .ok (.aload_n 0, 1) := by decide +kernel
theorem dX11_ways_77 : decode cX11_ways 77 = .ok (.getfield 52, 3) := by decide +kernel
theorem dX11_ways_80 : decode cX11_ways 80 = .ok (.getfield 273, 3) := by decide +kernel
theorem dX11_ways_83 : decode cX11_ways 83 = .ok (.lreturn, 1) := by decide +kernel
set_option maxRecDepth 20000 in
theorem rX11_ways_0 {E : EN} (hE : Ep E) {k : Nat} {mem : Mm} {Q : Int → Mm → Prop} {p0 p1 p2 p3 : Int}
    (h : (R32 p0 → CI E mX10_hasPlot k mem [aR 2, aI p0] (fun r2 m1 => ((r2 = 0 → Q (-1) m1) ∧ (¬ r2 = 0 → (R32 p1 → CI E mX11_isCell k m1 [aI p1] (fun r4 m3 => ((r4 = 0 → Q (-1) m3) ∧ (¬ r4 = 0 → (R32 p2 → CI E mX11_isWithin k m3 [aI p2, aI 0, aI 30] (fun r6 m5 => ((r6 = 0 → Q (-1) m5) ∧ (¬ r6 = 0 → (R32 p3 → CI E mX11_isYesNo k m5 [aI p3] (fun r8 m7 => ((¬ r8 = 0 → (R32 p0 → R32 p1 → R32 p2 → CI E mX5_findWays k m7 [aR 552, aR 2, aI p0, aI p1, aI p2] (fun r10 m9 => ((¬ r10 = 0 → ((¬ p3 = 0 → Q (m9 552 6) m9) ∧ (p3 = 0 → Q (m9 552 5) m9))) ∧ (r10 = 0 → Q (-1) m9))))) ∧ (r8 = 0 → Q (-1) m7))))))))))))))))) :
    VM E mX11_ways (k + 1) mem 0 [(0, aR 0), (1, aI p0), (2, aI p1), (3, aI p2), (4, aI p3)] [] (retL Q) := by
  refine v_aload_n (pc := 0) dX11_ways_0 0 rfl ?_
  refine m_getfin (pc := 1) (v := 2) hE dX11_ways_1 flX11_22 rfl at0 rfl ?_
  refine v_iload_n (pc := 4) dX11_ways_4 1 rfl ?_
  refine m_invI (pc := 5) (mi' := mX10_hasPlot) (rest := []) [aI p0] dX11_ways_5 (yd0 (show isYd 2 by unfold isYd; omega)) (by decide) rfl msX10_hasPlot mvX10_hasPlot lkX11_122 rfl (Nat.le_of_ble_eq_true rfl) (fun hn => CI_mono (h (aaI hn 1 rfl)) (fun r2 m1 h => ?_))
  refine v_ifeq (pc := 8) (tgt := 36) dX11_ways_8 (by decide) (fun c1 => ?_) (fun c1 => ?_)
  · have h := h.1 c1
    refine v_ldc2 (pc := 36) (n := (-1)) dX11_ways_36 cnX11_263 (by decide) ?_
    exact m_retL (pc := 39) dX11_ways_39 rfl h
  · have h := h.2 c1
    refine v_iload_n (pc := 11) dX11_ways_11 2 rfl ?_
    refine m_invSI (pc := 12) (mi' := mX11_isCell) (rest := []) [aI p1] dX11_ways_12 msX11_isCell stX11_isCell lkX11_85 rfl (Nat.le_of_ble_eq_true rfl) (fun hn => CI_mono (h (aaI hn 0 rfl)) (fun r4 m3 h => ?_))
    refine v_ifeq (pc := 15) (tgt := 36) dX11_ways_15 (by decide) (fun c1 => ?_) (fun c1 => ?_)
    · have h := h.1 c1
      refine v_ldc2 (pc := 36) (n := (-1)) dX11_ways_36 cnX11_263 (by decide) ?_
      exact m_retL (pc := 39) dX11_ways_39 rfl h
    · have h := h.2 c1
      refine v_iload_n (pc := 18) dX11_ways_18 3 rfl ?_
      refine v_iconst (pc := 19) dX11_ways_19 (by decide) ?_
      refine v_bipush (pc := 20) dX11_ways_20 (by decide) ?_
      refine m_invSI (pc := 22) (mi' := mX11_isWithin) (rest := []) [aI p2, aI 0, aI 30] dX11_ways_22 msX11_isWithin stX11_isWithin lkX11_253 rfl (Nat.le_of_ble_eq_true rfl) (fun hn => CI_mono (h (aaI hn 0 rfl)) (fun r6 m5 h => ?_))
      refine v_ifeq (pc := 25) (tgt := 36) dX11_ways_25 (by decide) (fun c1 => ?_) (fun c1 => ?_)
      · have h := h.1 c1
        refine v_ldc2 (pc := 36) (n := (-1)) dX11_ways_36 cnX11_263 (by decide) ?_
        exact m_retL (pc := 39) dX11_ways_39 rfl h
      · have h := h.2 c1
        refine v_iload (pc := 28) dX11_ways_28 4 rfl ?_
        refine m_invSI (pc := 30) (mi' := mX11_isYesNo) (rest := []) [aI p3] dX11_ways_30 msX11_isYesNo stX11_isYesNo lkX11_226 rfl (Nat.le_of_ble_eq_true rfl) (fun hn => CI_mono (h (aaI hn 0 rfl)) (fun r8 m7 h => ?_))
        refine v_ifne (pc := 33) (tgt := 40) dX11_ways_33 (by decide) (fun c1 => ?_) (fun c1 => ?_)
        · have h := h.1 c1
          refine v_aload_n (pc := 40) dX11_ways_40 0 rfl ?_
          refine m_getfin (pc := 41) (v := 552) hE dX11_ways_41 flX11_52 rfl at0 rfl ?_
          refine v_aload_n (pc := 44) dX11_ways_44 0 rfl ?_
          refine m_getfin (pc := 45) (v := 2) hE dX11_ways_45 flX11_22 rfl at0 rfl ?_
          refine v_iload_n (pc := 48) dX11_ways_48 1 rfl ?_
          refine v_iload_n (pc := 49) dX11_ways_49 2 rfl ?_
          refine v_iload_n (pc := 50) dX11_ways_50 3 rfl ?_
          refine m_invI (pc := 51) (mi' := mX5_findWays) (rest := []) [aR 2, aI p0, aI p1, aI p2] dX11_ways_51 at552 (by decide) rfl msX5_findWays mvX5_findWays lkX11_265 rfl (Nat.le_of_ble_eq_true rfl) (fun hn => CI_mono (h (aaI hn 2 rfl) (aaI hn 3 rfl) (aaI hn 4 rfl)) (fun r10 m9 h => ?_))
          refine v_ifne (pc := 54) (tgt := 61) dX11_ways_54 (by decide) (fun c1 => ?_) (fun c1 => ?_)
          · have h := h.1 c1
            refine v_iload (pc := 61) dX11_ways_61 4 rfl ?_
            refine v_ifne (pc := 63) (tgt := 76) dX11_ways_63 (by decide) (fun c1 => ?_) (fun c1 => ?_)
            · have h := h.1 c1
              refine v_aload_n (pc := 76) dX11_ways_76 0 rfl ?_
              refine m_getfin (pc := 77) (v := 552) hE dX11_ways_77 flX11_52 rfl at0 rfl ?_
              refine m_getf (pc := 80) (t := 1) (v := (m9 552 6)) dX11_ways_80 flX11_273 rfl at552 rfl ?_
              exact m_retL (pc := 83) dX11_ways_83 rfl h
            · have h := h.2 c1
              refine v_aload_n (pc := 66) dX11_ways_66 0 rfl ?_
              refine m_getfin (pc := 67) (v := 552) hE dX11_ways_67 flX11_52 rfl at0 rfl ?_
              refine m_getf (pc := 70) (t := 1) (v := (m9 552 5)) dX11_ways_70 flX11_269 rfl at552 rfl ?_
              refine v_goto (pc := 73) (tgt := 83) dX11_ways_73 (by decide) ?_
              exact m_retL (pc := 83) dX11_ways_83 rfl h
          · have h := h.2 c1
            refine v_ldc2 (pc := 57) (n := (-1)) dX11_ways_57 cnX11_263 (by decide) ?_
            exact m_retL (pc := 60) dX11_ways_60 rfl h
        · have h := h.2 c1
          refine v_ldc2 (pc := 36) (n := (-1)) dX11_ways_36 cnX11_263 (by decide) ?_
          exact m_retL (pc := 39) dX11_ways_39 rfl h
theorem eX11_ways {E : EN} {k : Nat} {mem : Mm} {Q : Int → Mm → Prop} {p0 p1 p2 p3 : Int} (hr_p0 : R32 p0) (hr_p1 : R32 p1) (hr_p2 : R32 p2) (hr_p3 : R32 p3) (h : VM E mX11_ways (k + 1) mem 0 [(0, aR 0), (1, aI p0), (2, aI p1), (3, aI p2), (4, aI p3)] [] (retL Q)) : CL E mX11_ways (k + 1) mem [aR 0, aI p0, aI p1, aI p2, aI p3] Q := CL_of rfl (Nat.le_of_ble_eq_true rfl) h (aNs_c (aNr_R _) (aNs_c (aNr_I hr_p0) (aNs_c (aNr_I hr_p1) (aNs_c (aNr_I hr_p2) (aNs_c (aNr_I hr_p3) (fun _ q => nomatch q))))))

theorem dX11_packed_0 : decode cX11_packed 0 = .ok (.iload_n 1, 1) := by decide +kernel
theorem dX11_packed_1 : decode cX11_packed 1 = .ok (.iconst (-1), 1) := by decide +kernel
theorem dX11_packed_2 : decode cX11_packed 2 = .ok (.if_icmp .eq 16, 3) := by decide +kernel
theorem dX11_packed_5 : decode cX11_packed 5 = .ok (.aload_n 0, 1) := by decide +kernel
theorem dX11_packed_6 : decode cX11_packed 6 = .ok (.getfield 22, 3) := by decide +kernel
theorem dX11_packed_9 : decode cX11_packed 9 = .ok (.iload_n 1, 1) := by decide +kernel
theorem dX11_packed_10 : decode cX11_packed 10 = .ok (.invokevirtual 122, 3) := by decide +kernel
theorem dX11_packed_13 : decode cX11_packed 13 = .ok (.ifCond .ne 5, 3) := by decide +kernel
theorem dX11_packed_16 : decode cX11_packed 16 = .ok (.iconst (-1), 1) := by decide +kernel
theorem dX11_packed_17 : decode cX11_packed 17 = .ok (.ireturn, 1) := by decide +kernel
theorem dX11_packed_18 : decode cX11_packed 18 = .ok (.aload_n 0, 1) := by decide +kernel
theorem dX11_packed_19 : decode cX11_packed 19 = .ok (.getfield 59, 3) := by decide +kernel
theorem dX11_packed_22 : decode cX11_packed 22 = .ok (.aload_n 0, 1) := by decide +kernel
theorem dX11_packed_23 : decode cX11_packed 23 = .ok (.getfield 22, 3) := by decide +kernel
theorem dX11_packed_26 : decode cX11_packed 26 = .ok (.invokevirtual 276, 3) := by decide +kernel
theorem dX11_packed_29 : decode cX11_packed 29 = .ok (.istore_n 2, 1) := by decide +kernel
theorem dX11_packed_30 : decode cX11_packed 30 = .ok (.iload_n 1, 1) := by decide +kernel
theorem dX11_packed_31 : decode cX11_packed 31 = .ok (.iconst (-1), 1) := by decide +kernel
theorem dX11_packed_32 : decode cX11_packed 32 = .ok (.if_icmp .eq 8, 3) := by decide +kernel
theorem dX11_packed_35 : decode cX11_packed 35 = .ok (.iload_n 2, 1) := by decide +kernel
theorem dX11_packed_36 : decode cX11_packed 36 = .ok (.iconst (-1), 1) := by decide +kernel
theorem dX11_packed_37 : decode cX11_packed 37 = .ok (.if_icmp .ne 7, 3) := by decide +kernel
theorem dX11_packed_40 : decode cX11_packed 40 = .ok (.iload_n 2, 1) := by decide +kernel
theorem dX11_packed_41 : decode cX11_packed 41 = .ok (.goto 12, 3) := by decide +kernel
theorem dX11_packed_44 : decode cX11_packed 44 = .ok (.aload_n 0, 1) := by decide +kernel
theorem dX11_packed_45 : decode cX11_packed 45 = .ok (.getfield 59, 3) := by decide +kernel
theorem dX11_packed_48 : decode cX11_packed 48 = .ok (.getfield 279, 3) := by decide +kernel
theorem dX11_packed_51 : decode cX11_packed 51 = .ok (.iload_n 1, 1) := by decide +kernel
theorem dX11_packed_52 : decode cX11_packed 52 = .ok (.iaload, 1) := by decide +kernel
theorem dX11_packed_53 : decode cX11_packed 53 = .ok (.ireturn, 1) := by decide +kernel
set_option maxRecDepth 20000 in
theorem rX11_packed_0 {E : EN} (hE : Ep E) {k : Nat} {mem : Mm} {Q : Int → Mm → Prop} {p0 : Int}
    (h : ((p0 = (-1) → (CI E mX4_fewestDays k mem [aR 576, aR 2] (fun r2 m1 => ((p0 = (-1) → Q r2 m1) ∧ (¬ p0 = (-1) → ((¬ r2 = (-1) → (0 ≤ p0 ∧ p0 < 10) ∧ Q (m1 579 p0) m1) ∧ (r2 = (-1) → Q r2 m1))))))) ∧ (¬ p0 = (-1) → (R32 p0 → CI E mX10_hasPlot k mem [aR 2, aI p0] (fun r5 m4 => ((¬ r5 = 0 → (CI E mX4_fewestDays k m4 [aR 576, aR 2] (fun r7 m6 => ((p0 = (-1) → Q r7 m6) ∧ (¬ p0 = (-1) → ((¬ r7 = (-1) → (0 ≤ p0 ∧ p0 < 10) ∧ Q (m6 579 p0) m6) ∧ (r7 = (-1) → Q r7 m6))))))) ∧ (r5 = 0 → Q (-1) m4))))))) :
    VM E mX11_packed (k + 1) mem 0 [(0, aR 0), (1, aI p0)] [] (retI Q) := by
  refine v_iload_n (pc := 0) dX11_packed_0 1 rfl ?_
  refine v_iconst (pc := 1) dX11_packed_1 (by decide) ?_
  refine v_icmpeq (pc := 2) (tgt := 18) dX11_packed_2 (by decide) (fun c1 => ?_) (fun c1 => ?_)
  · have h := h.1 c1
    refine v_aload_n (pc := 18) dX11_packed_18 0 rfl ?_
    refine m_getfin (pc := 19) (v := 576) hE dX11_packed_19 flX11_59 rfl at0 rfl ?_
    refine v_aload_n (pc := 22) dX11_packed_22 0 rfl ?_
    refine m_getfin (pc := 23) (v := 2) hE dX11_packed_23 flX11_22 rfl at0 rfl ?_
    refine m_invI (pc := 26) (mi' := mX4_fewestDays) (rest := []) [aR 2] dX11_packed_26 at576 (by decide) rfl msX4_fewestDays mvX4_fewestDays lkX11_276 rfl (Nat.le_of_ble_eq_true rfl) (fun hn => CI_mono (h) (fun r2 m1 h => ?_))
    refine v_istore_n (pc := 29) (al2 := [(2, aI r2), (0, aR 0), (1, aI p0)]) dX11_packed_29 (by decide) rfl ?_
    refine v_iload_n (pc := 30) dX11_packed_30 2 rfl ?_
    refine v_iconst (pc := 31) dX11_packed_31 (by decide) ?_
    refine v_icmpeq (pc := 32) (tgt := 40) dX11_packed_32 (by decide) (fun c1 => ?_) (fun c1 => ?_)
    · have h := h.1 c1
      refine v_iload_n (pc := 40) dX11_packed_40 0 rfl ?_
      refine v_goto (pc := 41) (tgt := 53) dX11_packed_41 (by decide) ?_
      exact m_retI (pc := 53) dX11_packed_53 rfl h
    · have h := h.2 c1
      refine v_iload_n (pc := 35) dX11_packed_35 0 rfl ?_
      refine v_iconst (pc := 36) dX11_packed_36 (by decide) ?_
      refine v_icmpne (pc := 37) (tgt := 44) dX11_packed_37 (by decide) (fun c1 => ?_) (fun c1 => ?_)
      · have h := h.1 c1
        refine v_aload_n (pc := 44) dX11_packed_44 1 rfl ?_
        refine m_getfin (pc := 45) (v := 576) hE dX11_packed_45 flX11_59 rfl at0 rfl ?_
        refine m_getfin (pc := 48) (v := 579) hE dX11_packed_48 flX11_279 rfl at576 rfl ?_
        refine v_iload_n (pc := 51) dX11_packed_51 2 rfl ?_
        obtain ⟨o3, h⟩ := h
        refine m_iald (pc := 52) (v := (m1 579 p0)) dX11_packed_52 at579 o3.1 o3.2 rfl ?_
        exact m_retI (pc := 53) dX11_packed_53 rfl h
      · have h := h.2 c1
        refine v_iload_n (pc := 40) dX11_packed_40 0 rfl ?_
        refine v_goto (pc := 41) (tgt := 53) dX11_packed_41 (by decide) ?_
        exact m_retI (pc := 53) dX11_packed_53 rfl h
  · have h := h.2 c1
    refine v_aload_n (pc := 5) dX11_packed_5 0 rfl ?_
    refine m_getfin (pc := 6) (v := 2) hE dX11_packed_6 flX11_22 rfl at0 rfl ?_
    refine v_iload_n (pc := 9) dX11_packed_9 1 rfl ?_
    refine m_invI (pc := 10) (mi' := mX10_hasPlot) (rest := []) [aI p0] dX11_packed_10 (yd0 (show isYd 2 by unfold isYd; omega)) (by decide) rfl msX10_hasPlot mvX10_hasPlot lkX11_122 rfl (Nat.le_of_ble_eq_true rfl) (fun hn => CI_mono (h (aaI hn 1 rfl)) (fun r5 m4 h => ?_))
    refine v_ifne (pc := 13) (tgt := 18) dX11_packed_13 (by decide) (fun c1 => ?_) (fun c1 => ?_)
    · have h := h.1 c1
      refine v_aload_n (pc := 18) dX11_packed_18 0 rfl ?_
      refine m_getfin (pc := 19) (v := 576) hE dX11_packed_19 flX11_59 rfl at0 rfl ?_
      refine v_aload_n (pc := 22) dX11_packed_22 0 rfl ?_
      refine m_getfin (pc := 23) (v := 2) hE dX11_packed_23 flX11_22 rfl at0 rfl ?_
      refine m_invI (pc := 26) (mi' := mX4_fewestDays) (rest := []) [aR 2] dX11_packed_26 at576 (by decide) rfl msX4_fewestDays mvX4_fewestDays lkX11_276 rfl (Nat.le_of_ble_eq_true rfl) (fun hn => CI_mono (h) (fun r7 m6 h => ?_))
      refine v_istore_n (pc := 29) (al2 := [(2, aI r7), (0, aR 0), (1, aI p0)]) dX11_packed_29 (by decide) rfl ?_
      refine v_iload_n (pc := 30) dX11_packed_30 2 rfl ?_
      refine v_iconst (pc := 31) dX11_packed_31 (by decide) ?_
      refine v_icmpeq (pc := 32) (tgt := 40) dX11_packed_32 (by decide) (fun c1 => ?_) (fun c1 => ?_)
      · have h := h.1 c1
        refine v_iload_n (pc := 40) dX11_packed_40 0 rfl ?_
        refine v_goto (pc := 41) (tgt := 53) dX11_packed_41 (by decide) ?_
        exact m_retI (pc := 53) dX11_packed_53 rfl h
      · have h := h.2 c1
        refine v_iload_n (pc := 35) dX11_packed_35 0 rfl ?_
        refine v_iconst (pc := 36) dX11_packed_36 (by decide) ?_
        refine v_icmpne (pc := 37) (tgt := 44) dX11_packed_37 (by decide) (fun c1 => ?_) (fun c1 => ?_)
        · have h := h.1 c1
          refine v_aload_n (pc := 44) dX11_packed_44 1 rfl ?_
          refine m_getfin (pc := 45) (v := 576) hE dX11_packed_45 flX11_59 rfl at0 rfl ?_
          refine m_getfin (pc := 48) (v := 579) hE dX11_packed_48 flX11_279 rfl at576 rfl ?_
          refine v_iload_n (pc := 51) dX11_packed_51 2 rfl ?_
          obtain ⟨o8, h⟩ := h
          refine m_iald (pc := 52) (v := (m6 579 p0)) dX11_packed_52 at579 o8.1 o8.2 rfl ?_
          exact m_retI (pc := 53) dX11_packed_53 rfl h
        · have h := h.2 c1
          refine v_iload_n (pc := 40) dX11_packed_40 0 rfl ?_
          refine v_goto (pc := 41) (tgt := 53) dX11_packed_41 (by decide) ?_
          exact m_retI (pc := 53) dX11_packed_53 rfl h
    · have h := h.2 c1
      refine v_iconst (pc := 16) dX11_packed_16 (by decide) ?_
      exact m_retI (pc := 17) dX11_packed_17 rfl h
theorem eX11_packed {E : EN} {k : Nat} {mem : Mm} {Q : Int → Mm → Prop} {p0 : Int} (hr_p0 : R32 p0) (h : VM E mX11_packed (k + 1) mem 0 [(0, aR 0), (1, aI p0)] [] (retI Q)) : CI E mX11_packed (k + 1) mem [aR 0, aI p0] Q := CI_of rfl (Nat.le_of_ble_eq_true rfl) h (aNs_c (aNr_R _) (aNs_c (aNr_I hr_p0) (fun _ q => nomatch q)))

theorem dX11_meets_0 : decode cX11_meets 0 = .ok (.iload_n 1, 1) := by decide +kernel
theorem dX11_meets_1 : decode cX11_meets 1 = .ok (.iconst 0, 1) := by decide +kernel
theorem dX11_meets_2 : decode cX11_meets 2 = .ok (.bipush 60, 2) := by decide +kernel
theorem dX11_meets_4 : decode cX11_meets 4 = .ok (.invokestatic 253, 3) := by decide +kernel
theorem dX11_meets_7 : decode cX11_meets 7 = .ok (.ifCond .eq 8, 3) := by decide +kernel
theorem dX11_meets_10 : decode cX11_meets 10 = .ok (.iload_n 2, 1) := by decide +kernel
theorem dX11_meets_11 : decode cX11_meets 11 = .ok (.iconst (-1), 1) := by decide +kernel
theorem dX11_meets_12 : decode cX11_meets 12 = .ok (.if_icmp .ge 5, 3) := by decide +kernel
theorem dX11_meets_15 : decode cX11_meets 15 = .ok (.iconst (-1), 1) := by decide +kernel
theorem dX11_meets_16 : decode cX11_meets 16 = .ok (.ireturn, 1) := by decide +kernel
theorem dX11_meets_17 : decode cX11_meets 17 = .ok (.aload_n 0, 1) := by decide +kernel
theorem dX11_meets_18 : decode cX11_meets 18 = .ok (.getfield 52, 3) := by decide +kernel
theorem dX11_meets_21 : decode cX11_meets 21 = .ok (.aload_n 0, 1) := by decide +kernel
theorem dX11_meets_22 : decode cX11_meets 22 = .ok (.getfield 22, 3) := by decide +kernel
theorem dX11_meets_25 : decode cX11_meets 25 = .ok (.iload_n 1, 1) := by decide +kernel
theorem dX11_meets_26 : decode cX11_meets 26 = .ok (.iload_n 2, 1) := by decide +kernel
theorem dX11_meets_27 : decode cX11_meets 27 = .ok (.invokevirtual 282, 3) := by decide +kernel
theorem dX11_meets_30 : decode cX11_meets 30 = .ok (.ireturn, 1) := by decide +kernel
set_option maxRecDepth 20000 in
theorem rX11_meets_0 {E : EN} (hE : Ep E) {k : Nat} {mem : Mm} {Q : Int → Mm → Prop} {p0 p1 : Int}
    (h : (R32 p0 → CI E mX11_isWithin k mem [aI p0, aI 0, aI 60] (fun r2 m1 => ((r2 = 0 → Q (-1) m1) ∧ (¬ r2 = 0 → (((-1) ≤ p1 → (R32 p0 → R32 p1 → CI E mX5_meeting k m1 [aR 552, aR 2, aI p0, aI p1] (fun r4 m3 => Q r4 m3))) ∧ (p1 < (-1) → Q (-1) m1))))))) :
    VM E mX11_meets (k + 1) mem 0 [(0, aR 0), (1, aI p0), (2, aI p1)] [] (retI Q) := by
  refine v_iload_n (pc := 0) dX11_meets_0 1 rfl ?_
  refine v_iconst (pc := 1) dX11_meets_1 (by decide) ?_
  refine v_bipush (pc := 2) dX11_meets_2 (by decide) ?_
  refine m_invSI (pc := 4) (mi' := mX11_isWithin) (rest := []) [aI p0, aI 0, aI 60] dX11_meets_4 msX11_isWithin stX11_isWithin lkX11_253 rfl (Nat.le_of_ble_eq_true rfl) (fun hn => CI_mono (h (aaI hn 0 rfl)) (fun r2 m1 h => ?_))
  refine v_ifeq (pc := 7) (tgt := 15) dX11_meets_7 (by decide) (fun c1 => ?_) (fun c1 => ?_)
  · have h := h.1 c1
    refine v_iconst (pc := 15) dX11_meets_15 (by decide) ?_
    exact m_retI (pc := 16) dX11_meets_16 rfl h
  · have h := h.2 c1
    refine v_iload_n (pc := 10) dX11_meets_10 2 rfl ?_
    refine v_iconst (pc := 11) dX11_meets_11 (by decide) ?_
    refine v_icmpge (pc := 12) (tgt := 17) dX11_meets_12 (by decide) (fun c1 => ?_) (fun c1 => ?_)
    · have h := h.1 c1
      refine v_aload_n (pc := 17) dX11_meets_17 0 rfl ?_
      refine m_getfin (pc := 18) (v := 552) hE dX11_meets_18 flX11_52 rfl at0 rfl ?_
      refine v_aload_n (pc := 21) dX11_meets_21 0 rfl ?_
      refine m_getfin (pc := 22) (v := 2) hE dX11_meets_22 flX11_22 rfl at0 rfl ?_
      refine v_iload_n (pc := 25) dX11_meets_25 1 rfl ?_
      refine v_iload_n (pc := 26) dX11_meets_26 2 rfl ?_
      refine m_invI (pc := 27) (mi' := mX5_meeting) (rest := []) [aR 2, aI p0, aI p1] dX11_meets_27 at552 (by decide) rfl msX5_meeting mvX5_meeting lkX11_282 rfl (Nat.le_of_ble_eq_true rfl) (fun hn => CI_mono (h (aaI hn 2 rfl) (aaI hn 3 rfl)) (fun r4 m3 h => ?_))
      exact m_retI (pc := 30) dX11_meets_30 rfl h
    · have h := h.2 c1
      refine v_iconst (pc := 15) dX11_meets_15 (by decide) ?_
      exact m_retI (pc := 16) dX11_meets_16 rfl h
theorem eX11_meets {E : EN} {k : Nat} {mem : Mm} {Q : Int → Mm → Prop} {p0 p1 : Int} (hr_p0 : R32 p0) (hr_p1 : R32 p1) (h : VM E mX11_meets (k + 1) mem 0 [(0, aR 0), (1, aI p0), (2, aI p1)] [] (retI Q)) : CI E mX11_meets (k + 1) mem [aR 0, aI p0, aI p1] Q := CI_of rfl (Nat.le_of_ble_eq_true rfl) h (aNs_c (aNr_R _) (aNs_c (aNr_I hr_p0) (aNs_c (aNr_I hr_p1) (fun _ q => nomatch q))))

theorem dX11_meet_0 : decode cX11_meet 0 = .ok (.aload_n 0, 1) := by decide +kernel
theorem dX11_meet_1 : decode cX11_meet 1 = .ok (.getfield 22, 3) := by decide +kernel
theorem dX11_meet_4 : decode cX11_meet 4 = .ok (.iload_n 1, 1) := by decide +kernel
theorem dX11_meet_5 : decode cX11_meet 5 = .ok (.invokevirtual 122, 3) := by decide +kernel
theorem dX11_meet_8 : decode cX11_meet 8 = .ok (.ifCond .eq 28, 3) := by decide +kernel
theorem dX11_meet_11 : decode cX11_meet 11 = .ok (.iload_n 2, 1) := by decide +kernel
theorem dX11_meet_12 : decode cX11_meet 12 = .ok (.invokestatic 146, 3) := by decide +kernel
theorem dX11_meet_15 : decode cX11_meet 15 = .ok (.ifCond .eq 21, 3) := by decide +kernel
theorem dX11_meet_18 : decode cX11_meet 18 = .ok (.iload_n 3, 1) := by decide +kernel
theorem dX11_meet_19 : decode cX11_meet 19 = .ok (.iconst 0, 1) := by decide +kernel
theorem dX11_meet_20 : decode cX11_meet 20 = .ok (.bipush 60, 2) := by decide +kernel
theorem dX11_meet_22 : decode cX11_meet 22 = .ok (.invokestatic 253, 3) := by decide +kernel
theorem dX11_meet_25 : decode cX11_meet 25 = .ok (.ifCond .eq 11, 3) := by decide +kernel
theorem dX11_meet_28 : decode cX11_meet 28 = .ok (.iload 4, 2) := by decide +kernel
theorem dX11_meet_30 : decode cX11_meet 30 = .ok (.invokestatic 226, 3) := by decide +kernel
theorem dX11_meet_33 : decode cX11_meet 33 = .ok (.ifCond .ne 5, 3) := by decide +kernel
theorem dX11_meet_36 : decode cX11_meet 36 = .ok (.iconst (-1), 1) := by decide +kernel
theorem dX11_meet_37 : decode cX11_meet 37 = .ok (.ireturn, 1) := by decide +kernel
theorem dX11_meet_38 : decode cX11_meet 38 = .ok (.aload_n 0, 1) := by decide +kernel
theorem dX11_meet_39 : decode cX11_meet 39 = .ok (.getfield 52, 3) := by decide +kernel
theorem dX11_meet_42 : decode cX11_meet 42 = .ok (.aload_n 0, 1) := by decide +kernel
theorem dX11_meet_43 : decode cX11_meet 43 = .ok (.getfield 22, 3) := by decide +kernel
theorem dX11_meet_46 : decode cX11_meet 46 = .ok (.iload_n 1, 1) := by decide +kernel
theorem dX11_meet_47 : decode cX11_meet 47 = .ok (.iload_n 2, 1) := by decide +kernel
theorem dX11_meet_48 : decode cX11_meet 48 = .ok (.iload_n 3, 1) := by decide +kernel
theorem dX11_meet_49 : decode cX11_meet 49 = .ok (.invokevirtual 285, 3) := by decide +kernel
theorem dX11_meet_52 : decode cX11_meet 52 = .ok (.ifCond .ne 5, 3) := by decide +kernel
theorem dX11_meet_55 : decode cX11_meet 55 = .ok (.iconst (-1), 1) := by decide +kernel
theorem dX11_meet_56 : decode cX11_meet 56 = .ok (.ireturn, 1) := by decide +kernel
theorem dX11_meet_57 : decode cX11_meet 57 = .ok (.iload 4, 2) := by decide +kernel
theorem dX11_meet_59 : decode cX11_meet 59 = .ok (.ifCond .ne 13, 3) := by decide +kernel
theorem dX11_meet_62 : decode cX11_meet 62 = .ok (.aload_n 0, 1) := by decide +kernel
theorem dX11_meet_63 : decode cX11_meet 63 = .ok (.getfield 52, 3) := by decide +kernel
theorem dX11_meet_66 : decode cX11_meet 66 = .ok (.getfield 288, 3) := by decide +kernel
theorem dX11_meet_69 : decode cX11_meet 69 = .ok (.goto 10, 3) := by decide +kernel
theorem dX11_meet_72 : decode cX11_meet 72 = .ok (.aload_n 0, 1) := by decide +kernel
theorem dX11_meet_73 : decode cX11_meet 73 = .ok (.getfield 52, 3) := by decide +kernel
theorem dX11_meet_76 : decode cX11_meet 76 = .ok (.getfield 291, 3) := by decide +kernel
theorem dX11_meet_79 : decode cX11_meet 79 = .ok (.ireturn, 1) := by decide +kernel
set_option maxRecDepth 20000 in
theorem rX11_meet_0 {E : EN} (hE : Ep E) {k : Nat} {mem : Mm} {Q : Int → Mm → Prop} {p0 p1 p2 p3 : Int}
    (h : (R32 p0 → CI E mX10_hasPlot k mem [aR 2, aI p0] (fun r2 m1 => ((r2 = 0 → Q (-1) m1) ∧ (¬ r2 = 0 → (R32 p1 → CI E mX11_isFamily k m1 [aI p1] (fun r4 m3 => ((r4 = 0 → Q (-1) m3) ∧ (¬ r4 = 0 → (R32 p2 → CI E mX11_isWithin k m3 [aI p2, aI 0, aI 60] (fun r6 m5 => ((r6 = 0 → Q (-1) m5) ∧ (¬ r6 = 0 → (R32 p3 → CI E mX11_isYesNo k m5 [aI p3] (fun r8 m7 => ((¬ r8 = 0 → (R32 p0 → R32 p1 → R32 p2 → CI E mX5_findMeet k m7 [aR 552, aR 2, aI p0, aI p1, aI p2] (fun r10 m9 => ((¬ r10 = 0 → ((¬ p3 = 0 → Q (m9 552 8) m9) ∧ (p3 = 0 → Q (m9 552 7) m9))) ∧ (r10 = 0 → Q (-1) m9))))) ∧ (r8 = 0 → Q (-1) m7))))))))))))))))) :
    VM E mX11_meet (k + 1) mem 0 [(0, aR 0), (1, aI p0), (2, aI p1), (3, aI p2), (4, aI p3)] [] (retI Q) := by
  refine v_aload_n (pc := 0) dX11_meet_0 0 rfl ?_
  refine m_getfin (pc := 1) (v := 2) hE dX11_meet_1 flX11_22 rfl at0 rfl ?_
  refine v_iload_n (pc := 4) dX11_meet_4 1 rfl ?_
  refine m_invI (pc := 5) (mi' := mX10_hasPlot) (rest := []) [aI p0] dX11_meet_5 (yd0 (show isYd 2 by unfold isYd; omega)) (by decide) rfl msX10_hasPlot mvX10_hasPlot lkX11_122 rfl (Nat.le_of_ble_eq_true rfl) (fun hn => CI_mono (h (aaI hn 1 rfl)) (fun r2 m1 h => ?_))
  refine v_ifeq (pc := 8) (tgt := 36) dX11_meet_8 (by decide) (fun c1 => ?_) (fun c1 => ?_)
  · have h := h.1 c1
    refine v_iconst (pc := 36) dX11_meet_36 (by decide) ?_
    exact m_retI (pc := 37) dX11_meet_37 rfl h
  · have h := h.2 c1
    refine v_iload_n (pc := 11) dX11_meet_11 2 rfl ?_
    refine m_invSI (pc := 12) (mi' := mX11_isFamily) (rest := []) [aI p1] dX11_meet_12 msX11_isFamily stX11_isFamily lkX11_146 rfl (Nat.le_of_ble_eq_true rfl) (fun hn => CI_mono (h (aaI hn 0 rfl)) (fun r4 m3 h => ?_))
    refine v_ifeq (pc := 15) (tgt := 36) dX11_meet_15 (by decide) (fun c1 => ?_) (fun c1 => ?_)
    · have h := h.1 c1
      refine v_iconst (pc := 36) dX11_meet_36 (by decide) ?_
      exact m_retI (pc := 37) dX11_meet_37 rfl h
    · have h := h.2 c1
      refine v_iload_n (pc := 18) dX11_meet_18 3 rfl ?_
      refine v_iconst (pc := 19) dX11_meet_19 (by decide) ?_
      refine v_bipush (pc := 20) dX11_meet_20 (by decide) ?_
      refine m_invSI (pc := 22) (mi' := mX11_isWithin) (rest := []) [aI p2, aI 0, aI 60] dX11_meet_22 msX11_isWithin stX11_isWithin lkX11_253 rfl (Nat.le_of_ble_eq_true rfl) (fun hn => CI_mono (h (aaI hn 0 rfl)) (fun r6 m5 h => ?_))
      refine v_ifeq (pc := 25) (tgt := 36) dX11_meet_25 (by decide) (fun c1 => ?_) (fun c1 => ?_)
      · have h := h.1 c1
        refine v_iconst (pc := 36) dX11_meet_36 (by decide) ?_
        exact m_retI (pc := 37) dX11_meet_37 rfl h
      · have h := h.2 c1
        refine v_iload (pc := 28) dX11_meet_28 4 rfl ?_
        refine m_invSI (pc := 30) (mi' := mX11_isYesNo) (rest := []) [aI p3] dX11_meet_30 msX11_isYesNo stX11_isYesNo lkX11_226 rfl (Nat.le_of_ble_eq_true rfl) (fun hn => CI_mono (h (aaI hn 0 rfl)) (fun r8 m7 h => ?_))
        refine v_ifne (pc := 33) (tgt := 38) dX11_meet_33 (by decide) (fun c1 => ?_) (fun c1 => ?_)
        · have h := h.1 c1
          refine v_aload_n (pc := 38) dX11_meet_38 0 rfl ?_
          refine m_getfin (pc := 39) (v := 552) hE dX11_meet_39 flX11_52 rfl at0 rfl ?_
          refine v_aload_n (pc := 42) dX11_meet_42 0 rfl ?_
          refine m_getfin (pc := 43) (v := 2) hE dX11_meet_43 flX11_22 rfl at0 rfl ?_
          refine v_iload_n (pc := 46) dX11_meet_46 1 rfl ?_
          refine v_iload_n (pc := 47) dX11_meet_47 2 rfl ?_
          refine v_iload_n (pc := 48) dX11_meet_48 3 rfl ?_
          refine m_invI (pc := 49) (mi' := mX5_findMeet) (rest := []) [aR 2, aI p0, aI p1, aI p2] dX11_meet_49 at552 (by decide) rfl msX5_findMeet mvX5_findMeet lkX11_285 rfl (Nat.le_of_ble_eq_true rfl) (fun hn => CI_mono (h (aaI hn 2 rfl) (aaI hn 3 rfl) (aaI hn 4 rfl)) (fun r10 m9 h => ?_))
          refine v_ifne (pc := 52) (tgt := 57) dX11_meet_52 (by decide) (fun c1 => ?_) (fun c1 => ?_)
          · have h := h.1 c1
            refine v_iload (pc := 57) dX11_meet_57 4 rfl ?_
            refine v_ifne (pc := 59) (tgt := 72) dX11_meet_59 (by decide) (fun c1 => ?_) (fun c1 => ?_)
            · have h := h.1 c1
              refine v_aload_n (pc := 72) dX11_meet_72 0 rfl ?_
              refine m_getfin (pc := 73) (v := 552) hE dX11_meet_73 flX11_52 rfl at0 rfl ?_
              refine m_getf (pc := 76) (t := 0) (v := (m9 552 8)) dX11_meet_76 flX11_291 rfl at552 rfl ?_
              exact m_retI (pc := 79) dX11_meet_79 rfl h
            · have h := h.2 c1
              refine v_aload_n (pc := 62) dX11_meet_62 0 rfl ?_
              refine m_getfin (pc := 63) (v := 552) hE dX11_meet_63 flX11_52 rfl at0 rfl ?_
              refine m_getf (pc := 66) (t := 0) (v := (m9 552 7)) dX11_meet_66 flX11_288 rfl at552 rfl ?_
              refine v_goto (pc := 69) (tgt := 79) dX11_meet_69 (by decide) ?_
              exact m_retI (pc := 79) dX11_meet_79 rfl h
          · have h := h.2 c1
            refine v_iconst (pc := 55) dX11_meet_55 (by decide) ?_
            exact m_retI (pc := 56) dX11_meet_56 rfl h
        · have h := h.2 c1
          refine v_iconst (pc := 36) dX11_meet_36 (by decide) ?_
          exact m_retI (pc := 37) dX11_meet_37 rfl h
theorem eX11_meet {E : EN} {k : Nat} {mem : Mm} {Q : Int → Mm → Prop} {p0 p1 p2 p3 : Int} (hr_p0 : R32 p0) (hr_p1 : R32 p1) (hr_p2 : R32 p2) (hr_p3 : R32 p3) (h : VM E mX11_meet (k + 1) mem 0 [(0, aR 0), (1, aI p0), (2, aI p1), (3, aI p2), (4, aI p3)] [] (retI Q)) : CI E mX11_meet (k + 1) mem [aR 0, aI p0, aI p1, aI p2, aI p3] Q := CI_of rfl (Nat.le_of_ble_eq_true rfl) h (aNs_c (aNr_R _) (aNs_c (aNr_I hr_p0) (aNs_c (aNr_I hr_p1) (aNs_c (aNr_I hr_p2) (aNs_c (aNr_I hr_p3) (fun _ q => nomatch q))))))

theorem dX11_find_0 : decode cX11_find 0 = .ok (.iload_n 1, 1) := by decide +kernel
theorem dX11_find_1 : decode cX11_find 1 = .ok (.iconst 0, 1) := by decide +kernel
theorem dX11_find_2 : decode cX11_find 2 = .ok (.bipush 9, 2) := by decide +kernel
theorem dX11_find_4 : decode cX11_find 4 = .ok (.invokestatic 253, 3) := by decide +kernel
theorem dX11_find_7 : decode cX11_find 7 = .ok (.ifCond .eq 17, 3) := by decide +kernel
theorem dX11_find_10 : decode cX11_find 10 = .ok (.iload_n 2, 1) := by decide +kernel
theorem dX11_find_11 : decode cX11_find 11 = .ok (.invokestatic 85, 3) := by decide +kernel
theorem dX11_find_14 : decode cX11_find 14 = .ok (.ifCond .eq 10, 3) := by decide +kernel
theorem dX11_find_17 : decode cX11_find 17 = .ok (.iload_n 3, 1) := by decide +kernel
theorem dX11_find_18 : decode cX11_find 18 = .ok (.invokestatic 226, 3) := by decide +kernel
theorem dX11_find_21 : decode cX11_find 21 = .ok (.ifCond .ne 9, 3) := by decide +kernel
theorem dX11_find_24 : decode cX11_find 24 = .ok (.aload_n 0, 1) := by decide +kernel
theorem dX11_find_25 : decode cX11_find 25 = .ok (.iconst (-1), 1) := by decide +kernel
theorem dX11_find_26 : decode cX11_find 26 = .ok (.invokevirtual 93, 3) := by decide +kernel
theorem dX11_find_29 : decode cX11_find 29 = .ok (.ireturn, 1) := by decide +kernel
theorem dX11_find_30 : decode cX11_find 30 = .ok (.aload_n 0, 1) := by decide +kernel
theorem dX11_find_31 : decode cX11_find 31 = .ok (.aload_n 0, 1) := by decide +kernel
theorem dX11_find_32 : decode cX11_find 32 = .ok (.getfield 31, 3) := by decide +kernel
theorem dX11_find_35 : decode cX11_find 35 = .ok (.iload_n 1, 1) := by decide +kernel
theorem dX11_find_36 : decode cX11_find 36 = .ok (.iload_n 2, 1) := by decide +kernel
theorem dX11_find_37 : decode cX11_find 37 = .ok (.iload_n 3, 1) := by decide +kernel
theorem dX11_find_38 : decode cX11_find 38 = .ok (.invokevirtual 294, 3) := by decide +kernel
theorem dX11_find_41 : decode cX11_find 41 = .ok (.invokevirtual 233, 3) := by decide +kernel
theorem dX11_find_44 : decode cX11_find 44 = .ok (.ireturn, 1) := by decide +kernel
set_option maxRecDepth 20000 in
theorem rX11_find_0 {E : EN} (hE : Ep E) {k : Nat} {mem : Mm} {Q : Int → Mm → Prop} {p0 p1 p2 : Int}
    (h : (R32 p0 → CI E mX11_isWithin k mem [aI p0, aI 0, aI 9] (fun r2 m1 => ((r2 = 0 → (CI E mX11_refused k m1 [aR 0, aI (-1)] (fun r4 m3 => Q r4 m3))) ∧ (¬ r2 = 0 → (R32 p1 → CI E mX11_isCell k m1 [aI p1] (fun r6 m5 => ((r6 = 0 → (CI E mX11_refused k m5 [aR 0, aI (-1)] (fun r8 m7 => Q r8 m7))) ∧ (¬ r6 = 0 → (R32 p2 → CI E mX11_isYesNo k m5 [aI p2] (fun r10 m9 => ((¬ r10 = 0 → (R32 p0 → R32 p1 → R32 p2 → CI E mX1_add k m9 [aR 349, aI p0, aI p1, aI p2] (fun r12 m11 => (R32 r12 → CI E mX11_answered k m11 [aR 0, aI r12] (fun r14 m13 => Q r14 m13))))) ∧ (r10 = 0 → (CI E mX11_refused k m9 [aR 0, aI (-1)] (fun r16 m15 => Q r16 m15))))))))))))))) :
    VM E mX11_find (k + 1) mem 0 [(0, aR 0), (1, aI p0), (2, aI p1), (3, aI p2)] [] (retI Q) := by
  refine v_iload_n (pc := 0) dX11_find_0 1 rfl ?_
  refine v_iconst (pc := 1) dX11_find_1 (by decide) ?_
  refine v_bipush (pc := 2) dX11_find_2 (by decide) ?_
  refine m_invSI (pc := 4) (mi' := mX11_isWithin) (rest := []) [aI p0, aI 0, aI 9] dX11_find_4 msX11_isWithin stX11_isWithin lkX11_253 rfl (Nat.le_of_ble_eq_true rfl) (fun hn => CI_mono (h (aaI hn 0 rfl)) (fun r2 m1 h => ?_))
  refine v_ifeq (pc := 7) (tgt := 24) dX11_find_7 (by decide) (fun c1 => ?_) (fun c1 => ?_)
  · have h := h.1 c1
    refine v_aload_n (pc := 24) dX11_find_24 0 rfl ?_
    refine v_iconst (pc := 25) dX11_find_25 (by decide) ?_
    refine m_invI (pc := 26) (mi' := mX11_refused) (rest := []) [aI (-1)] dX11_find_26 at0 (by decide) rfl msX11_refused mvX11_refused lkX11_93 rfl (Nat.le_of_ble_eq_true rfl) (fun hn => CI_mono (h) (fun r4 m3 h => ?_))
    exact m_retI (pc := 29) dX11_find_29 rfl h
  · have h := h.2 c1
    refine v_iload_n (pc := 10) dX11_find_10 2 rfl ?_
    refine m_invSI (pc := 11) (mi' := mX11_isCell) (rest := []) [aI p1] dX11_find_11 msX11_isCell stX11_isCell lkX11_85 rfl (Nat.le_of_ble_eq_true rfl) (fun hn => CI_mono (h (aaI hn 0 rfl)) (fun r6 m5 h => ?_))
    refine v_ifeq (pc := 14) (tgt := 24) dX11_find_14 (by decide) (fun c1 => ?_) (fun c1 => ?_)
    · have h := h.1 c1
      refine v_aload_n (pc := 24) dX11_find_24 0 rfl ?_
      refine v_iconst (pc := 25) dX11_find_25 (by decide) ?_
      refine m_invI (pc := 26) (mi' := mX11_refused) (rest := []) [aI (-1)] dX11_find_26 at0 (by decide) rfl msX11_refused mvX11_refused lkX11_93 rfl (Nat.le_of_ble_eq_true rfl) (fun hn => CI_mono (h) (fun r8 m7 h => ?_))
      exact m_retI (pc := 29) dX11_find_29 rfl h
    · have h := h.2 c1
      refine v_iload_n (pc := 17) dX11_find_17 3 rfl ?_
      refine m_invSI (pc := 18) (mi' := mX11_isYesNo) (rest := []) [aI p2] dX11_find_18 msX11_isYesNo stX11_isYesNo lkX11_226 rfl (Nat.le_of_ble_eq_true rfl) (fun hn => CI_mono (h (aaI hn 0 rfl)) (fun r10 m9 h => ?_))
      refine v_ifne (pc := 21) (tgt := 30) dX11_find_21 (by decide) (fun c1 => ?_) (fun c1 => ?_)
      · have h := h.1 c1
        refine v_aload_n (pc := 30) dX11_find_30 0 rfl ?_
        refine v_aload_n (pc := 31) dX11_find_31 0 rfl ?_
        refine m_getfin (pc := 32) (v := 349) hE dX11_find_32 flX11_31 rfl at0 rfl ?_
        refine v_iload_n (pc := 35) dX11_find_35 1 rfl ?_
        refine v_iload_n (pc := 36) dX11_find_36 2 rfl ?_
        refine v_iload_n (pc := 37) dX11_find_37 3 rfl ?_
        refine m_invI (pc := 38) (mi' := mX1_add) (rest := [aR 0]) [aI p0, aI p1, aI p2] dX11_find_38 (fd0 (show isFd 349 by unfold isFd; omega)) (by decide) rfl msX1_add mvX1_add lkX11_294 rfl (Nat.le_of_ble_eq_true rfl) (fun hn => CI_mono (h (aaI hn 1 rfl) (aaI hn 2 rfl) (aaI hn 3 rfl)) (fun r12 m11 h => ?_))
        refine m_invI (pc := 41) (mi' := mX11_answered) (rest := []) [aI r12] dX11_find_41 at0 (by decide) rfl msX11_answered mvX11_answered lkX11_233 rfl (Nat.le_of_ble_eq_true rfl) (fun hn => CI_mono (h (aaI hn 1 rfl)) (fun r14 m13 h => ?_))
        exact m_retI (pc := 44) dX11_find_44 rfl h
      · have h := h.2 c1
        refine v_aload_n (pc := 24) dX11_find_24 0 rfl ?_
        refine v_iconst (pc := 25) dX11_find_25 (by decide) ?_
        refine m_invI (pc := 26) (mi' := mX11_refused) (rest := []) [aI (-1)] dX11_find_26 at0 (by decide) rfl msX11_refused mvX11_refused lkX11_93 rfl (Nat.le_of_ble_eq_true rfl) (fun hn => CI_mono (h) (fun r16 m15 h => ?_))
        exact m_retI (pc := 29) dX11_find_29 rfl h
theorem eX11_find {E : EN} {k : Nat} {mem : Mm} {Q : Int → Mm → Prop} {p0 p1 p2 : Int} (hr_p0 : R32 p0) (hr_p1 : R32 p1) (hr_p2 : R32 p2) (h : VM E mX11_find (k + 1) mem 0 [(0, aR 0), (1, aI p0), (2, aI p1), (3, aI p2)] [] (retI Q)) : CI E mX11_find (k + 1) mem [aR 0, aI p0, aI p1, aI p2] Q := CI_of rfl (Nat.le_of_ble_eq_true rfl) h (aNs_c (aNr_R _) (aNs_c (aNr_I hr_p0) (aNs_c (aNr_I hr_p1) (aNs_c (aNr_I hr_p2) (fun _ q => nomatch q)))))

theorem dX11_forget_0 : decode cX11_forget 0 = .ok (.aload_n 0, 1) := by decide +kernel
theorem dX11_forget_1 : decode cX11_forget 1 = .ok (.getfield 31, 3) := by decide +kernel
theorem dX11_forget_4 : decode cX11_forget 4 = .ok (.getfield 297, 3) := by decide +kernel
theorem dX11_forget_7 : decode cX11_forget 7 = .ok (.istore_n 1, 1) := by decide +kernel
theorem dX11_forget_8 : decode cX11_forget 8 = .ok (.aload_n 0, 1) := by decide +kernel
theorem dX11_forget_9 : decode cX11_forget 9 = .ok (.getfield 31, 3) := by decide +kernel
theorem dX11_forget_12 : decode cX11_forget 12 = .ok (.iconst 0, 1) := by decide +kernel
theorem dX11_forget_13 : decode cX11_forget 13 = .ok (.putfield 297, 3) := by decide +kernel
theorem dX11_forget_16 : decode cX11_forget 16 = .ok (.iload_n 1, 1) := by decide +kernel
theorem dX11_forget_17 : decode cX11_forget 17 = .ok (.ireturn, 1) := by decide +kernel
set_option maxRecDepth 20000 in
theorem rX11_forget_0 {E : EN} (hE : Ep E) {k : Nat} {mem : Mm} {Q : Int → Mm → Prop}
    (h : Q (mem 349 0) (aUp mem 349 0 0)) :
    VM E mX11_forget k mem 0 [(0, aR 0)] [] (retI Q) := by
  refine v_aload_n (pc := 0) dX11_forget_0 0 rfl ?_
  refine m_getfin (pc := 1) (v := 349) hE dX11_forget_1 flX11_31 rfl at0 rfl ?_
  refine m_getf (pc := 4) (t := 0) (v := (mem 349 0)) dX11_forget_4 flX11_297 rfl (fd0 (show isFd 349 by unfold isFd; omega)) rfl ?_
  refine v_istore_n (pc := 7) (al2 := [(1, aI (mem 349 0)), (0, aR 0)]) dX11_forget_7 (by decide) rfl ?_
  refine v_aload_n (pc := 8) dX11_forget_8 1 rfl ?_
  refine m_getfin (pc := 9) (v := 349) hE dX11_forget_9 flX11_31 rfl at0 rfl ?_
  refine v_iconst (pc := 12) dX11_forget_12 (by decide) ?_
  refine v_putf (pc := 13) dX11_forget_13 flX11_297 ⟨_, _, rfl, Or.inl rfl⟩ rfl (by decide) (fun q => nomatch q) (Or.inl fun _ => rfl) (fd0 (show isFd 349 by unfold isFd; omega)) ?_
  refine v_iload_n (pc := 16) dX11_forget_16 0 rfl ?_
  exact m_retI (pc := 17) dX11_forget_17 rfl h
theorem eX11_forget {E : EN} {k : Nat} {mem : Mm} {Q : Int → Mm → Prop}  (h : VM E mX11_forget k mem 0 [(0, aR 0)] [] (retI Q)) : CI E mX11_forget k mem [aR 0] Q := CI_of rfl (Nat.le_of_ble_eq_true rfl) h (aNs_c (aNr_R _) (fun _ q => nomatch q))

theorem dX11_hidden_0 : decode cX11_hidden 0 = .ok (.iload_n 1, 1) := by decide +kernel
theorem dX11_hidden_1 : decode cX11_hidden 1 = .ok (.iconst (-1), 1) := by decide +kernel
theorem dX11_hidden_2 : decode cX11_hidden 2 = .ok (.if_icmp .lt 15, 3) := by decide +kernel
theorem dX11_hidden_5 : decode cX11_hidden 5 = .ok (.aload_n 0, 1) := by decide +kernel
theorem dX11_hidden_6 : decode cX11_hidden 6 = .ok (.getfield 22, 3) := by decide +kernel
theorem dX11_hidden_9 : decode cX11_hidden 9 = .ok (.getfield 300, 3) := by decide +kernel
theorem dX11_hidden_12 : decode cX11_hidden 12 = .ok (.bipush 10, 2) := by decide +kernel
theorem dX11_hidden_14 : decode cX11_hidden 14 = .ok (.if_icmp .lt 5, 3) := by decide +kernel
theorem dX11_hidden_17 : decode cX11_hidden 17 = .ok (.iconst (-1), 1) := by decide +kernel
theorem dX11_hidden_18 : decode cX11_hidden 18 = .ok (.ireturn, 1) := by decide +kernel
theorem dX11_hidden_19 : decode cX11_hidden 19 = .ok (.aload_n 0, 1) := by decide +kernel
theorem dX11_hidden_20 : decode cX11_hidden 20 = .ok (.getfield 52, 3) := by decide +kernel
theorem dX11_hidden_23 : decode cX11_hidden 23 = .ok (.aload_n 0, 1) := by decide +kernel
theorem dX11_hidden_24 : decode cX11_hidden 24 = .ok (.getfield 22, 3) := by decide +kernel
theorem dX11_hidden_27 : decode cX11_hidden 27 = .ok (.aload_n 0, 1) := by decide +kernel
theorem dX11_hidden_28 : decode cX11_hidden 28 = .ok (.getfield 31, 3) := by decide +kernel
theorem dX11_hidden_31 : decode cX11_hidden 31 = .ok (.iload_n 1, 1) := by decide +kernel
theorem dX11_hidden_32 : decode cX11_hidden 32 = .ok (.invokevirtual 303, 3) := by decide +kernel
theorem dX11_hidden_35 : decode cX11_hidden 35 = .ok (.ireturn, 1) := by decide +kernel
set_option maxRecDepth 20000 in
theorem rX11_hidden_0 {E : EN} (hE : Ep E) {k : Nat} {mem : Mm} {Q : Int → Mm → Prop} {p0 : Int}
    (h : ((p0 < (-1) → Q (-1) mem) ∧ ((-1) ≤ p0 → (((mem 2 10) < 10 → (R32 p0 → CI E mX5_hiddenCell k mem [aR 552, aR 2, aR 349, aI p0] (fun r2 m1 => Q r2 m1))) ∧ (10 ≤ (mem 2 10) → Q (-1) mem))))) :
    VM E mX11_hidden (k + 1) mem 0 [(0, aR 0), (1, aI p0)] [] (retI Q) := by
  refine v_iload_n (pc := 0) dX11_hidden_0 1 rfl ?_
  refine v_iconst (pc := 1) dX11_hidden_1 (by decide) ?_
  refine v_icmplt (pc := 2) (tgt := 17) dX11_hidden_2 (by decide) (fun c1 => ?_) (fun c1 => ?_)
  · have h := h.1 c1
    refine v_iconst (pc := 17) dX11_hidden_17 (by decide) ?_
    exact m_retI (pc := 18) dX11_hidden_18 rfl h
  · have h := h.2 c1
    refine v_aload_n (pc := 5) dX11_hidden_5 0 rfl ?_
    refine m_getfin (pc := 6) (v := 2) hE dX11_hidden_6 flX11_22 rfl at0 rfl ?_
    refine m_getf (pc := 9) (t := 0) (v := (mem 2 10)) dX11_hidden_9 flX11_300 rfl (yd0 (show isYd 2 by unfold isYd; omega)) rfl ?_
    refine v_bipush (pc := 12) dX11_hidden_12 (by decide) ?_
    refine v_icmplt (pc := 14) (tgt := 19) dX11_hidden_14 (by decide) (fun c1 => ?_) (fun c1 => ?_)
    · have h := h.1 c1
      refine v_aload_n (pc := 19) dX11_hidden_19 0 rfl ?_
      refine m_getfin (pc := 20) (v := 552) hE dX11_hidden_20 flX11_52 rfl at0 rfl ?_
      refine v_aload_n (pc := 23) dX11_hidden_23 0 rfl ?_
      refine m_getfin (pc := 24) (v := 2) hE dX11_hidden_24 flX11_22 rfl at0 rfl ?_
      refine v_aload_n (pc := 27) dX11_hidden_27 0 rfl ?_
      refine m_getfin (pc := 28) (v := 349) hE dX11_hidden_28 flX11_31 rfl at0 rfl ?_
      refine v_iload_n (pc := 31) dX11_hidden_31 1 rfl ?_
      refine m_invI (pc := 32) (mi' := mX5_hiddenCell) (rest := []) [aR 2, aR 349, aI p0] dX11_hidden_32 at552 (by decide) rfl msX5_hiddenCell mvX5_hiddenCell lkX11_303 rfl (Nat.le_of_ble_eq_true rfl) (fun hn => CI_mono (h (aaI hn 3 rfl)) (fun r2 m1 h => ?_))
      exact m_retI (pc := 35) dX11_hidden_35 rfl h
    · have h := h.2 c1
      refine v_iconst (pc := 17) dX11_hidden_17 (by decide) ?_
      exact m_retI (pc := 18) dX11_hidden_18 rfl h
theorem eX11_hidden {E : EN} {k : Nat} {mem : Mm} {Q : Int → Mm → Prop} {p0 : Int} (hr_p0 : R32 p0) (h : VM E mX11_hidden (k + 1) mem 0 [(0, aR 0), (1, aI p0)] [] (retI Q)) : CI E mX11_hidden (k + 1) mem [aR 0, aI p0] Q := CI_of rfl (Nat.le_of_ble_eq_true rfl) h (aNs_c (aNr_R _) (aNs_c (aNr_I hr_p0) (fun _ q => nomatch q)))

theorem dX11_spade_0 : decode cX11_spade 0 = .ok (.iload_n 1, 1) := by decide +kernel
theorem dX11_spade_1 : decode cX11_spade 1 = .ok (.iconst 0, 1) := by decide +kernel
theorem dX11_spade_2 : decode cX11_spade 2 = .ok (.bipush 20, 2) := by decide +kernel
theorem dX11_spade_4 : decode cX11_spade 4 = .ok (.invokestatic 253, 3) := by decide +kernel
theorem dX11_spade_7 : decode cX11_spade 7 = .ok (.ifCond .eq 22, 3) := by decide +kernel
theorem dX11_spade_10 : decode cX11_spade 10 = .ok (.iload_n 2, 1) := by decide +kernel
theorem dX11_spade_11 : decode cX11_spade 11 = .ok (.invokestatic 226, 3) := by decide +kernel
theorem dX11_spade_14 : decode cX11_spade 14 = .ok (.ifCond .eq 15, 3) := by decide +kernel
theorem dX11_spade_17 : decode cX11_spade 17 = .ok (.aload_n 0, 1) := by decide +kernel
theorem dX11_spade_18 : decode cX11_spade 18 = .ok (.getfield 22, 3) := by decide +kernel
theorem dX11_spade_21 : decode cX11_spade 21 = .ok (.getfield 300, 3) := by decide +kernel
theorem dX11_spade_24 : decode cX11_spade 24 = .ok (.bipush 10, 2) := by decide +kernel
theorem dX11_spade_26 : decode cX11_spade 26 = .ok (.if_icmp .lt 5, 3) := by decide +kernel
theorem dX11_spade_29 : decode cX11_spade 29 = .ok (.iconst (-1), 1) := by decide +kernel
theorem dX11_spade_30 : decode cX11_spade 30 = .ok (.ireturn, 1) := by decide +kernel
theorem dX11_spade_31 : decode cX11_spade 31 = .ok (.aload_n 0, 1) := by decide +kernel
theorem dX11_spade_32 : decode cX11_spade 32 = .ok (.getfield 52, 3) := by decide +kernel
theorem dX11_spade_35 : decode cX11_spade 35 = .ok (.aload_n 0, 1) := by decide +kernel
theorem dX11_spade_36 : decode cX11_spade 36 = .ok (.getfield 22, 3) := by decide +kernel
theorem dX11_spade_39 : decode cX11_spade 39 = .ok (.aload_n 0, 1) := by decide +kernel
theorem dX11_spade_40 : decode cX11_spade 40 = .ok (.getfield 31, 3) := by decide +kernel
theorem dX11_spade_43 : decode cX11_spade 43 = .ok (.iload_n 1, 1) := by decide +kernel
theorem dX11_spade_44 : decode cX11_spade 44 = .ok (.invokevirtual 307, 3) := by decide +kernel
theorem dX11_spade_47 : decode cX11_spade 47 = .ok (.ifCond .ne 5, 3) := by decide +kernel
theorem dX11_spade_50 : decode cX11_spade 50 = .ok (.iconst (-1), 1) := by decide +kernel
theorem dX11_spade_51 : decode cX11_spade 51 = .ok (.ireturn, 1) := by decide +kernel
theorem dX11_spade_52 : decode cX11_spade 52 = .ok (.iload_n 2, 1) := by decide +kernel
theorem dX11_spade_53 : decode cX11_spade 53 = .ok (.ifCond .ne 13, 3) := by decide +kernel
theorem dX11_spade_56 : decode cX11_spade 56 = .ok (.aload_n 0, 1) := by decide +kernel
theorem dX11_spade_57 : decode cX11_spade 57 = .ok (.getfield 52, 3) := by decide +kernel
theorem dX11_spade_60 : decode cX11_spade 60 = .ok (.getfield 288, 3) := by decide +kernel
theorem dX11_spade_63 : decode cX11_spade 63 = .ok (.goto 10, 3) := by decide +kernel
theorem dX11_spade_66 : decode cX11_spade 66 = .ok (.aload_n 0, 1) := by decide +kernel
theorem dX11_spade_67 : decode cX11_spade 67 = .ok (.getfield 52, 3) := by decide +kernel
theorem dX11_spade_70 : decode cX11_spade 70 = .ok (.getfield 291, 3) := by decide +kernel
theorem dX11_spade_73 : decode cX11_spade 73 = .ok (.ireturn, 1) := by decide +kernel
set_option maxRecDepth 20000 in
theorem rX11_spade_0 {E : EN} (hE : Ep E) {k : Nat} {mem : Mm} {Q : Int → Mm → Prop} {p0 p1 : Int}
    (h : (R32 p0 → CI E mX11_isWithin k mem [aI p0, aI 0, aI 20] (fun r2 m1 => ((r2 = 0 → Q (-1) m1) ∧ (¬ r2 = 0 → (R32 p1 → CI E mX11_isYesNo k m1 [aI p1] (fun r4 m3 => ((r4 = 0 → Q (-1) m3) ∧ (¬ r4 = 0 → (((m3 2 10) < 10 → (R32 p0 → CI E mX5_findSpade k m3 [aR 552, aR 2, aR 349, aI p0] (fun r6 m5 => ((¬ r6 = 0 → ((¬ p1 = 0 → Q (m5 552 8) m5) ∧ (p1 = 0 → Q (m5 552 7) m5))) ∧ (r6 = 0 → Q (-1) m5))))) ∧ (10 ≤ (m3 2 10) → Q (-1) m3))))))))))) :
    VM E mX11_spade (k + 1) mem 0 [(0, aR 0), (1, aI p0), (2, aI p1)] [] (retI Q) := by
  refine v_iload_n (pc := 0) dX11_spade_0 1 rfl ?_
  refine v_iconst (pc := 1) dX11_spade_1 (by decide) ?_
  refine v_bipush (pc := 2) dX11_spade_2 (by decide) ?_
  refine m_invSI (pc := 4) (mi' := mX11_isWithin) (rest := []) [aI p0, aI 0, aI 20] dX11_spade_4 msX11_isWithin stX11_isWithin lkX11_253 rfl (Nat.le_of_ble_eq_true rfl) (fun hn => CI_mono (h (aaI hn 0 rfl)) (fun r2 m1 h => ?_))
  refine v_ifeq (pc := 7) (tgt := 29) dX11_spade_7 (by decide) (fun c1 => ?_) (fun c1 => ?_)
  · have h := h.1 c1
    refine v_iconst (pc := 29) dX11_spade_29 (by decide) ?_
    exact m_retI (pc := 30) dX11_spade_30 rfl h
  · have h := h.2 c1
    refine v_iload_n (pc := 10) dX11_spade_10 2 rfl ?_
    refine m_invSI (pc := 11) (mi' := mX11_isYesNo) (rest := []) [aI p1] dX11_spade_11 msX11_isYesNo stX11_isYesNo lkX11_226 rfl (Nat.le_of_ble_eq_true rfl) (fun hn => CI_mono (h (aaI hn 0 rfl)) (fun r4 m3 h => ?_))
    refine v_ifeq (pc := 14) (tgt := 29) dX11_spade_14 (by decide) (fun c1 => ?_) (fun c1 => ?_)
    · have h := h.1 c1
      refine v_iconst (pc := 29) dX11_spade_29 (by decide) ?_
      exact m_retI (pc := 30) dX11_spade_30 rfl h
    · have h := h.2 c1
      refine v_aload_n (pc := 17) dX11_spade_17 0 rfl ?_
      refine m_getfin (pc := 18) (v := 2) hE dX11_spade_18 flX11_22 rfl at0 rfl ?_
      refine m_getf (pc := 21) (t := 0) (v := (m3 2 10)) dX11_spade_21 flX11_300 rfl (yd0 (show isYd 2 by unfold isYd; omega)) rfl ?_
      refine v_bipush (pc := 24) dX11_spade_24 (by decide) ?_
      refine v_icmplt (pc := 26) (tgt := 31) dX11_spade_26 (by decide) (fun c1 => ?_) (fun c1 => ?_)
      · have h := h.1 c1
        refine v_aload_n (pc := 31) dX11_spade_31 0 rfl ?_
        refine m_getfin (pc := 32) (v := 552) hE dX11_spade_32 flX11_52 rfl at0 rfl ?_
        refine v_aload_n (pc := 35) dX11_spade_35 0 rfl ?_
        refine m_getfin (pc := 36) (v := 2) hE dX11_spade_36 flX11_22 rfl at0 rfl ?_
        refine v_aload_n (pc := 39) dX11_spade_39 0 rfl ?_
        refine m_getfin (pc := 40) (v := 349) hE dX11_spade_40 flX11_31 rfl at0 rfl ?_
        refine v_iload_n (pc := 43) dX11_spade_43 1 rfl ?_
        refine m_invI (pc := 44) (mi' := mX5_findSpade) (rest := []) [aR 2, aR 349, aI p0] dX11_spade_44 at552 (by decide) rfl msX5_findSpade mvX5_findSpade lkX11_307 rfl (Nat.le_of_ble_eq_true rfl) (fun hn => CI_mono (h (aaI hn 3 rfl)) (fun r6 m5 h => ?_))
        refine v_ifne (pc := 47) (tgt := 52) dX11_spade_47 (by decide) (fun c1 => ?_) (fun c1 => ?_)
        · have h := h.1 c1
          refine v_iload_n (pc := 52) dX11_spade_52 2 rfl ?_
          refine v_ifne (pc := 53) (tgt := 66) dX11_spade_53 (by decide) (fun c1 => ?_) (fun c1 => ?_)
          · have h := h.1 c1
            refine v_aload_n (pc := 66) dX11_spade_66 0 rfl ?_
            refine m_getfin (pc := 67) (v := 552) hE dX11_spade_67 flX11_52 rfl at0 rfl ?_
            refine m_getf (pc := 70) (t := 0) (v := (m5 552 8)) dX11_spade_70 flX11_291 rfl at552 rfl ?_
            exact m_retI (pc := 73) dX11_spade_73 rfl h
          · have h := h.2 c1
            refine v_aload_n (pc := 56) dX11_spade_56 0 rfl ?_
            refine m_getfin (pc := 57) (v := 552) hE dX11_spade_57 flX11_52 rfl at0 rfl ?_
            refine m_getf (pc := 60) (t := 0) (v := (m5 552 7)) dX11_spade_60 flX11_288 rfl at552 rfl ?_
            refine v_goto (pc := 63) (tgt := 73) dX11_spade_63 (by decide) ?_
            exact m_retI (pc := 73) dX11_spade_73 rfl h
        · have h := h.2 c1
          refine v_iconst (pc := 50) dX11_spade_50 (by decide) ?_
          exact m_retI (pc := 51) dX11_spade_51 rfl h
      · have h := h.2 c1
        refine v_iconst (pc := 29) dX11_spade_29 (by decide) ?_
        exact m_retI (pc := 30) dX11_spade_30 rfl h
theorem eX11_spade {E : EN} {k : Nat} {mem : Mm} {Q : Int → Mm → Prop} {p0 p1 : Int} (hr_p0 : R32 p0) (hr_p1 : R32 p1) (h : VM E mX11_spade (k + 1) mem 0 [(0, aR 0), (1, aI p0), (2, aI p1)] [] (retI Q)) : CI E mX11_spade (k + 1) mem [aR 0, aI p0, aI p1] Q := CI_of rfl (Nat.le_of_ble_eq_true rfl) h (aNs_c (aNr_R _) (aNs_c (aNr_I hr_p0) (aNs_c (aNr_I hr_p1) (fun _ q => nomatch q))))

theorem dX11_compare_0 : decode cX11_compare 0 = .ok (.iload_n 1, 1) := by decide +kernel
theorem dX11_compare_1 : decode cX11_compare 1 = .ok (.iconst (-1), 1) := by decide +kernel
theorem dX11_compare_2 : decode cX11_compare 2 = .ok (.if_icmp .eq 14, 3) := by decide +kernel
theorem dX11_compare_5 : decode cX11_compare 5 = .ok (.aload_n 0, 1) := by decide +kernel
theorem dX11_compare_6 : decode cX11_compare 6 = .ok (.getfield 38, 3) := by decide +kernel
theorem dX11_compare_9 : decode cX11_compare 9 = .ok (.iload_n 1, 1) := by decide +kernel
theorem dX11_compare_10 : decode cX11_compare 10 = .ok (.invokevirtual 213, 3) := by decide +kernel
theorem dX11_compare_13 : decode cX11_compare 13 = .ok (.ifCond .eq 13, 3) := by decide +kernel
theorem dX11_compare_16 : decode cX11_compare 16 = .ok (.iload_n 2, 1) := by decide +kernel
theorem dX11_compare_17 : decode cX11_compare 17 = .ok (.iconst 1, 1) := by decide +kernel
theorem dX11_compare_18 : decode cX11_compare 18 = .ok (.bipush 60, 2) := by decide +kernel
theorem dX11_compare_20 : decode cX11_compare 20 = .ok (.invokestatic 253, 3) := by decide +kernel
theorem dX11_compare_23 : decode cX11_compare 23 = .ok (.ifCond .ne 5, 3) := by decide +kernel
theorem dX11_compare_26 : decode cX11_compare 26 = .ok (.iconst (-1), 1) := by decide +kernel
theorem dX11_compare_27 : decode cX11_compare 27 = .ok (.ireturn, 1) := by decide +kernel
theorem dX11_compare_28 : decode cX11_compare 28 = .ok (.aload_n 0, 1) := by decide +kernel
theorem dX11_compare_29 : decode cX11_compare 29 = .ok (.getfield 52, 3) := by decide +kernel
theorem dX11_compare_32 : decode cX11_compare 32 = .ok (.aload_n 0, 1) := by decide +kernel
theorem dX11_compare_33 : decode cX11_compare 33 = .ok (.getfield 22, 3) := by decide +kernel
theorem dX11_compare_36 : decode cX11_compare 36 = .ok (.aload_n 0, 1) := by decide +kernel
theorem dX11_compare_37 : decode cX11_compare 37 = .ok (.getfield 38, 3) := by decide +kernel
theorem dX11_compare_40 : decode cX11_compare 40 = .ok (.iload_n 1, 1) := by decide +kernel
theorem dX11_compare_41 : decode cX11_compare 41 = .ok (.invokevirtual 219, 3) := by decide +kernel
theorem dX11_compare_44 : decode cX11_compare 44 = .ok (.iload_n 2, 1) := by decide +kernel
theorem dX11_compare_45 : decode cX11_compare 45 = .ok (.invokevirtual 311, 3) := by decide +kernel
theorem dX11_compare_48 : decode cX11_compare 48 = .ok (.ireturn, 1) := by decide +kernel
set_option maxRecDepth 20000 in
theorem rX11_compare_0 {E : EN} (hE : Ep E) {k : Nat} {mem : Mm} {Q : Int → Mm → Prop} {p0 p1 : Int}
    (h : ((p0 = (-1) → (R32 p1 → CI E mX11_isWithin k mem [aI p1, aI 1, aI 60] (fun r2 m1 => ((¬ r2 = 0 → (R32 p0 → CR E mX3_numbered k m1 [aR 353, aI p0] (fun r4 m3 => (R32 p1 → CI E mX5_movedBy k m3 [aR 552, aR 2, aR r4, aI p1] (fun r6 m5 => Q r6 m5))))) ∧ (r2 = 0 → Q (-1) m1))))) ∧ (¬ p0 = (-1) → (R32 p0 → CI E mX3_has k mem [aR 353, aI p0] (fun r8 m7 => ((r8 = 0 → Q (-1) m7) ∧ (¬ r8 = 0 → (R32 p1 → CI E mX11_isWithin k m7 [aI p1, aI 1, aI 60] (fun r10 m9 => ((¬ r10 = 0 → (R32 p0 → CR E mX3_numbered k m9 [aR 353, aI p0] (fun r12 m11 => (R32 p1 → CI E mX5_movedBy k m11 [aR 552, aR 2, aR r12, aI p1] (fun r14 m13 => Q r14 m13))))) ∧ (r10 = 0 → Q (-1) m9))))))))))) :
    VM E mX11_compare (k + 1) mem 0 [(0, aR 0), (1, aI p0), (2, aI p1)] [] (retI Q) := by
  refine v_iload_n (pc := 0) dX11_compare_0 1 rfl ?_
  refine v_iconst (pc := 1) dX11_compare_1 (by decide) ?_
  refine v_icmpeq (pc := 2) (tgt := 16) dX11_compare_2 (by decide) (fun c1 => ?_) (fun c1 => ?_)
  · have h := h.1 c1
    refine v_iload_n (pc := 16) dX11_compare_16 2 rfl ?_
    refine v_iconst (pc := 17) dX11_compare_17 (by decide) ?_
    refine v_bipush (pc := 18) dX11_compare_18 (by decide) ?_
    refine m_invSI (pc := 20) (mi' := mX11_isWithin) (rest := []) [aI p1, aI 1, aI 60] dX11_compare_20 msX11_isWithin stX11_isWithin lkX11_253 rfl (Nat.le_of_ble_eq_true rfl) (fun hn => CI_mono (h (aaI hn 0 rfl)) (fun r2 m1 h => ?_))
    refine v_ifne (pc := 23) (tgt := 28) dX11_compare_23 (by decide) (fun c1 => ?_) (fun c1 => ?_)
    · have h := h.1 c1
      refine v_aload_n (pc := 28) dX11_compare_28 0 rfl ?_
      refine m_getfin (pc := 29) (v := 552) hE dX11_compare_29 flX11_52 rfl at0 rfl ?_
      refine v_aload_n (pc := 32) dX11_compare_32 0 rfl ?_
      refine m_getfin (pc := 33) (v := 2) hE dX11_compare_33 flX11_22 rfl at0 rfl ?_
      refine v_aload_n (pc := 36) dX11_compare_36 0 rfl ?_
      refine m_getfin (pc := 37) (v := 353) hE dX11_compare_37 flX11_38 rfl at0 rfl ?_
      refine v_iload_n (pc := 40) dX11_compare_40 1 rfl ?_
      refine m_invR (pc := 41) (mi' := mX3_numbered) (rest := [aR 2, aR 552]) [aI p0] dX11_compare_41 (lw0 (show isLw 353 by unfold isLw; omega)) (by decide) rfl msX3_numbered mvX3_numbered lkX11_219 rfl (Nat.le_of_ble_eq_true rfl) (fun hn => CR_mono (h (aaI hn 1 rfl)) (fun r4 m3 h => ?_))
      refine v_iload_n (pc := 44) dX11_compare_44 2 rfl ?_
      refine m_invI (pc := 45) (mi' := mX5_movedBy) (rest := []) [aR 2, aR r4, aI p1] dX11_compare_45 at552 (by decide) rfl msX5_movedBy mvX5_movedBy lkX11_311 rfl (Nat.le_of_ble_eq_true rfl) (fun hn => CI_mono (h (aaI hn 3 rfl)) (fun r6 m5 h => ?_))
      exact m_retI (pc := 48) dX11_compare_48 rfl h
    · have h := h.2 c1
      refine v_iconst (pc := 26) dX11_compare_26 (by decide) ?_
      exact m_retI (pc := 27) dX11_compare_27 rfl h
  · have h := h.2 c1
    refine v_aload_n (pc := 5) dX11_compare_5 0 rfl ?_
    refine m_getfin (pc := 6) (v := 353) hE dX11_compare_6 flX11_38 rfl at0 rfl ?_
    refine v_iload_n (pc := 9) dX11_compare_9 1 rfl ?_
    refine m_invI (pc := 10) (mi' := mX3_has) (rest := []) [aI p0] dX11_compare_10 (lw0 (show isLw 353 by unfold isLw; omega)) (by decide) rfl msX3_has mvX3_has lkX11_213 rfl (Nat.le_of_ble_eq_true rfl) (fun hn => CI_mono (h (aaI hn 1 rfl)) (fun r8 m7 h => ?_))
    refine v_ifeq (pc := 13) (tgt := 26) dX11_compare_13 (by decide) (fun c1 => ?_) (fun c1 => ?_)
    · have h := h.1 c1
      refine v_iconst (pc := 26) dX11_compare_26 (by decide) ?_
      exact m_retI (pc := 27) dX11_compare_27 rfl h
    · have h := h.2 c1
      refine v_iload_n (pc := 16) dX11_compare_16 2 rfl ?_
      refine v_iconst (pc := 17) dX11_compare_17 (by decide) ?_
      refine v_bipush (pc := 18) dX11_compare_18 (by decide) ?_
      refine m_invSI (pc := 20) (mi' := mX11_isWithin) (rest := []) [aI p1, aI 1, aI 60] dX11_compare_20 msX11_isWithin stX11_isWithin lkX11_253 rfl (Nat.le_of_ble_eq_true rfl) (fun hn => CI_mono (h (aaI hn 0 rfl)) (fun r10 m9 h => ?_))
      refine v_ifne (pc := 23) (tgt := 28) dX11_compare_23 (by decide) (fun c1 => ?_) (fun c1 => ?_)
      · have h := h.1 c1
        refine v_aload_n (pc := 28) dX11_compare_28 0 rfl ?_
        refine m_getfin (pc := 29) (v := 552) hE dX11_compare_29 flX11_52 rfl at0 rfl ?_
        refine v_aload_n (pc := 32) dX11_compare_32 0 rfl ?_
        refine m_getfin (pc := 33) (v := 2) hE dX11_compare_33 flX11_22 rfl at0 rfl ?_
        refine v_aload_n (pc := 36) dX11_compare_36 0 rfl ?_
        refine m_getfin (pc := 37) (v := 353) hE dX11_compare_37 flX11_38 rfl at0 rfl ?_
        refine v_iload_n (pc := 40) dX11_compare_40 1 rfl ?_
        refine m_invR (pc := 41) (mi' := mX3_numbered) (rest := [aR 2, aR 552]) [aI p0] dX11_compare_41 (lw0 (show isLw 353 by unfold isLw; omega)) (by decide) rfl msX3_numbered mvX3_numbered lkX11_219 rfl (Nat.le_of_ble_eq_true rfl) (fun hn => CR_mono (h (aaI hn 1 rfl)) (fun r12 m11 h => ?_))
        refine v_iload_n (pc := 44) dX11_compare_44 2 rfl ?_
        refine m_invI (pc := 45) (mi' := mX5_movedBy) (rest := []) [aR 2, aR r12, aI p1] dX11_compare_45 at552 (by decide) rfl msX5_movedBy mvX5_movedBy lkX11_311 rfl (Nat.le_of_ble_eq_true rfl) (fun hn => CI_mono (h (aaI hn 3 rfl)) (fun r14 m13 h => ?_))
        exact m_retI (pc := 48) dX11_compare_48 rfl h
      · have h := h.2 c1
        refine v_iconst (pc := 26) dX11_compare_26 (by decide) ?_
        exact m_retI (pc := 27) dX11_compare_27 rfl h
theorem eX11_compare {E : EN} {k : Nat} {mem : Mm} {Q : Int → Mm → Prop} {p0 p1 : Int} (hr_p0 : R32 p0) (hr_p1 : R32 p1) (h : VM E mX11_compare (k + 1) mem 0 [(0, aR 0), (1, aI p0), (2, aI p1)] [] (retI Q)) : CI E mX11_compare (k + 1) mem [aR 0, aI p0, aI p1] Q := CI_of rfl (Nat.le_of_ble_eq_true rfl) h (aNs_c (aNr_R _) (aNs_c (aNr_I hr_p0) (aNs_c (aNr_I hr_p1) (fun _ q => nomatch q))))

theorem dX11_arrives_0 : decode cX11_arrives 0 = .ok (.aload_n 0, 1) := by decide +kernel
theorem dX11_arrives_1 : decode cX11_arrives 1 = .ok (.getfield 22, 3) := by decide +kernel
theorem dX11_arrives_4 : decode cX11_arrives 4 = .ok (.iload_n 1, 1) := by decide +kernel
theorem dX11_arrives_5 : decode cX11_arrives 5 = .ok (.invokevirtual 122, 3) := by decide +kernel
theorem dX11_arrives_8 : decode cX11_arrives 8 = .ok (.ifCond .eq 20, 3) := by decide +kernel
theorem dX11_arrives_11 : decode cX11_arrives 11 = .ok (.iload_n 2, 1) := by decide +kernel
theorem dX11_arrives_12 : decode cX11_arrives 12 = .ok (.invokestatic 85, 3) := by decide +kernel
theorem dX11_arrives_15 : decode cX11_arrives 15 = .ok (.ifCond .eq 13, 3) := by decide +kernel
theorem dX11_arrives_18 : decode cX11_arrives 18 = .ok (.iload_n 3, 1) := by decide +kernel
theorem dX11_arrives_19 : decode cX11_arrives 19 = .ok (.iconst 0, 1) := by decide +kernel
theorem dX11_arrives_20 : decode cX11_arrives 20 = .ok (.bipush 40, 2) := by decide +kernel
theorem dX11_arrives_22 : decode cX11_arrives 22 = .ok (.invokestatic 253, 3) := by decide +kernel
theorem dX11_arrives_25 : decode cX11_arrives 25 = .ok (.ifCond .ne 7, 3) := by decide +kernel
theorem dX11_arrives_28 : decode cX11_arrives 28 = .ok (.ldc2_w 263, 3) := by decide +kernel
theorem dX11_arrives_31 : decode cX11_arrives 31 = .ok (.lreturn, 1) := by decide +kernel
theorem dX11_arrives_32 : decode cX11_arrives 32 = .ok (.aload_n 0, 1) := by decide +kernel
theorem dX11_arrives_33 : decode cX11_arrives 33 = .ok (.getfield 52, 3) := by decide +kernel
theorem dX11_arrives_36 : decode cX11_arrives 36 = .ok (.aload_n 0, 1) := by decide +kernel
theorem dX11_arrives_37 : decode cX11_arrives 37 = .ok (.getfield 22, 3) := by decide +kernel
theorem dX11_arrives_40 : decode cX11_arrives 40 = .ok (.iload_n 1, 1) := by decide +kernel
theorem dX11_arrives_41 : decode cX11_arrives 41 = .ok (.iload_n 2, 1) := by decide +kernel
theorem dX11_arrives_42 : decode cX11_arrives 42 = .ok (.iload_n 3, 1) := by decide +kernel
theorem dX11_arrives_43 : decode cX11_arrives 43 = .ok (.invokevirtual 315, 3) := by decide +kernel
theorem dX11_arrives_46 : decode cX11_arrives 46 = .ok (.lreturn, 1) := by decide +kernel
set_option maxRecDepth 20000 in
theorem rX11_arrives_0 {E : EN} (hE : Ep E) {k : Nat} {mem : Mm} {Q : Int → Mm → Prop} {p0 p1 p2 : Int}
    (h : (R32 p0 → CI E mX10_hasPlot k mem [aR 2, aI p0] (fun r2 m1 => ((r2 = 0 → Q (-1) m1) ∧ (¬ r2 = 0 → (R32 p1 → CI E mX11_isCell k m1 [aI p1] (fun r4 m3 => ((r4 = 0 → Q (-1) m3) ∧ (¬ r4 = 0 → (R32 p2 → CI E mX11_isWithin k m3 [aI p2, aI 0, aI 40] (fun r6 m5 => ((¬ r6 = 0 → (R32 p0 → R32 p1 → R32 p2 → CL E mX5_chanceOf k m5 [aR 552, aR 2, aI p0, aI p1, aI p2] (fun r8 m7 => Q r8 m7))) ∧ (r6 = 0 → Q (-1) m5))))))))))))) :
    VM E mX11_arrives (k + 1) mem 0 [(0, aR 0), (1, aI p0), (2, aI p1), (3, aI p2)] [] (retL Q) := by
  refine v_aload_n (pc := 0) dX11_arrives_0 0 rfl ?_
  refine m_getfin (pc := 1) (v := 2) hE dX11_arrives_1 flX11_22 rfl at0 rfl ?_
  refine v_iload_n (pc := 4) dX11_arrives_4 1 rfl ?_
  refine m_invI (pc := 5) (mi' := mX10_hasPlot) (rest := []) [aI p0] dX11_arrives_5 (yd0 (show isYd 2 by unfold isYd; omega)) (by decide) rfl msX10_hasPlot mvX10_hasPlot lkX11_122 rfl (Nat.le_of_ble_eq_true rfl) (fun hn => CI_mono (h (aaI hn 1 rfl)) (fun r2 m1 h => ?_))
  refine v_ifeq (pc := 8) (tgt := 28) dX11_arrives_8 (by decide) (fun c1 => ?_) (fun c1 => ?_)
  · have h := h.1 c1
    refine v_ldc2 (pc := 28) (n := (-1)) dX11_arrives_28 cnX11_263 (by decide) ?_
    exact m_retL (pc := 31) dX11_arrives_31 rfl h
  · have h := h.2 c1
    refine v_iload_n (pc := 11) dX11_arrives_11 2 rfl ?_
    refine m_invSI (pc := 12) (mi' := mX11_isCell) (rest := []) [aI p1] dX11_arrives_12 msX11_isCell stX11_isCell lkX11_85 rfl (Nat.le_of_ble_eq_true rfl) (fun hn => CI_mono (h (aaI hn 0 rfl)) (fun r4 m3 h => ?_))
    refine v_ifeq (pc := 15) (tgt := 28) dX11_arrives_15 (by decide) (fun c1 => ?_) (fun c1 => ?_)
    · have h := h.1 c1
      refine v_ldc2 (pc := 28) (n := (-1)) dX11_arrives_28 cnX11_263 (by decide) ?_
      exact m_retL (pc := 31) dX11_arrives_31 rfl h
    · have h := h.2 c1
      refine v_iload_n (pc := 18) dX11_arrives_18 3 rfl ?_
      refine v_iconst (pc := 19) dX11_arrives_19 (by decide) ?_
      refine v_bipush (pc := 20) dX11_arrives_20 (by decide) ?_
      refine m_invSI (pc := 22) (mi' := mX11_isWithin) (rest := []) [aI p2, aI 0, aI 40] dX11_arrives_22 msX11_isWithin stX11_isWithin lkX11_253 rfl (Nat.le_of_ble_eq_true rfl) (fun hn => CI_mono (h (aaI hn 0 rfl)) (fun r6 m5 h => ?_))
      refine v_ifne (pc := 25) (tgt := 32) dX11_arrives_25 (by decide) (fun c1 => ?_) (fun c1 => ?_)
      · have h := h.1 c1
        refine v_aload_n (pc := 32) dX11_arrives_32 0 rfl ?_
        refine m_getfin (pc := 33) (v := 552) hE dX11_arrives_33 flX11_52 rfl at0 rfl ?_
        refine v_aload_n (pc := 36) dX11_arrives_36 0 rfl ?_
        refine m_getfin (pc := 37) (v := 2) hE dX11_arrives_37 flX11_22 rfl at0 rfl ?_
        refine v_iload_n (pc := 40) dX11_arrives_40 1 rfl ?_
        refine v_iload_n (pc := 41) dX11_arrives_41 2 rfl ?_
        refine v_iload_n (pc := 42) dX11_arrives_42 3 rfl ?_
        refine m_invL (pc := 43) (mi' := mX5_chanceOf) (rest := []) [aR 2, aI p0, aI p1, aI p2] dX11_arrives_43 at552 (by decide) rfl msX5_chanceOf mvX5_chanceOf lkX11_315 rfl (Nat.le_of_ble_eq_true rfl) (fun hn => CL_mono (h (aaI hn 2 rfl) (aaI hn 3 rfl) (aaI hn 4 rfl)) (fun r8 m7 h => ?_))
        exact m_retL (pc := 46) dX11_arrives_46 rfl h
      · have h := h.2 c1
        refine v_ldc2 (pc := 28) (n := (-1)) dX11_arrives_28 cnX11_263 (by decide) ?_
        exact m_retL (pc := 31) dX11_arrives_31 rfl h
theorem eX11_arrives {E : EN} {k : Nat} {mem : Mm} {Q : Int → Mm → Prop} {p0 p1 p2 : Int} (hr_p0 : R32 p0) (hr_p1 : R32 p1) (hr_p2 : R32 p2) (h : VM E mX11_arrives (k + 1) mem 0 [(0, aR 0), (1, aI p0), (2, aI p1), (3, aI p2)] [] (retL Q)) : CL E mX11_arrives (k + 1) mem [aR 0, aI p0, aI p1, aI p2] Q := CL_of rfl (Nat.le_of_ble_eq_true rfl) h (aNs_c (aNr_R _) (aNs_c (aNr_I hr_p0) (aNs_c (aNr_I hr_p1) (aNs_c (aNr_I hr_p2) (fun _ q => nomatch q)))))

theorem dX11_round_0 : decode cX11_round 0 = .ok (.aload_n 0, 1) := by decide +kernel
theorem dX11_round_1 : decode cX11_round 1 = .ok (.getfield 22, 3) := by decide +kernel
theorem dX11_round_4 : decode cX11_round 4 = .ok (.iload_n 1, 1) := by decide +kernel
theorem dX11_round_5 : decode cX11_round 5 = .ok (.invokevirtual 122, 3) := by decide +kernel
theorem dX11_round_8 : decode cX11_round 8 = .ok (.ifCond .eq 18, 3) := by decide +kernel
theorem dX11_round_11 : decode cX11_round 11 = .ok (.aload_n 0, 1) := by decide +kernel
theorem dX11_round_12 : decode cX11_round 12 = .ok (.getfield 52, 3) := by decide +kernel
theorem dX11_round_15 : decode cX11_round 15 = .ok (.aload_n 0, 1) := by decide +kernel
theorem dX11_round_16 : decode cX11_round 16 = .ok (.getfield 22, 3) := by decide +kernel
theorem dX11_round_19 : decode cX11_round 19 = .ok (.iload_n 1, 1) := by decide +kernel
theorem dX11_round_20 : decode cX11_round 20 = .ok (.invokevirtual 319, 3) := by decide +kernel
theorem dX11_round_23 : decode cX11_round 23 = .ok (.goto 4, 3) := by decide +kernel
theorem dX11_round_26 : decode cX11_round 26 = .ok (.iconst (-1), 1) := by decide +kernel
theorem dX11_round_27 : decode cX11_round 27 = .ok (.ireturn, 1) := by decide +kernel
set_option maxRecDepth 20000 in
theorem rX11_round_0 {E : EN} (hE : Ep E) {k : Nat} {mem : Mm} {Q : Int → Mm → Prop} {p0 : Int}
    (h : (R32 p0 → CI E mX10_hasPlot k mem [aR 2, aI p0] (fun r2 m1 => ((r2 = 0 → Q (-1) m1) ∧ (¬ r2 = 0 → (R32 p0 → CI E mX5_yearsRound k m1 [aR 552, aR 2, aI p0] (fun r4 m3 => Q r4 m3))))))) :
    VM E mX11_round (k + 1) mem 0 [(0, aR 0), (1, aI p0)] [] (retI Q) := by
  refine v_aload_n (pc := 0) dX11_round_0 0 rfl ?_
  refine m_getfin (pc := 1) (v := 2) hE dX11_round_1 flX11_22 rfl at0 rfl ?_
  refine v_iload_n (pc := 4) dX11_round_4 1 rfl ?_
  refine m_invI (pc := 5) (mi' := mX10_hasPlot) (rest := []) [aI p0] dX11_round_5 (yd0 (show isYd 2 by unfold isYd; omega)) (by decide) rfl msX10_hasPlot mvX10_hasPlot lkX11_122 rfl (Nat.le_of_ble_eq_true rfl) (fun hn => CI_mono (h (aaI hn 1 rfl)) (fun r2 m1 h => ?_))
  refine v_ifeq (pc := 8) (tgt := 26) dX11_round_8 (by decide) (fun c1 => ?_) (fun c1 => ?_)
  · have h := h.1 c1
    refine v_iconst (pc := 26) dX11_round_26 (by decide) ?_
    exact m_retI (pc := 27) dX11_round_27 rfl h
  · have h := h.2 c1
    refine v_aload_n (pc := 11) dX11_round_11 0 rfl ?_
    refine m_getfin (pc := 12) (v := 552) hE dX11_round_12 flX11_52 rfl at0 rfl ?_
    refine v_aload_n (pc := 15) dX11_round_15 0 rfl ?_
    refine m_getfin (pc := 16) (v := 2) hE dX11_round_16 flX11_22 rfl at0 rfl ?_
    refine v_iload_n (pc := 19) dX11_round_19 1 rfl ?_
    refine m_invI (pc := 20) (mi' := mX5_yearsRound) (rest := []) [aR 2, aI p0] dX11_round_20 at552 (by decide) rfl msX5_yearsRound mvX5_yearsRound lkX11_319 rfl (Nat.le_of_ble_eq_true rfl) (fun hn => CI_mono (h (aaI hn 2 rfl)) (fun r4 m3 h => ?_))
    refine v_goto (pc := 23) (tgt := 27) dX11_round_23 (by decide) ?_
    exact m_retI (pc := 27) dX11_round_27 rfl h
theorem eX11_round {E : EN} {k : Nat} {mem : Mm} {Q : Int → Mm → Prop} {p0 : Int} (hr_p0 : R32 p0) (h : VM E mX11_round (k + 1) mem 0 [(0, aR 0), (1, aI p0)] [] (retI Q)) : CI E mX11_round (k + 1) mem [aR 0, aI p0] Q := CI_of rfl (Nat.le_of_ble_eq_true rfl) h (aNs_c (aNr_R _) (aNs_c (aNr_I hr_p0) (fun _ q => nomatch q)))

theorem dX11_centuries_0 : decode cX11_centuries 0 = .ok (.iload_n 1, 1) := by decide +kernel
theorem dX11_centuries_1 : decode cX11_centuries 1 = .ok (.iconst 0, 1) := by decide +kernel
theorem dX11_centuries_2 : decode cX11_centuries 2 = .ok (.ldc_w 323, 3) := by decide +kernel
theorem dX11_centuries_5 : decode cX11_centuries 5 = .ok (.invokestatic 253, 3) := by decide +kernel
theorem dX11_centuries_8 : decode cX11_centuries 8 = .ok (.ifCond .eq 13, 3) := by decide +kernel
theorem dX11_centuries_11 : decode cX11_centuries 11 = .ok (.iload_n 2, 1) := by decide +kernel
theorem dX11_centuries_12 : decode cX11_centuries 12 = .ok (.iconst 1, 1) := by decide +kernel
theorem dX11_centuries_13 : decode cX11_centuries 13 = .ok (.bipush 100, 2) := by decide +kernel
theorem dX11_centuries_15 : decode cX11_centuries 15 = .ok (.invokestatic 253, 3) := by decide +kernel
theorem dX11_centuries_18 : decode cX11_centuries 18 = .ok (.ifCond .ne 9, 3) := by decide +kernel
theorem dX11_centuries_21 : decode cX11_centuries 21 = .ok (.aload_n 0, 1) := by decide +kernel
theorem dX11_centuries_22 : decode cX11_centuries 22 = .ok (.iconst (-1), 1) := by decide +kernel
theorem dX11_centuries_23 : decode cX11_centuries 23 = .ok (.invokevirtual 93, 3) := by decide +kernel
theorem dX11_centuries_26 : decode cX11_centuries 26 = .ok (.ireturn, 1) := by decide +kernel
theorem dX11_centuries_27 : decode cX11_centuries 27 = .ok (.aload_n 0, 1) := by decide +kernel
theorem dX11_centuries_28 : decode cX11_centuries 28 = .ok (.aload_n 0, 1) := by decide +kernel
theorem dX11_centuries_29 : decode cX11_centuries 29 = .ok (.getfield 66, 3) := by decide +kernel
theorem dX11_centuries_32 : decode cX11_centuries 32 = .ok (.aload_n 0, 1) := by decide +kernel
theorem dX11_centuries_33 : decode cX11_centuries 33 = .ok (.getfield 22, 3) := by decide +kernel
theorem dX11_centuries_36 : decode cX11_centuries 36 = .ok (.iload_n 1, 1) := by decide +kernel
theorem dX11_centuries_37 : decode cX11_centuries 37 = .ok (.iload_n 2, 1) := by decide +kernel
theorem dX11_centuries_38 : decode cX11_centuries 38 = .ok (.invokevirtual 324, 3) := by decide +kernel
theorem dX11_centuries_41 : decode cX11_centuries 41 = .ok (.invokevirtual 116, 3) := by decide +kernel
theorem dX11_centuries_44 : decode cX11_centuries 44 = .ok (.ireturn, 1) := by decide +kernel
set_option maxRecDepth 20000 in
theorem rX11_centuries_0 {E : EN} (hE : Ep E) {k : Nat} {mem : Mm} {Q : Int → Mm → Prop} {p0 p1 : Int}
    (h : (R32 p0 → CI E mX11_isWithin k mem [aI p0, aI 0, aI 1000000] (fun r2 m1 => ((r2 = 0 → (CI E mX11_refused k m1 [aR 0, aI (-1)] (fun r4 m3 => Q r4 m3))) ∧ (¬ r2 = 0 → (R32 p1 → CI E mX11_isWithin k m1 [aI p1, aI 1, aI 100] (fun r6 m5 => ((¬ r6 = 0 → (R32 p0 → R32 p1 → CI E mX0_run k m5 [aR 580, aR 2, aI p0, aI p1] (fun r8 m7 => (R32 r8 → CI E mX11_granted k m7 [aR 0, aI r8] (fun r10 m9 => Q r10 m9))))) ∧ (r6 = 0 → (CI E mX11_refused k m5 [aR 0, aI (-1)] (fun r12 m11 => Q r12 m11))))))))))) :
    VM E mX11_centuries (k + 1) mem 0 [(0, aR 0), (1, aI p0), (2, aI p1)] [] (retI Q) := by
  refine v_iload_n (pc := 0) dX11_centuries_0 1 rfl ?_
  refine v_iconst (pc := 1) dX11_centuries_1 (by decide) ?_
  refine v_ldcw (pc := 2) (n := 1000000) dX11_centuries_2 cnX11_323 (by decide) ?_
  refine m_invSI (pc := 5) (mi' := mX11_isWithin) (rest := []) [aI p0, aI 0, aI 1000000] dX11_centuries_5 msX11_isWithin stX11_isWithin lkX11_253 rfl (Nat.le_of_ble_eq_true rfl) (fun hn => CI_mono (h (aaI hn 0 rfl)) (fun r2 m1 h => ?_))
  refine v_ifeq (pc := 8) (tgt := 21) dX11_centuries_8 (by decide) (fun c1 => ?_) (fun c1 => ?_)
  · have h := h.1 c1
    refine v_aload_n (pc := 21) dX11_centuries_21 0 rfl ?_
    refine v_iconst (pc := 22) dX11_centuries_22 (by decide) ?_
    refine m_invI (pc := 23) (mi' := mX11_refused) (rest := []) [aI (-1)] dX11_centuries_23 at0 (by decide) rfl msX11_refused mvX11_refused lkX11_93 rfl (Nat.le_of_ble_eq_true rfl) (fun hn => CI_mono (h) (fun r4 m3 h => ?_))
    exact m_retI (pc := 26) dX11_centuries_26 rfl h
  · have h := h.2 c1
    refine v_iload_n (pc := 11) dX11_centuries_11 2 rfl ?_
    refine v_iconst (pc := 12) dX11_centuries_12 (by decide) ?_
    refine v_bipush (pc := 13) dX11_centuries_13 (by decide) ?_
    refine m_invSI (pc := 15) (mi' := mX11_isWithin) (rest := []) [aI p1, aI 1, aI 100] dX11_centuries_15 msX11_isWithin stX11_isWithin lkX11_253 rfl (Nat.le_of_ble_eq_true rfl) (fun hn => CI_mono (h (aaI hn 0 rfl)) (fun r6 m5 h => ?_))
    refine v_ifne (pc := 18) (tgt := 27) dX11_centuries_18 (by decide) (fun c1 => ?_) (fun c1 => ?_)
    · have h := h.1 c1
      refine v_aload_n (pc := 27) dX11_centuries_27 0 rfl ?_
      refine v_aload_n (pc := 28) dX11_centuries_28 0 rfl ?_
      refine m_getfin (pc := 29) (v := 580) hE dX11_centuries_29 flX11_66 rfl at0 rfl ?_
      refine v_aload_n (pc := 32) dX11_centuries_32 0 rfl ?_
      refine m_getfin (pc := 33) (v := 2) hE dX11_centuries_33 flX11_22 rfl at0 rfl ?_
      refine v_iload_n (pc := 36) dX11_centuries_36 1 rfl ?_
      refine v_iload_n (pc := 37) dX11_centuries_37 2 rfl ?_
      refine m_invI (pc := 38) (mi' := mX0_run) (rest := [aR 0]) [aR 2, aI p0, aI p1] dX11_centuries_38 at580 (by decide) rfl msX0_run mvX0_run lkX11_324 rfl (Nat.le_of_ble_eq_true rfl) (fun hn => CI_mono (h (aaI hn 2 rfl) (aaI hn 3 rfl)) (fun r8 m7 h => ?_))
      refine m_invI (pc := 41) (mi' := mX11_granted) (rest := []) [aI r8] dX11_centuries_41 at0 (by decide) rfl msX11_granted mvX11_granted lkX11_116 rfl (Nat.le_of_ble_eq_true rfl) (fun hn => CI_mono (h (aaI hn 1 rfl)) (fun r10 m9 h => ?_))
      exact m_retI (pc := 44) dX11_centuries_44 rfl h
    · have h := h.2 c1
      refine v_aload_n (pc := 21) dX11_centuries_21 0 rfl ?_
      refine v_iconst (pc := 22) dX11_centuries_22 (by decide) ?_
      refine m_invI (pc := 23) (mi' := mX11_refused) (rest := []) [aI (-1)] dX11_centuries_23 at0 (by decide) rfl msX11_refused mvX11_refused lkX11_93 rfl (Nat.le_of_ble_eq_true rfl) (fun hn => CI_mono (h) (fun r12 m11 h => ?_))
      exact m_retI (pc := 26) dX11_centuries_26 rfl h
theorem eX11_centuries {E : EN} {k : Nat} {mem : Mm} {Q : Int → Mm → Prop} {p0 p1 : Int} (hr_p0 : R32 p0) (hr_p1 : R32 p1) (h : VM E mX11_centuries (k + 1) mem 0 [(0, aR 0), (1, aI p0), (2, aI p1)] [] (retI Q)) : CI E mX11_centuries (k + 1) mem [aR 0, aI p0, aI p1] Q := CI_of rfl (Nat.le_of_ble_eq_true rfl) h (aNs_c (aNr_R _) (aNs_c (aNr_I hr_p0) (aNs_c (aNr_I hr_p1) (fun _ q => nomatch q))))

theorem dX11_drawn_0 : decode cX11_drawn 0 = .ok (.aload_n 0, 1) := by decide +kernel
theorem dX11_drawn_1 : decode cX11_drawn 1 = .ok (.getfield 66, 3) := by decide +kernel
theorem dX11_drawn_4 : decode cX11_drawn 4 = .ok (.getfield 327, 3) := by decide +kernel
theorem dX11_drawn_7 : decode cX11_drawn 7 = .ok (.astore_n 3, 1) := by decide +kernel
theorem dX11_drawn_8 : decode cX11_drawn 8 = .ok (.aload_n 3, 1) := by decide +kernel
theorem dX11_drawn_9 : decode cX11_drawn 9 = .ok (.iload_n 1, 1) := by decide +kernel
theorem dX11_drawn_10 : decode cX11_drawn 10 = .ok (.invokevirtual 122, 3) := by decide +kernel
theorem dX11_drawn_13 : decode cX11_drawn 13 = .ok (.ifCond .ne 5, 3) := by decide +kernel
theorem dX11_drawn_16 : decode cX11_drawn 16 = .ok (.iconst (-1), 1) := by decide +kernel
theorem dX11_drawn_17 : decode cX11_drawn 17 = .ok (.ireturn, 1) := by decide +kernel
theorem dX11_drawn_18 : decode cX11_drawn 18 = .ok (.iload_n 2, 1) := by decide +kernel
theorem dX11_drawn_19 : decode cX11_drawn 19 = .ok (.tableswitch 46 0 2 #[25, 32, 39], 25) := by decide +kernel
theorem dX11_drawn_44 : decode cX11_drawn 44 = .ok (.aload_n 3, 1) := by decide +kernel
theorem dX11_drawn_45 : decode cX11_drawn 45 = .ok (.getfield 125, 3) := by decide +kernel
theorem dX11_drawn_48 : decode cX11_drawn 48 = .ok (.iload_n 1, 1) := by decide +kernel
theorem dX11_drawn_49 : decode cX11_drawn 49 = .ok (.iaload, 1) := by decide +kernel
theorem dX11_drawn_50 : decode cX11_drawn 50 = .ok (.ireturn, 1) := by decide +kernel
theorem dX11_drawn_51 : decode cX11_drawn 51 = .ok (.aload_n 3, 1) := by decide +kernel
theorem dX11_drawn_52 : decode cX11_drawn 52 = .ok (.getfield 128, 3) := by decide +kernel
theorem dX11_drawn_55 : decode cX11_drawn 55 = .ok (.iload_n 1, 1) := by decide +kernel
theorem dX11_drawn_56 : decode cX11_drawn 56 = .ok (.iaload, 1) := by decide +kernel
theorem dX11_drawn_57 : decode cX11_drawn 57 = .ok (.ireturn, 1) := by decide +kernel
theorem dX11_drawn_58 : decode cX11_drawn 58 = .ok (.aload_n 3, 1) := by decide +kernel
theorem dX11_drawn_59 : decode cX11_drawn 59 = .ok (.getfield 134, 3) := by decide +kernel
theorem dX11_drawn_62 : decode cX11_drawn 62 = .ok (.iload_n 1, 1) := by decide +kernel
theorem dX11_drawn_63 : decode cX11_drawn 63 = .ok (.iaload, 1) := by decide +kernel
theorem dX11_drawn_64 : decode cX11_drawn 64 = .ok (.ireturn, 1) := by decide +kernel
theorem dX11_drawn_65 : decode cX11_drawn 65 = .ok (.iconst (-1), 1) := by decide +kernel
theorem dX11_drawn_66 : decode cX11_drawn 66 = .ok (.ireturn, 1) := by decide +kernel
set_option maxRecDepth 20000 in
theorem rX11_drawn_0 {E : EN} (hE : Ep E) {k : Nat} {mem : Mm} {Q : Int → Mm → Prop} {p0 p1 : Int}
    (h : (R32 p0 → CI E mX10_hasPlot k mem [aR 581, aI p0] (fun r2 m1 => ((¬ r2 = 0 → ((p1 = 0 → (0 ≤ p0 ∧ p0 < 10) ∧ Q (m1 585 p0) m1) ∧ (p1 = 1 → (0 ≤ p0 ∧ p0 < 10) ∧ Q (m1 586 p0) m1) ∧ (p1 = 2 → (0 ≤ p0 ∧ p0 < 10) ∧ Q (m1 588 p0) m1) ∧ (p1 < 0 ∨ 2 < p1 → Q (-1) m1))) ∧ (r2 = 0 → Q (-1) m1))))) :
    VM E mX11_drawn (k + 1) mem 0 [(0, aR 0), (1, aI p0), (2, aI p1)] [] (retI Q) := by
  refine v_aload_n (pc := 0) dX11_drawn_0 0 rfl ?_
  refine m_getfin (pc := 1) (v := 580) hE dX11_drawn_1 flX11_66 rfl at0 rfl ?_
  refine m_getfin (pc := 4) (v := 581) hE dX11_drawn_4 flX11_327 rfl at580 rfl ?_
  refine v_astore_n (pc := 7) (al2 := [(3, aR 581), (0, aR 0), (1, aI p0), (2, aI p1)]) dX11_drawn_7 (by decide) rfl ?_
  refine v_aload_n (pc := 8) dX11_drawn_8 0 rfl ?_
  refine v_iload_n (pc := 9) dX11_drawn_9 2 rfl ?_
  refine m_invI (pc := 10) (mi' := mX10_hasPlot) (rest := []) [aI p0] dX11_drawn_10 (yd0 (show isYd 581 by unfold isYd; omega)) (by decide) rfl msX10_hasPlot mvX10_hasPlot lkX11_122 rfl (Nat.le_of_ble_eq_true rfl) (fun hn => CI_mono (h (aaI hn 1 rfl)) (fun r2 m1 h => ?_))
  refine v_ifne (pc := 13) (tgt := 18) dX11_drawn_13 (by decide) (fun c1 => ?_) (fun c1 => ?_)
  · have h := h.1 c1
    refine v_iload_n (pc := 18) dX11_drawn_18 3 rfl ?_
    rcases (show p1 = 0 ∨ p1 = 1 ∨ p1 = 2 ∨ (p1 < 0 ∨ 2 < p1) by omega) with c1 | c1 | c1 | c1
    · have h := h.1 c1
      refine v_tabIn (pc := 19) (tgt := 44) dX11_drawn_19 (by omega) (by omega) (by rw [c1] <;> rfl) (by decide) ?_
      refine v_aload_n (pc := 44) dX11_drawn_44 0 rfl ?_
      refine m_getfin (pc := 45) (v := 585) hE dX11_drawn_45 flX11_125 rfl (yd0 (show isYd 581 by unfold isYd; omega)) rfl ?_
      refine v_iload_n (pc := 48) dX11_drawn_48 2 rfl ?_
      obtain ⟨o3, h⟩ := h
      refine m_iald (pc := 49) (v := (m1 585 p0)) dX11_drawn_49 (yd4 (show isYd 581 by unfold isYd; omega)) o3.1 o3.2 rfl ?_
      exact m_retI (pc := 50) dX11_drawn_50 rfl h
    · have h := h.2.1 c1
      refine v_tabIn (pc := 19) (tgt := 51) dX11_drawn_19 (by omega) (by omega) (by rw [c1] <;> rfl) (by decide) ?_
      refine v_aload_n (pc := 51) dX11_drawn_51 0 rfl ?_
      refine m_getfin (pc := 52) (v := 586) hE dX11_drawn_52 flX11_128 rfl (yd0 (show isYd 581 by unfold isYd; omega)) rfl ?_
      refine v_iload_n (pc := 55) dX11_drawn_55 2 rfl ?_
      obtain ⟨o4, h⟩ := h
      refine m_iald (pc := 56) (v := (m1 586 p0)) dX11_drawn_56 (yd5 (show isYd 581 by unfold isYd; omega)) o4.1 o4.2 rfl ?_
      exact m_retI (pc := 57) dX11_drawn_57 rfl h
    · have h := h.2.2.1 c1
      refine v_tabIn (pc := 19) (tgt := 58) dX11_drawn_19 (by omega) (by omega) (by rw [c1] <;> rfl) (by decide) ?_
      refine v_aload_n (pc := 58) dX11_drawn_58 0 rfl ?_
      refine m_getfin (pc := 59) (v := 588) hE dX11_drawn_59 flX11_134 rfl (yd0 (show isYd 581 by unfold isYd; omega)) rfl ?_
      refine v_iload_n (pc := 62) dX11_drawn_62 2 rfl ?_
      obtain ⟨o5, h⟩ := h
      refine m_iald (pc := 63) (v := (m1 588 p0)) dX11_drawn_63 (yd7 (show isYd 581 by unfold isYd; omega)) o5.1 o5.2 rfl ?_
      exact m_retI (pc := 64) dX11_drawn_64 rfl h
    · have h := h.2.2.2 c1
      refine v_tabOut (pc := 19) (tgt := 65) dX11_drawn_19 c1 (by decide) ?_
      refine v_iconst (pc := 65) dX11_drawn_65 (by decide) ?_
      exact m_retI (pc := 66) dX11_drawn_66 rfl h
  · have h := h.2 c1
    refine v_iconst (pc := 16) dX11_drawn_16 (by decide) ?_
    exact m_retI (pc := 17) dX11_drawn_17 rfl h
theorem eX11_drawn {E : EN} {k : Nat} {mem : Mm} {Q : Int → Mm → Prop} {p0 p1 : Int} (hr_p0 : R32 p0) (hr_p1 : R32 p1) (h : VM E mX11_drawn (k + 1) mem 0 [(0, aR 0), (1, aI p0), (2, aI p1)] [] (retI Q)) : CI E mX11_drawn (k + 1) mem [aR 0, aI p0, aI p1] Q := CI_of rfl (Nat.le_of_ble_eq_true rfl) h (aNs_c (aNr_R _) (aNs_c (aNr_I hr_p0) (aNs_c (aNr_I hr_p1) (fun _ q => nomatch q))))

theorem dX11_image_0 : decode cX11_image 0 = .ok (.iload_n 1, 1) := by decide +kernel
theorem dX11_image_1 : decode cX11_image 1 = .ok (.iconst 0, 1) := by decide +kernel
theorem dX11_image_2 : decode cX11_image 2 = .ok (.iconst 1, 1) := by decide +kernel
theorem dX11_image_3 : decode cX11_image 3 = .ok (.invokestatic 253, 3) := by decide +kernel
theorem dX11_image_6 : decode cX11_image 6 = .ok (.ifCond .ne 9, 3) := by decide +kernel
theorem dX11_image_9 : decode cX11_image 9 = .ok (.aload_n 0, 1) := by decide +kernel
theorem dX11_image_10 : decode cX11_image 10 = .ok (.iconst (-1), 1) := by decide +kernel
theorem dX11_image_11 : decode cX11_image 11 = .ok (.invokevirtual 93, 3) := by decide +kernel
theorem dX11_image_14 : decode cX11_image 14 = .ok (.ireturn, 1) := by decide +kernel
theorem dX11_image_15 : decode cX11_image 15 = .ok (.aload_n 0, 1) := by decide +kernel
theorem dX11_image_16 : decode cX11_image 16 = .ok (.getfield 45, 3) := by decide +kernel
theorem dX11_image_19 : decode cX11_image 19 = .ok (.iload_n 1, 1) := by decide +kernel
theorem dX11_image_20 : decode cX11_image 20 = .ok (.aaload, 1) := by decide +kernel
theorem dX11_image_21 : decode cX11_image 21 = .ok (.aload_n 0, 1) := by decide +kernel
theorem dX11_image_22 : decode cX11_image 22 = .ok (.getfield 22, 3) := by decide +kernel
theorem dX11_image_25 : decode cX11_image 25 = .ok (.aload_n 0, 1) := by decide +kernel
theorem dX11_image_26 : decode cX11_image 26 = .ok (.getfield 31, 3) := by decide +kernel
theorem dX11_image_29 : decode cX11_image 29 = .ok (.aload_n 0, 1) := by decide +kernel
theorem dX11_image_30 : decode cX11_image 30 = .ok (.getfield 38, 3) := by decide +kernel
theorem dX11_image_33 : decode cX11_image 33 = .ok (.invokevirtual 330, 3) := by decide +kernel
theorem dX11_image_36 : decode cX11_image 36 = .ok (.aload_n 0, 1) := by decide +kernel
theorem dX11_image_37 : decode cX11_image 37 = .ok (.iconst 0, 1) := by decide +kernel
theorem dX11_image_38 : decode cX11_image 38 = .ok (.invokevirtual 116, 3) := by decide +kernel
theorem dX11_image_41 : decode cX11_image 41 = .ok (.ireturn, 1) := by decide +kernel
set_option maxRecDepth 20000 in
theorem rX11_image_0 {E : EN} (hE : Ep E) {k : Nat} {mem : Mm} {Q : Int → Mm → Prop} {p0 : Int}
    (h : (R32 p0 → CI E mX11_isWithin k mem [aI p0, aI 0, aI 1] (fun r2 m1 => ((¬ r2 = 0 → (0 ≤ p0 ∧ p0 < 2) ∧ (isIm (409 + 1 + 71 * p0)) ∧ (CV E mX2_keep k m1 [aR (409 + 1 + 71 * p0), aR 2, aR 349, aR 353] (fun m5 => (CI E mX11_granted k m5 [aR 0, aI 0] (fun r7 m6 => Q r7 m6))))) ∧ (r2 = 0 → (CI E mX11_refused k m1 [aR 0, aI (-1)] (fun r9 m8 => Q r9 m8))))))) :
    VM E mX11_image (k + 1) mem 0 [(0, aR 0), (1, aI p0)] [] (retI Q) := by
  refine v_iload_n (pc := 0) dX11_image_0 1 rfl ?_
  refine v_iconst (pc := 1) dX11_image_1 (by decide) ?_
  refine v_iconst (pc := 2) dX11_image_2 (by decide) ?_
  refine m_invSI (pc := 3) (mi' := mX11_isWithin) (rest := []) [aI p0, aI 0, aI 1] dX11_image_3 msX11_isWithin stX11_isWithin lkX11_253 rfl (Nat.le_of_ble_eq_true rfl) (fun hn => CI_mono (h (aaI hn 0 rfl)) (fun r2 m1 h => ?_))
  refine v_ifne (pc := 6) (tgt := 15) dX11_image_6 (by decide) (fun c1 => ?_) (fun c1 => ?_)
  · have h := h.1 c1
    refine v_aload_n (pc := 15) dX11_image_15 0 rfl ?_
    refine m_getfin (pc := 16) (v := 409) hE dX11_image_16 flX11_45 rfl at0 rfl ?_
    refine v_iload_n (pc := 19) dX11_image_19 1 rfl ?_
    obtain ⟨o3, h⟩ := h
    refine m_aald16 (pc := 20) hE dX11_image_20 at409 o3.1 o3.2 ?_
    refine v_aload_n (pc := 21) dX11_image_21 0 rfl ?_
    refine m_getfin (pc := 22) (v := 2) hE dX11_image_22 flX11_22 rfl at0 rfl ?_
    refine v_aload_n (pc := 25) dX11_image_25 0 rfl ?_
    refine m_getfin (pc := 26) (v := 349) hE dX11_image_26 flX11_31 rfl at0 rfl ?_
    refine v_aload_n (pc := 29) dX11_image_29 0 rfl ?_
    refine m_getfin (pc := 30) (v := 353) hE dX11_image_30 flX11_38 rfl at0 rfl ?_
    obtain ⟨o4, h⟩ := h
    refine m_invV (pc := 33) (mi' := mX2_keep) (rest := []) [aR 2, aR 349, aR 353] dX11_image_33 (im0 o4) (by decide) rfl msX2_keep mvX2_keep lkX11_330 rfl (Nat.le_of_ble_eq_true rfl) (fun hn => CV_mono (h) (fun m5 h => ?_))
    refine v_aload_n (pc := 36) dX11_image_36 0 rfl ?_
    refine v_iconst (pc := 37) dX11_image_37 (by decide) ?_
    refine m_invI (pc := 38) (mi' := mX11_granted) (rest := []) [aI 0] dX11_image_38 at0 (by decide) rfl msX11_granted mvX11_granted lkX11_116 rfl (Nat.le_of_ble_eq_true rfl) (fun hn => CI_mono (h) (fun r7 m6 h => ?_))
    exact m_retI (pc := 41) dX11_image_41 rfl h
  · have h := h.2 c1
    refine v_aload_n (pc := 9) dX11_image_9 0 rfl ?_
    refine v_iconst (pc := 10) dX11_image_10 (by decide) ?_
    refine m_invI (pc := 11) (mi' := mX11_refused) (rest := []) [aI (-1)] dX11_image_11 at0 (by decide) rfl msX11_refused mvX11_refused lkX11_93 rfl (Nat.le_of_ble_eq_true rfl) (fun hn => CI_mono (h) (fun r9 m8 h => ?_))
    exact m_retI (pc := 14) dX11_image_14 rfl h
theorem eX11_image {E : EN} {k : Nat} {mem : Mm} {Q : Int → Mm → Prop} {p0 : Int} (hr_p0 : R32 p0) (h : VM E mX11_image (k + 1) mem 0 [(0, aR 0), (1, aI p0)] [] (retI Q)) : CI E mX11_image (k + 1) mem [aR 0, aI p0] Q := CI_of rfl (Nat.le_of_ble_eq_true rfl) h (aNs_c (aNr_R _) (aNs_c (aNr_I hr_p0) (fun _ q => nomatch q)))

theorem dX11_back_0 : decode cX11_back 0 = .ok (.iload_n 1, 1) := by decide +kernel
theorem dX11_back_1 : decode cX11_back 1 = .ok (.iconst 0, 1) := by decide +kernel
theorem dX11_back_2 : decode cX11_back 2 = .ok (.iconst 1, 1) := by decide +kernel
theorem dX11_back_3 : decode cX11_back 3 = .ok (.invokestatic 253, 3) := by decide +kernel
theorem dX11_back_6 : decode cX11_back 6 = .ok (.ifCond .ne 9, 3) := by decide +kernel
theorem dX11_back_9 : decode cX11_back 9 = .ok (.aload_n 0, 1) := by decide +kernel
theorem dX11_back_10 : decode cX11_back 10 = .ok (.iconst (-1), 1) := by decide +kernel
theorem dX11_back_11 : decode cX11_back 11 = .ok (.invokevirtual 93, 3) := by decide +kernel
theorem dX11_back_14 : decode cX11_back 14 = .ok (.ireturn, 1) := by decide +kernel
theorem dX11_back_15 : decode cX11_back 15 = .ok (.aload_n 0, 1) := by decide +kernel
theorem dX11_back_16 : decode cX11_back 16 = .ok (.getfield 45, 3) := by decide +kernel
theorem dX11_back_19 : decode cX11_back 19 = .ok (.iload_n 1, 1) := by decide +kernel
theorem dX11_back_20 : decode cX11_back 20 = .ok (.aaload, 1) := by decide +kernel
theorem dX11_back_21 : decode cX11_back 21 = .ok (.getfield 334, 3) := by decide +kernel
theorem dX11_back_24 : decode cX11_back 24 = .ok (.ifCond .ne 10, 3) := by decide +kernel
theorem dX11_back_27 : decode cX11_back 27 = .ok (.aload_n 0, 1) := by decide +kernel
theorem dX11_back_28 : decode cX11_back 28 = .ok (.bipush (-2), 2) := by decide +kernel
theorem dX11_back_30 : decode cX11_back 30 = .ok (.invokevirtual 93, 3) := by decide +kernel
theorem dX11_back_33 : decode cX11_back 33 = .ok (.ireturn, 1) := by decide +kernel
theorem dX11_back_34 : decode cX11_back 34 = .ok (.aload_n 0, 1) := by decide +kernel
theorem dX11_back_35 : decode cX11_back 35 = .ok (.getfield 45, 3) := by decide +kernel
theorem dX11_back_38 : decode cX11_back 38 = .ok (.iload_n 1, 1) := by decide +kernel
theorem dX11_back_39 : decode cX11_back 39 = .ok (.aaload, 1) := by decide +kernel
theorem dX11_back_40 : decode cX11_back 40 = .ok (.aload_n 0, 1) := by decide +kernel
theorem dX11_back_41 : decode cX11_back 41 = .ok (.getfield 22, 3) := by decide +kernel
theorem dX11_back_44 : decode cX11_back 44 = .ok (.aload_n 0, 1) := by decide +kernel
theorem dX11_back_45 : decode cX11_back 45 = .ok (.getfield 31, 3) := by decide +kernel
theorem dX11_back_48 : decode cX11_back 48 = .ok (.aload_n 0, 1) := by decide +kernel
theorem dX11_back_49 : decode cX11_back 49 = .ok (.getfield 38, 3) := by decide +kernel
theorem dX11_back_52 : decode cX11_back 52 = .ok (.invokevirtual 338, 3) := by decide +kernel
theorem dX11_back_55 : decode cX11_back 55 = .ok (.aload_n 0, 1) := by decide +kernel
theorem dX11_back_56 : decode cX11_back 56 = .ok (.getfield 22, 3) := by decide +kernel
theorem dX11_back_59 : decode cX11_back 59 = .ok (.aload_n 0, 1) := by decide +kernel
theorem dX11_back_60 : decode cX11_back 60 = .ok (.getfield 38, 3) := by decide +kernel
theorem dX11_back_63 : decode cX11_back 63 = .ok (.aload_n 0, 1) := by decide +kernel
theorem dX11_back_64 : decode cX11_back 64 = .ok (.getfield 38, 3) := by decide +kernel
theorem dX11_back_67 : decode cX11_back 67 = .ok (.getfield 216, 3) := by decide +kernel
theorem dX11_back_70 : decode cX11_back 70 = .ok (.invokevirtual 219, 3) := by decide +kernel
theorem dX11_back_73 : decode cX11_back 73 = .ok (.putfield 223, 3) := by decide +kernel
theorem dX11_back_76 : decode cX11_back 76 = .ok (.aload_n 0, 1) := by decide +kernel
theorem dX11_back_77 : decode cX11_back 77 = .ok (.getfield 27, 3) := by decide +kernel
theorem dX11_back_80 : decode cX11_back 80 = .ok (.iconst 0, 1) := by decide +kernel
theorem dX11_back_81 : decode cX11_back 81 = .ok (.putfield 107, 3) := by decide +kernel
theorem dX11_back_84 : decode cX11_back 84 = .ok (.aload_n 0, 1) := by decide +kernel
theorem dX11_back_85 : decode cX11_back 85 = .ok (.iconst 0, 1) := by decide +kernel
theorem dX11_back_86 : decode cX11_back 86 = .ok (.invokevirtual 116, 3) := by decide +kernel
theorem dX11_back_89 : decode cX11_back 89 = .ok (.ireturn, 1) := by decide +kernel
set_option maxRecDepth 20000 in
theorem rX11_back_0 {E : EN} (hE : Ep E) {k : Nat} {mem : Mm} {Q : Int → Mm → Prop} {p0 : Int}
    (h : (R32 p0 → CI E mX11_isWithin k mem [aI p0, aI 0, aI 1] (fun r2 m1 => ((¬ r2 = 0 → (0 ≤ p0 ∧ p0 < 2) ∧ (isIm (409 + 1 + 71 * p0)) ∧ ((¬ (m1 (409 + 1 + 71 * p0) 3) = 0 → (CV E mX2_giveBack k m1 [aR (409 + 1 + 71 * p0), aR 2, aR 349, aR 353] (fun m5 => (R32 (m5 353 2) → CR E mX3_numbered k m5 [aR 353, aI (m5 353 2)] (fun r7 m6 => (CI E mX11_granted k (aUp (aUp m6 2 9 r7) 12 2 0) [aR 0, aI 0] (fun r9 m8 => Q r9 m8))))))) ∧ ((m1 (409 + 1 + 71 * p0) 3) = 0 → (CI E mX11_refused k m1 [aR 0, aI (-2)] (fun r11 m10 => Q r11 m10))))) ∧ (r2 = 0 → (CI E mX11_refused k m1 [aR 0, aI (-1)] (fun r13 m12 => Q r13 m12))))))) :
    VM E mX11_back (k + 1) mem 0 [(0, aR 0), (1, aI p0)] [] (retI Q) := by
  refine v_iload_n (pc := 0) dX11_back_0 1 rfl ?_
  refine v_iconst (pc := 1) dX11_back_1 (by decide) ?_
  refine v_iconst (pc := 2) dX11_back_2 (by decide) ?_
  refine m_invSI (pc := 3) (mi' := mX11_isWithin) (rest := []) [aI p0, aI 0, aI 1] dX11_back_3 msX11_isWithin stX11_isWithin lkX11_253 rfl (Nat.le_of_ble_eq_true rfl) (fun hn => CI_mono (h (aaI hn 0 rfl)) (fun r2 m1 h => ?_))
  refine v_ifne (pc := 6) (tgt := 15) dX11_back_6 (by decide) (fun c1 => ?_) (fun c1 => ?_)
  · have h := h.1 c1
    refine v_aload_n (pc := 15) dX11_back_15 0 rfl ?_
    refine m_getfin (pc := 16) (v := 409) hE dX11_back_16 flX11_45 rfl at0 rfl ?_
    refine v_iload_n (pc := 19) dX11_back_19 1 rfl ?_
    obtain ⟨o3, h⟩ := h
    refine m_aald16 (pc := 20) hE dX11_back_20 at409 o3.1 o3.2 ?_
    obtain ⟨o4, h⟩ := h
    refine m_getf (pc := 21) (t := 0) (v := (m1 (409 + 1 + 71 * p0) 3)) dX11_back_21 flX11_334 rfl (im0 o4) rfl ?_
    refine v_ifne (pc := 24) (tgt := 34) dX11_back_24 (by decide) (fun c1 => ?_) (fun c1 => ?_)
    · have h := h.1 c1
      refine v_aload_n (pc := 34) dX11_back_34 0 rfl ?_
      refine m_getfin (pc := 35) (v := 409) hE dX11_back_35 flX11_45 rfl at0 rfl ?_
      refine v_iload_n (pc := 38) dX11_back_38 1 rfl ?_
      refine m_aald16 (pc := 39) hE dX11_back_39 at409 o3.1 o3.2 ?_
      refine v_aload_n (pc := 40) dX11_back_40 0 rfl ?_
      refine m_getfin (pc := 41) (v := 2) hE dX11_back_41 flX11_22 rfl at0 rfl ?_
      refine v_aload_n (pc := 44) dX11_back_44 0 rfl ?_
      refine m_getfin (pc := 45) (v := 349) hE dX11_back_45 flX11_31 rfl at0 rfl ?_
      refine v_aload_n (pc := 48) dX11_back_48 0 rfl ?_
      refine m_getfin (pc := 49) (v := 353) hE dX11_back_49 flX11_38 rfl at0 rfl ?_
      refine m_invV (pc := 52) (mi' := mX2_giveBack) (rest := []) [aR 2, aR 349, aR 353] dX11_back_52 (im0 o4) (by decide) rfl msX2_giveBack mvX2_giveBack lkX11_338 rfl (Nat.le_of_ble_eq_true rfl) (fun hn => CV_mono (h) (fun m5 h => ?_))
      refine v_aload_n (pc := 55) dX11_back_55 0 rfl ?_
      refine m_getfin (pc := 56) (v := 2) hE dX11_back_56 flX11_22 rfl at0 rfl ?_
      refine v_aload_n (pc := 59) dX11_back_59 0 rfl ?_
      refine m_getfin (pc := 60) (v := 353) hE dX11_back_60 flX11_38 rfl at0 rfl ?_
      refine v_aload_n (pc := 63) dX11_back_63 0 rfl ?_
      refine m_getfin (pc := 64) (v := 353) hE dX11_back_64 flX11_38 rfl at0 rfl ?_
      refine m_getf (pc := 67) (t := 0) (v := (m5 353 2)) dX11_back_67 flX11_216 rfl (lw0 (show isLw 353 by unfold isLw; omega)) rfl ?_
      refine m_invR (pc := 70) (mi' := mX3_numbered) (rest := [aR 2]) [aI (m5 353 2)] dX11_back_70 (lw0 (show isLw 353 by unfold isLw; omega)) (by decide) rfl msX3_numbered mvX3_numbered lkX11_219 rfl (Nat.le_of_ble_eq_true rfl) (fun hn => CR_mono (h (aaI hn 1 rfl)) (fun r7 m6 h => ?_))
      refine v_putf (pc := 73) dX11_back_73 flX11_223 ⟨_, _, rfl, Or.inl rfl⟩ rfl (by decide) (fun q => nomatch q) (Or.inl fun _ => rfl) (yd0 (show isYd 2 by unfold isYd; omega)) ?_
      refine v_aload_n (pc := 76) dX11_back_76 0 rfl ?_
      refine m_getfin (pc := 77) (v := 12) hE dX11_back_77 flX11_27 rfl at0 rfl ?_
      refine v_iconst (pc := 80) dX11_back_80 (by decide) ?_
      refine v_putf (pc := 81) dX11_back_81 flX11_107 ⟨_, _, rfl, Or.inl rfl⟩ rfl (by decide) (fun q => nomatch q) (Or.inl fun _ => rfl) (pt0 (show isPt 12 by unfold isPt; omega)) ?_
      refine v_aload_n (pc := 84) dX11_back_84 0 rfl ?_
      refine v_iconst (pc := 85) dX11_back_85 (by decide) ?_
      refine m_invI (pc := 86) (mi' := mX11_granted) (rest := []) [aI 0] dX11_back_86 at0 (by decide) rfl msX11_granted mvX11_granted lkX11_116 rfl (Nat.le_of_ble_eq_true rfl) (fun hn => CI_mono (h) (fun r9 m8 h => ?_))
      exact m_retI (pc := 89) dX11_back_89 rfl h
    · have h := h.2 c1
      refine v_aload_n (pc := 27) dX11_back_27 0 rfl ?_
      refine v_bipush (pc := 28) dX11_back_28 (by decide) ?_
      refine m_invI (pc := 30) (mi' := mX11_refused) (rest := []) [aI (-2)] dX11_back_30 at0 (by decide) rfl msX11_refused mvX11_refused lkX11_93 rfl (Nat.le_of_ble_eq_true rfl) (fun hn => CI_mono (h) (fun r11 m10 h => ?_))
      exact m_retI (pc := 33) dX11_back_33 rfl h
  · have h := h.2 c1
    refine v_aload_n (pc := 9) dX11_back_9 0 rfl ?_
    refine v_iconst (pc := 10) dX11_back_10 (by decide) ?_
    refine m_invI (pc := 11) (mi' := mX11_refused) (rest := []) [aI (-1)] dX11_back_11 at0 (by decide) rfl msX11_refused mvX11_refused lkX11_93 rfl (Nat.le_of_ble_eq_true rfl) (fun hn => CI_mono (h) (fun r13 m12 h => ?_))
    exact m_retI (pc := 14) dX11_back_14 rfl h
theorem eX11_back {E : EN} {k : Nat} {mem : Mm} {Q : Int → Mm → Prop} {p0 : Int} (hr_p0 : R32 p0) (h : VM E mX11_back (k + 1) mem 0 [(0, aR 0), (1, aI p0)] [] (retI Q)) : CI E mX11_back (k + 1) mem [aR 0, aI p0] Q := CI_of rfl (Nat.le_of_ble_eq_true rfl) h (aNs_c (aNr_R _) (aNs_c (aNr_I hr_p0) (fun _ q => nomatch q)))

theorem dX11_count_0 : decode cX11_count 0 = .ok (.iload_n 1, 1) := by decide +kernel
theorem dX11_count_1 : decode cX11_count 1 = .ok (.tableswitch 167 0 12 #[67, 75, 83, 91, 99, 107, 115, 123, 130, 137, 144, 151, 159], 67) := by decide +kernel
theorem dX11_count_68 : decode cX11_count 68 = .ok (.aload_n 0, 1) := by decide +kernel
theorem dX11_count_69 : decode cX11_count 69 = .ok (.getfield 22, 3) := by decide +kernel
theorem dX11_count_72 : decode cX11_count 72 = .ok (.getfield 300, 3) := by decide +kernel
theorem dX11_count_75 : decode cX11_count 75 = .ok (.ireturn, 1) := by decide +kernel
theorem dX11_count_76 : decode cX11_count 76 = .ok (.aload_n 0, 1) := by decide +kernel
theorem dX11_count_77 : decode cX11_count 77 = .ok (.getfield 22, 3) := by decide +kernel
theorem dX11_count_80 : decode cX11_count 80 = .ok (.invokevirtual 341, 3) := by decide +kernel
theorem dX11_count_83 : decode cX11_count 83 = .ok (.ireturn, 1) := by decide +kernel
theorem dX11_count_84 : decode cX11_count 84 = .ok (.aload_n 0, 1) := by decide +kernel
theorem dX11_count_85 : decode cX11_count 85 = .ok (.getfield 22, 3) := by decide +kernel
theorem dX11_count_88 : decode cX11_count 88 = .ok (.invokevirtual 344, 3) := by decide +kernel
theorem dX11_count_91 : decode cX11_count 91 = .ok (.ireturn, 1) := by decide +kernel
theorem dX11_count_92 : decode cX11_count 92 = .ok (.aload_n 0, 1) := by decide +kernel
theorem dX11_count_93 : decode cX11_count 93 = .ok (.getfield 31, 3) := by decide +kernel
theorem dX11_count_96 : decode cX11_count 96 = .ok (.getfield 297, 3) := by decide +kernel
theorem dX11_count_99 : decode cX11_count 99 = .ok (.ireturn, 1) := by decide +kernel
theorem dX11_count_100 : decode cX11_count 100 = .ok (.aload_n 0, 1) := by decide +kernel
theorem dX11_count_101 : decode cX11_count 101 = .ok (.getfield 38, 3) := by decide +kernel
theorem dX11_count_104 : decode cX11_count 104 = .ok (.getfield 182, 3) := by decide +kernel
theorem dX11_count_107 : decode cX11_count 107 = .ok (.ireturn, 1) := by decide +kernel
theorem dX11_count_108 : decode cX11_count 108 = .ok (.aload_n 0, 1) := by decide +kernel
theorem dX11_count_109 : decode cX11_count 109 = .ok (.getfield 27, 3) := by decide +kernel
theorem dX11_count_112 : decode cX11_count 112 = .ok (.getfield 107, 3) := by decide +kernel
theorem dX11_count_115 : decode cX11_count 115 = .ok (.ireturn, 1) := by decide +kernel
theorem dX11_count_116 : decode cX11_count 116 = .ok (.aload_n 0, 1) := by decide +kernel
theorem dX11_count_117 : decode cX11_count 117 = .ok (.getfield 73, 3) := by decide +kernel
theorem dX11_count_120 : decode cX11_count 120 = .ok (.getfield 158, 3) := by decide +kernel
theorem dX11_count_123 : decode cX11_count 123 = .ok (.ireturn, 1) := by decide +kernel
theorem dX11_count_124 : decode cX11_count 124 = .ok (.aload_n 0, 1) := by decide +kernel
theorem dX11_count_125 : decode cX11_count 125 = .ok (.getfield 77, 3) := by decide +kernel
theorem dX11_count_128 : decode cX11_count 128 = .ok (.iconst 1, 1) := by decide +kernel
theorem dX11_count_129 : decode cX11_count 129 = .ok (.iaload, 1) := by decide +kernel
theorem dX11_count_130 : decode cX11_count 130 = .ok (.ireturn, 1) := by decide +kernel
theorem dX11_count_131 : decode cX11_count 131 = .ok (.aload_n 0, 1) := by decide +kernel
theorem dX11_count_132 : decode cX11_count 132 = .ok (.getfield 77, 3) := by decide +kernel
theorem dX11_count_135 : decode cX11_count 135 = .ok (.iconst 2, 1) := by decide +kernel
theorem dX11_count_136 : decode cX11_count 136 = .ok (.iaload, 1) := by decide +kernel
theorem dX11_count_137 : decode cX11_count 137 = .ok (.ireturn, 1) := by decide +kernel
theorem dX11_count_138 : decode cX11_count 138 = .ok (.aload_n 0, 1) := by decide +kernel
theorem dX11_count_139 : decode cX11_count 139 = .ok (.getfield 77, 3) := by decide +kernel
theorem dX11_count_142 : decode cX11_count 142 = .ok (.iconst 3, 1) := by decide +kernel
theorem dX11_count_143 : decode cX11_count 143 = .ok (.iaload, 1) := by decide +kernel
theorem dX11_count_144 : decode cX11_count 144 = .ok (.ireturn, 1) := by decide +kernel
theorem dX11_count_145 : decode cX11_count 145 = .ok (.aload_n 0, 1) := by decide +kernel
theorem dX11_count_146 : decode cX11_count 146 = .ok (.getfield 77, 3) := by decide +kernel
theorem dX11_count_149 : decode cX11_count 149 = .ok (.iconst 5, 1) := by decide +kernel
theorem dX11_count_150 : decode cX11_count 150 = .ok (.iaload, 1) := by decide +kernel
theorem dX11_count_151 : decode cX11_count 151 = .ok (.ireturn, 1) := by decide +kernel
theorem dX11_count_152 : decode cX11_count 152 = .ok (.aload_n 0, 1) := by decide +kernel
theorem dX11_count_153 : decode cX11_count 153 = .ok (.getfield 77, 3) := by decide +kernel
theorem dX11_count_156 : decode cX11_count 156 = .ok (.bipush 6, 2) := by decide +kernel
theorem dX11_count_158 : decode cX11_count 158 = .ok (.iaload, 1) := by decide +kernel
theorem dX11_count_159 : decode cX11_count 159 = .ok (.ireturn, 1) := by decide +kernel
theorem dX11_count_160 : decode cX11_count 160 = .ok (.aload_n 0, 1) := by decide +kernel
theorem dX11_count_161 : decode cX11_count 161 = .ok (.getfield 38, 3) := by decide +kernel
theorem dX11_count_164 : decode cX11_count 164 = .ok (.getfield 216, 3) := by decide +kernel
theorem dX11_count_167 : decode cX11_count 167 = .ok (.ireturn, 1) := by decide +kernel
theorem dX11_count_168 : decode cX11_count 168 = .ok (.iload_n 1, 1) := by decide +kernel
theorem dX11_count_169 : decode cX11_count 169 = .ok (.bipush 13, 2) := by decide +kernel
theorem dX11_count_171 : decode cX11_count 171 = .ok (.bipush 16, 2) := by decide +kernel
theorem dX11_count_173 : decode cX11_count 173 = .ok (.invokestatic 253, 3) := by decide +kernel
theorem dX11_count_176 : decode cX11_count 176 = .ok (.ifCond .eq 18, 3) := by decide +kernel
theorem dX11_count_179 : decode cX11_count 179 = .ok (.aload_n 0, 1) := by decide +kernel
theorem dX11_count_180 : decode cX11_count 180 = .ok (.getfield 22, 3) := by decide +kernel
theorem dX11_count_183 : decode cX11_count 183 = .ok (.getfield 155, 3) := by decide +kernel
theorem dX11_count_186 : decode cX11_count 186 = .ok (.iload_n 1, 1) := by decide +kernel
theorem dX11_count_187 : decode cX11_count 187 = .ok (.bipush 13, 2) := by decide +kernel
theorem dX11_count_189 : decode cX11_count 189 = .ok (.isub, 1) := by decide +kernel
theorem dX11_count_190 : decode cX11_count 190 = .ok (.iaload, 1) := by decide +kernel
theorem dX11_count_191 : decode cX11_count 191 = .ok (.goto 4, 3) := by decide +kernel
theorem dX11_count_194 : decode cX11_count 194 = .ok (.iconst (-1), 1) := by decide +kernel
theorem dX11_count_195 : decode cX11_count 195 = .ok (.ireturn, 1) := by decide +kernel
set_option maxRecDepth 20000 in
theorem rX11_count_0 {E : EN} (hE : Ep E) {k : Nat} {mem : Mm} {Q : Int → Mm → Prop} {p0 : Int}
    (h : ((p0 = 0 → Q (mem 2 10) mem) ∧ (p0 = 1 → (CI E mX10_walls k mem [aR 2] (fun r2 m1 => Q r2 m1))) ∧ (p0 = 2 → (CI E mX10_purchases k mem [aR 2] (fun r4 m3 => Q r4 m3))) ∧ (p0 = 3 → Q (mem 349 0) mem) ∧ (p0 = 4 → Q (mem 353 1) mem) ∧ (p0 = 5 → Q (mem 12 2) mem) ∧ (p0 = 6 → Q (mem 591 2) mem) ∧ (p0 = 7 → Q (mem 602 1) mem) ∧ (p0 = 8 → Q (mem 602 2) mem) ∧ (p0 = 9 → Q (mem 602 3) mem) ∧ (p0 = 10 → Q (mem 602 5) mem) ∧ (p0 = 11 → Q (mem 602 6) mem) ∧ (p0 = 12 → Q (mem 353 2) mem) ∧ (p0 < 0 ∨ 12 < p0 → (R32 p0 → CI E mX11_isWithin k mem [aI p0, aI 13, aI 16] (fun r6 m5 => ((r6 = 0 → Q (-1) m5) ∧ (¬ r6 = 0 → (R32 (p0 - 13)) ∧ (0 ≤ (p0 - 13) ∧ (p0 - 13) < 4) ∧ Q (m5 10 (p0 - 13)) m5))))))) :
    VM E mX11_count (k + 1) mem 0 [(0, aR 0), (1, aI p0)] [] (retI Q) := by
  refine v_iload_n (pc := 0) dX11_count_0 1 rfl ?_
  rcases (show p0 = 0 ∨ p0 = 1 ∨ p0 = 2 ∨ p0 = 3 ∨ p0 = 4 ∨ p0 = 5 ∨ p0 = 6 ∨ p0 = 7 ∨ p0 = 8 ∨ p0 = 9 ∨ p0 = 10 ∨ p0 = 11 ∨ p0 = 12 ∨ (p0 < 0 ∨ 12 < p0) by omega) with c1 | c1 | c1 | c1 | c1 | c1 | c1 | c1 | c1 | c1 | c1 | c1 | c1 | c1
  · have h := h.1 c1
    refine v_tabIn (pc := 1) (tgt := 68) dX11_count_1 (by omega) (by omega) (by rw [c1] <;> rfl) (by decide) ?_
    refine v_aload_n (pc := 68) dX11_count_68 0 rfl ?_
    refine m_getfin (pc := 69) (v := 2) hE dX11_count_69 flX11_22 rfl at0 rfl ?_
    refine m_getf (pc := 72) (t := 0) (v := (mem 2 10)) dX11_count_72 flX11_300 rfl (yd0 (show isYd 2 by unfold isYd; omega)) rfl ?_
    exact m_retI (pc := 75) dX11_count_75 rfl h
  · have h := h.2.1 c1
    refine v_tabIn (pc := 1) (tgt := 76) dX11_count_1 (by omega) (by omega) (by rw [c1] <;> rfl) (by decide) ?_
    refine v_aload_n (pc := 76) dX11_count_76 0 rfl ?_
    refine m_getfin (pc := 77) (v := 2) hE dX11_count_77 flX11_22 rfl at0 rfl ?_
    refine m_invI (pc := 80) (mi' := mX10_walls) (rest := []) [] dX11_count_80 (yd0 (show isYd 2 by unfold isYd; omega)) (by decide) rfl msX10_walls mvX10_walls lkX11_341 rfl (Nat.le_of_ble_eq_true rfl) (fun hn => CI_mono (h) (fun r2 m1 h => ?_))
    exact m_retI (pc := 83) dX11_count_83 rfl h
  · have h := h.2.2.1 c1
    refine v_tabIn (pc := 1) (tgt := 84) dX11_count_1 (by omega) (by omega) (by rw [c1] <;> rfl) (by decide) ?_
    refine v_aload_n (pc := 84) dX11_count_84 0 rfl ?_
    refine m_getfin (pc := 85) (v := 2) hE dX11_count_85 flX11_22 rfl at0 rfl ?_
    refine m_invI (pc := 88) (mi' := mX10_purchases) (rest := []) [] dX11_count_88 (yd0 (show isYd 2 by unfold isYd; omega)) (by decide) rfl msX10_purchases mvX10_purchases lkX11_344 rfl (Nat.le_of_ble_eq_true rfl) (fun hn => CI_mono (h) (fun r4 m3 h => ?_))
    exact m_retI (pc := 91) dX11_count_91 rfl h
  · have h := h.2.2.2.1 c1
    refine v_tabIn (pc := 1) (tgt := 92) dX11_count_1 (by omega) (by omega) (by rw [c1] <;> rfl) (by decide) ?_
    refine v_aload_n (pc := 92) dX11_count_92 0 rfl ?_
    refine m_getfin (pc := 93) (v := 349) hE dX11_count_93 flX11_31 rfl at0 rfl ?_
    refine m_getf (pc := 96) (t := 0) (v := (mem 349 0)) dX11_count_96 flX11_297 rfl (fd0 (show isFd 349 by unfold isFd; omega)) rfl ?_
    exact m_retI (pc := 99) dX11_count_99 rfl h
  · have h := h.2.2.2.2.1 c1
    refine v_tabIn (pc := 1) (tgt := 100) dX11_count_1 (by omega) (by omega) (by rw [c1] <;> rfl) (by decide) ?_
    refine v_aload_n (pc := 100) dX11_count_100 0 rfl ?_
    refine m_getfin (pc := 101) (v := 353) hE dX11_count_101 flX11_38 rfl at0 rfl ?_
    refine m_getf (pc := 104) (t := 0) (v := (mem 353 1)) dX11_count_104 flX11_182 rfl (lw0 (show isLw 353 by unfold isLw; omega)) rfl ?_
    exact m_retI (pc := 107) dX11_count_107 rfl h
  · have h := h.2.2.2.2.2.1 c1
    refine v_tabIn (pc := 1) (tgt := 108) dX11_count_1 (by omega) (by omega) (by rw [c1] <;> rfl) (by decide) ?_
    refine v_aload_n (pc := 108) dX11_count_108 0 rfl ?_
    refine m_getfin (pc := 109) (v := 12) hE dX11_count_109 flX11_27 rfl at0 rfl ?_
    refine m_getf (pc := 112) (t := 0) (v := (mem 12 2)) dX11_count_112 flX11_107 rfl (pt0 (show isPt 12 by unfold isPt; omega)) rfl ?_
    exact m_retI (pc := 115) dX11_count_115 rfl h
  · have h := h.2.2.2.2.2.2.1 c1
    refine v_tabIn (pc := 1) (tgt := 116) dX11_count_1 (by omega) (by omega) (by rw [c1] <;> rfl) (by decide) ?_
    refine v_aload_n (pc := 116) dX11_count_116 0 rfl ?_
    refine m_getfin (pc := 117) (v := 591) hE dX11_count_117 flX11_73 rfl at0 rfl ?_
    refine m_getf (pc := 120) (t := 0) (v := (mem 591 2)) dX11_count_120 flX11_158 rfl at591 rfl ?_
    exact m_retI (pc := 123) dX11_count_123 rfl h
  · have h := h.2.2.2.2.2.2.2.1 c1
    refine v_tabIn (pc := 1) (tgt := 124) dX11_count_1 (by omega) (by omega) (by rw [c1] <;> rfl) (by decide) ?_
    refine v_aload_n (pc := 124) dX11_count_124 0 rfl ?_
    refine m_getfin (pc := 125) (v := 602) hE dX11_count_125 flX11_77 rfl at0 rfl ?_
    refine v_iconst (pc := 128) dX11_count_128 (by decide) ?_
    refine m_iald (pc := 129) (v := (mem 602 1)) dX11_count_129 at602 (by omega) (by omega) rfl ?_
    exact m_retI (pc := 130) dX11_count_130 rfl h
  · have h := h.2.2.2.2.2.2.2.2.1 c1
    refine v_tabIn (pc := 1) (tgt := 131) dX11_count_1 (by omega) (by omega) (by rw [c1] <;> rfl) (by decide) ?_
    refine v_aload_n (pc := 131) dX11_count_131 0 rfl ?_
    refine m_getfin (pc := 132) (v := 602) hE dX11_count_132 flX11_77 rfl at0 rfl ?_
    refine v_iconst (pc := 135) dX11_count_135 (by decide) ?_
    refine m_iald (pc := 136) (v := (mem 602 2)) dX11_count_136 at602 (by omega) (by omega) rfl ?_
    exact m_retI (pc := 137) dX11_count_137 rfl h
  · have h := h.2.2.2.2.2.2.2.2.2.1 c1
    refine v_tabIn (pc := 1) (tgt := 138) dX11_count_1 (by omega) (by omega) (by rw [c1] <;> rfl) (by decide) ?_
    refine v_aload_n (pc := 138) dX11_count_138 0 rfl ?_
    refine m_getfin (pc := 139) (v := 602) hE dX11_count_139 flX11_77 rfl at0 rfl ?_
    refine v_iconst (pc := 142) dX11_count_142 (by decide) ?_
    refine m_iald (pc := 143) (v := (mem 602 3)) dX11_count_143 at602 (by omega) (by omega) rfl ?_
    exact m_retI (pc := 144) dX11_count_144 rfl h
  · have h := h.2.2.2.2.2.2.2.2.2.2.1 c1
    refine v_tabIn (pc := 1) (tgt := 145) dX11_count_1 (by omega) (by omega) (by rw [c1] <;> rfl) (by decide) ?_
    refine v_aload_n (pc := 145) dX11_count_145 0 rfl ?_
    refine m_getfin (pc := 146) (v := 602) hE dX11_count_146 flX11_77 rfl at0 rfl ?_
    refine v_iconst (pc := 149) dX11_count_149 (by decide) ?_
    refine m_iald (pc := 150) (v := (mem 602 5)) dX11_count_150 at602 (by omega) (by omega) rfl ?_
    exact m_retI (pc := 151) dX11_count_151 rfl h
  · have h := h.2.2.2.2.2.2.2.2.2.2.2.1 c1
    refine v_tabIn (pc := 1) (tgt := 152) dX11_count_1 (by omega) (by omega) (by rw [c1] <;> rfl) (by decide) ?_
    refine v_aload_n (pc := 152) dX11_count_152 0 rfl ?_
    refine m_getfin (pc := 153) (v := 602) hE dX11_count_153 flX11_77 rfl at0 rfl ?_
    refine v_bipush (pc := 156) dX11_count_156 (by decide) ?_
    refine m_iald (pc := 158) (v := (mem 602 6)) dX11_count_158 at602 (by omega) (by omega) rfl ?_
    exact m_retI (pc := 159) dX11_count_159 rfl h
  · have h := h.2.2.2.2.2.2.2.2.2.2.2.2.1 c1
    refine v_tabIn (pc := 1) (tgt := 160) dX11_count_1 (by omega) (by omega) (by rw [c1] <;> rfl) (by decide) ?_
    refine v_aload_n (pc := 160) dX11_count_160 0 rfl ?_
    refine m_getfin (pc := 161) (v := 353) hE dX11_count_161 flX11_38 rfl at0 rfl ?_
    refine m_getf (pc := 164) (t := 0) (v := (mem 353 2)) dX11_count_164 flX11_216 rfl (lw0 (show isLw 353 by unfold isLw; omega)) rfl ?_
    exact m_retI (pc := 167) dX11_count_167 rfl h
  · have h := h.2.2.2.2.2.2.2.2.2.2.2.2.2 c1
    refine v_tabOut (pc := 1) (tgt := 168) dX11_count_1 c1 (by decide) ?_
    refine v_iload_n (pc := 168) dX11_count_168 1 rfl ?_
    refine v_bipush (pc := 169) dX11_count_169 (by decide) ?_
    refine v_bipush (pc := 171) dX11_count_171 (by decide) ?_
    refine m_invSI (pc := 173) (mi' := mX11_isWithin) (rest := []) [aI p0, aI 13, aI 16] dX11_count_173 msX11_isWithin stX11_isWithin lkX11_253 rfl (Nat.le_of_ble_eq_true rfl) (fun hn => CI_mono (h (aaI hn 0 rfl)) (fun r6 m5 h => ?_))
    refine v_ifeq (pc := 176) (tgt := 194) dX11_count_176 (by decide) (fun c1 => ?_) (fun c1 => ?_)
    · have h := h.1 c1
      refine v_iconst (pc := 194) dX11_count_194 (by decide) ?_
      exact m_retI (pc := 195) dX11_count_195 rfl h
    · have h := h.2 c1
      refine v_aload_n (pc := 179) dX11_count_179 0 rfl ?_
      refine m_getfin (pc := 180) (v := 2) hE dX11_count_180 flX11_22 rfl at0 rfl ?_
      refine m_getfin (pc := 183) (v := 10) hE dX11_count_183 flX11_155 rfl (yd0 (show isYd 2 by unfold isYd; omega)) rfl ?_
      refine v_iload_n (pc := 186) dX11_count_186 1 rfl ?_
      refine v_bipush (pc := 187) dX11_count_187 (by decide) ?_
      obtain ⟨o7, h⟩ := h
      refine m_isub (pc := 189) dX11_count_189 o7 ?_
      obtain ⟨o8, h⟩ := h
      refine m_iald (pc := 190) (v := (m5 10 (p0 - 13))) dX11_count_190 (yd8 (show isYd 2 by unfold isYd; omega)) o8.1 o8.2 rfl ?_
      refine v_goto (pc := 191) (tgt := 195) dX11_count_191 (by decide) ?_
      exact m_retI (pc := 195) dX11_count_195 rfl h
theorem eX11_count {E : EN} {k : Nat} {mem : Mm} {Q : Int → Mm → Prop} {p0 : Int} (hr_p0 : R32 p0) (h : VM E mX11_count (k + 1) mem 0 [(0, aR 0), (1, aI p0)] [] (retI Q)) : CI E mX11_count (k + 1) mem [aR 0, aI p0] Q := CI_of rfl (Nat.le_of_ble_eq_true rfl) h (aNs_c (aNr_R _) (aNs_c (aNr_I hr_p0) (fun _ q => nomatch q)))

theorem dX11_status_0 : decode cX11_status 0 = .ok (.aload_n 0, 1) := by decide +kernel
theorem dX11_status_1 : decode cX11_status 1 = .ok (.getfield 347, 3) := by decide +kernel
theorem dX11_status_4 : decode cX11_status 4 = .ok (.ireturn, 1) := by decide +kernel
set_option maxRecDepth 20000 in
theorem rX11_status_0 {E : EN} (hE : Ep E) {k : Nat} {mem : Mm} {Q : Int → Mm → Prop}
    (h : Q (mem 0 13) mem) :
    VM E mX11_status k mem 0 [(0, aR 0)] [] (retI Q) := by
  refine v_aload_n (pc := 0) dX11_status_0 0 rfl ?_
  refine m_getf (pc := 1) (t := 0) (v := (mem 0 13)) dX11_status_1 flX11_347 rfl at0 rfl ?_
  exact m_retI (pc := 4) dX11_status_4 rfl h
theorem eX11_status {E : EN} {k : Nat} {mem : Mm} {Q : Int → Mm → Prop}  (h : VM E mX11_status k mem 0 [(0, aR 0)] [] (retI Q)) : CI E mX11_status k mem [aR 0] Q := CI_of rfl (Nat.le_of_ble_eq_true rfl) h (aNs_c (aNr_R _) (fun _ q => nomatch q))

theorem dX11_granted_0 : decode cX11_granted 0 = .ok (.aload_n 0, 1) := by decide +kernel
theorem dX11_granted_1 : decode cX11_granted 1 = .ok (.iconst 0, 1) := by decide +kernel
theorem dX11_granted_2 : decode cX11_granted 2 = .ok (.putfield 347, 3) := by decide +kernel
theorem dX11_granted_5 : decode cX11_granted 5 = .ok (.iload_n 1, 1) := by decide +kernel
theorem dX11_granted_6 : decode cX11_granted 6 = .ok (.ireturn, 1) := by decide +kernel
set_option maxRecDepth 20000 in
theorem rX11_granted_0 {E : EN} (hE : Ep E) {k : Nat} {mem : Mm} {Q : Int → Mm → Prop} {p0 : Int}
    (h : Q p0 (aUp mem 0 13 0)) :
    VM E mX11_granted k mem 0 [(0, aR 0), (1, aI p0)] [] (retI Q) := by
  refine v_aload_n (pc := 0) dX11_granted_0 0 rfl ?_
  refine v_iconst (pc := 1) dX11_granted_1 (by decide) ?_
  refine v_putf (pc := 2) dX11_granted_2 flX11_347 ⟨_, _, rfl, Or.inl rfl⟩ rfl (by decide) (fun q => nomatch q) (Or.inl fun _ => rfl) at0 ?_
  refine v_iload_n (pc := 5) dX11_granted_5 1 rfl ?_
  exact m_retI (pc := 6) dX11_granted_6 rfl h
theorem eX11_granted {E : EN} {k : Nat} {mem : Mm} {Q : Int → Mm → Prop} {p0 : Int} (hr_p0 : R32 p0) (h : VM E mX11_granted k mem 0 [(0, aR 0), (1, aI p0)] [] (retI Q)) : CI E mX11_granted k mem [aR 0, aI p0] Q := CI_of rfl (Nat.le_of_ble_eq_true rfl) h (aNs_c (aNr_R _) (aNs_c (aNr_I hr_p0) (fun _ q => nomatch q)))

theorem dX11_refused_0 : decode cX11_refused 0 = .ok (.aload_n 0, 1) := by decide +kernel
theorem dX11_refused_1 : decode cX11_refused 1 = .ok (.iload_n 1, 1) := by decide +kernel
theorem dX11_refused_2 : decode cX11_refused 2 = .ok (.putfield 347, 3) := by decide +kernel
theorem dX11_refused_5 : decode cX11_refused 5 = .ok (.iload_n 1, 1) := by decide +kernel
theorem dX11_refused_6 : decode cX11_refused 6 = .ok (.ifCond .ge 20, 3) := by decide +kernel
theorem dX11_refused_9 : decode cX11_refused 9 = .ok (.iload_n 1, 1) := by decide +kernel
theorem dX11_refused_10 : decode cX11_refused 10 = .ok (.bipush (-7), 2) := by decide +kernel
theorem dX11_refused_12 : decode cX11_refused 12 = .ok (.if_icmp .le 14, 3) := by decide +kernel
theorem dX11_refused_15 : decode cX11_refused 15 = .ok (.aload_n 0, 1) := by decide +kernel
theorem dX11_refused_16 : decode cX11_refused 16 = .ok (.getfield 77, 3) := by decide +kernel
theorem dX11_refused_19 : decode cX11_refused 19 = .ok (.iload_n 1, 1) := by decide +kernel
theorem dX11_refused_20 : decode cX11_refused 20 = .ok (.ineg, 1) := by decide +kernel
theorem dX11_refused_21 : decode cX11_refused 21 = .ok (.dup2, 1) := by decide +kernel
theorem dX11_refused_22 : decode cX11_refused 22 = .ok (.iaload, 1) := by decide +kernel
theorem dX11_refused_23 : decode cX11_refused 23 = .ok (.iconst 1, 1) := by decide +kernel
theorem dX11_refused_24 : decode cX11_refused 24 = .ok (.iadd, 1) := by decide +kernel
theorem dX11_refused_25 : decode cX11_refused 25 = .ok (.iastore, 1) := by decide +kernel
theorem dX11_refused_26 : decode cX11_refused 26 = .ok (.iload_n 1, 1) := by decide +kernel
theorem dX11_refused_27 : decode cX11_refused 27 = .ok (.ireturn, 1) := by decide +kernel
set_option maxRecDepth 20000 in
theorem rX11_refused_0 {E : EN} (hE : Ep E) {k : Nat} {mem : Mm} {Q : Int → Mm → Prop} {p0 : Int}
    (h : ((0 ≤ p0 → Q p0 (aUp mem 0 13 p0)) ∧ (p0 < 0 → ((p0 ≤ (-7) → Q p0 (aUp mem 0 13 p0)) ∧ ((-7) < p0 → (R32 (-p0)) ∧ (0 ≤ (-p0) ∧ (-p0) < 7) ∧ (R32 ((mem 602 (-p0)) + 1)) ∧ Q p0 (aUp (aUp mem 0 13 p0) 602 (-p0) ((mem 602 (-p0)) + 1))))))) :
    VM E mX11_refused k mem 0 [(0, aR 0), (1, aI p0)] [] (retI Q) := by
  refine v_aload_n (pc := 0) dX11_refused_0 0 rfl ?_
  refine v_iload_n (pc := 1) dX11_refused_1 1 rfl ?_
  refine v_putf (pc := 2) dX11_refused_2 flX11_347 ⟨_, _, rfl, Or.inl rfl⟩ rfl (by decide) (fun q => nomatch q) (Or.inl fun _ => rfl) at0 ?_
  refine v_iload_n (pc := 5) dX11_refused_5 1 rfl ?_
  refine v_ifge (pc := 6) (tgt := 26) dX11_refused_6 (by decide) (fun c1 => ?_) (fun c1 => ?_)
  · have h := h.1 c1
    refine v_iload_n (pc := 26) dX11_refused_26 1 rfl ?_
    exact m_retI (pc := 27) dX11_refused_27 rfl h
  · have h := h.2 c1
    refine v_iload_n (pc := 9) dX11_refused_9 1 rfl ?_
    refine v_bipush (pc := 10) dX11_refused_10 (by decide) ?_
    refine v_icmple (pc := 12) (tgt := 26) dX11_refused_12 (by decide) (fun c1 => ?_) (fun c1 => ?_)
    · have h := h.1 c1
      refine v_iload_n (pc := 26) dX11_refused_26 1 rfl ?_
      exact m_retI (pc := 27) dX11_refused_27 rfl h
    · have h := h.2 c1
      refine v_aload_n (pc := 15) dX11_refused_15 0 rfl ?_
      refine m_getfin (pc := 16) (v := 602) hE dX11_refused_16 flX11_77 rfl at0 rfl ?_
      refine v_iload_n (pc := 19) dX11_refused_19 1 rfl ?_
      obtain ⟨o1, h⟩ := h
      refine m_ineg (pc := 20) dX11_refused_20 o1 ?_
      refine v_dup2 (pc := 21) dX11_refused_21 rfl rfl ?_
      obtain ⟨o2, h⟩ := h
      refine m_iald (pc := 22) (v := (mem 602 (-p0))) dX11_refused_22 at602 o2.1 o2.2 (aUp_rn (by omega)) ?_
      refine v_iconst (pc := 23) dX11_refused_23 (by decide) ?_
      obtain ⟨o3, h⟩ := h
      refine m_iadd (pc := 24) dX11_refused_24 o3 ?_
      refine v_iast (pc := 25) dX11_refused_25 at602 o2.1 o2.2 ?_
      refine v_iload_n (pc := 26) dX11_refused_26 1 rfl ?_
      exact m_retI (pc := 27) dX11_refused_27 rfl h
theorem eX11_refused {E : EN} {k : Nat} {mem : Mm} {Q : Int → Mm → Prop} {p0 : Int} (hr_p0 : R32 p0) (h : VM E mX11_refused k mem 0 [(0, aR 0), (1, aI p0)] [] (retI Q)) : CI E mX11_refused k mem [aR 0, aI p0] Q := CI_of rfl (Nat.le_of_ble_eq_true rfl) h (aNs_c (aNr_R _) (aNs_c (aNr_I hr_p0) (fun _ q => nomatch q)))

theorem dX11_answered_0 : decode cX11_answered 0 = .ok (.iload_n 1, 1) := by decide +kernel
theorem dX11_answered_1 : decode cX11_answered 1 = .ok (.ifCond .ge 11, 3) := by decide +kernel
theorem dX11_answered_4 : decode cX11_answered 4 = .ok (.aload_n 0, 1) := by decide +kernel
theorem dX11_answered_5 : decode cX11_answered 5 = .ok (.iload_n 1, 1) := by decide +kernel
theorem dX11_answered_6 : decode cX11_answered 6 = .ok (.invokevirtual 93, 3) := by decide +kernel
theorem dX11_answered_9 : decode cX11_answered 9 = .ok (.goto 8, 3) := by decide +kernel
theorem dX11_answered_12 : decode cX11_answered 12 = .ok (.aload_n 0, 1) := by decide +kernel
theorem dX11_answered_13 : decode cX11_answered 13 = .ok (.iload_n 1, 1) := by decide +kernel
theorem dX11_answered_14 : decode cX11_answered 14 = .ok (.invokevirtual 116, 3) := by decide +kernel
theorem dX11_answered_17 : decode cX11_answered 17 = .ok (.ireturn, 1) := by decide +kernel
set_option maxRecDepth 20000 in
theorem rX11_answered_0 {E : EN} (hE : Ep E) {k : Nat} {mem : Mm} {Q : Int → Mm → Prop} {p0 : Int}
    (h : ((0 ≤ p0 → (R32 p0 → CI E mX11_granted k mem [aR 0, aI p0] (fun r2 m1 => Q r2 m1))) ∧ (p0 < 0 → (R32 p0 → CI E mX11_refused k mem [aR 0, aI p0] (fun r4 m3 => Q r4 m3))))) :
    VM E mX11_answered (k + 1) mem 0 [(0, aR 0), (1, aI p0)] [] (retI Q) := by
  refine v_iload_n (pc := 0) dX11_answered_0 1 rfl ?_
  refine v_ifge (pc := 1) (tgt := 12) dX11_answered_1 (by decide) (fun c1 => ?_) (fun c1 => ?_)
  · have h := h.1 c1
    refine v_aload_n (pc := 12) dX11_answered_12 0 rfl ?_
    refine v_iload_n (pc := 13) dX11_answered_13 1 rfl ?_
    refine m_invI (pc := 14) (mi' := mX11_granted) (rest := []) [aI p0] dX11_answered_14 at0 (by decide) rfl msX11_granted mvX11_granted lkX11_116 rfl (Nat.le_of_ble_eq_true rfl) (fun hn => CI_mono (h (aaI hn 1 rfl)) (fun r2 m1 h => ?_))
    exact m_retI (pc := 17) dX11_answered_17 rfl h
  · have h := h.2 c1
    refine v_aload_n (pc := 4) dX11_answered_4 0 rfl ?_
    refine v_iload_n (pc := 5) dX11_answered_5 1 rfl ?_
    refine m_invI (pc := 6) (mi' := mX11_refused) (rest := []) [aI p0] dX11_answered_6 at0 (by decide) rfl msX11_refused mvX11_refused lkX11_93 rfl (Nat.le_of_ble_eq_true rfl) (fun hn => CI_mono (h (aaI hn 1 rfl)) (fun r4 m3 h => ?_))
    refine v_goto (pc := 9) (tgt := 17) dX11_answered_9 (by decide) ?_
    exact m_retI (pc := 17) dX11_answered_17 rfl h
theorem eX11_answered {E : EN} {k : Nat} {mem : Mm} {Q : Int → Mm → Prop} {p0 : Int} (hr_p0 : R32 p0) (h : VM E mX11_answered (k + 1) mem 0 [(0, aR 0), (1, aI p0)] [] (retI Q)) : CI E mX11_answered (k + 1) mem [aR 0, aI p0] Q := CI_of rfl (Nat.le_of_ble_eq_true rfl) h (aNs_c (aNr_R _) (aNs_c (aNr_I hr_p0) (fun _ q => nomatch q)))

theorem dX11_isWithin_0 : decode cX11_isWithin 0 = .ok (.iload_n 0, 1) := by decide +kernel
theorem dX11_isWithin_1 : decode cX11_isWithin 1 = .ok (.iload_n 1, 1) := by decide +kernel
theorem dX11_isWithin_2 : decode cX11_isWithin 2 = .ok (.if_icmp .lt 12, 3) := by decide +kernel
theorem dX11_isWithin_5 : decode cX11_isWithin 5 = .ok (.iload_n 0, 1) := by decide +kernel
theorem dX11_isWithin_6 : decode cX11_isWithin 6 = .ok (.iload_n 2, 1) := by decide +kernel
theorem dX11_isWithin_7 : decode cX11_isWithin 7 = .ok (.if_icmp .gt 7, 3) := by decide +kernel
theorem dX11_isWithin_10 : decode cX11_isWithin 10 = .ok (.iconst 1, 1) := by decide +kernel
theorem dX11_isWithin_11 : decode cX11_isWithin 11 = .ok (.goto 4, 3) := by decide +kernel
theorem dX11_isWithin_14 : decode cX11_isWithin 14 = .ok (.iconst 0, 1) := by decide +kernel
theorem dX11_isWithin_15 : decode cX11_isWithin 15 = .ok (.ireturn, 1) := by decide +kernel
set_option maxRecDepth 20000 in
theorem rX11_isWithin_0 {E : EN} (hE : Ep E) {k : Nat} {mem : Mm} {Q : Int → Mm → Prop} {p0 p1 p2 : Int}
    (h : ((p0 < p1 → Q 0 mem) ∧ (p1 ≤ p0 → ((p2 < p0 → Q 0 mem) ∧ (p0 ≤ p2 → Q 1 mem))))) :
    VM E mX11_isWithin k mem 0 [(0, aI p0), (1, aI p1), (2, aI p2)] [] (retI Q) := by
  refine v_iload_n (pc := 0) dX11_isWithin_0 0 rfl ?_
  refine v_iload_n (pc := 1) dX11_isWithin_1 1 rfl ?_
  refine v_icmplt (pc := 2) (tgt := 14) dX11_isWithin_2 (by decide) (fun c1 => ?_) (fun c1 => ?_)
  · have h := h.1 c1
    refine v_iconst (pc := 14) dX11_isWithin_14 (by decide) ?_
    exact m_retZ (pc := 15) dX11_isWithin_15 rfl (by decide) h
  · have h := h.2 c1
    refine v_iload_n (pc := 5) dX11_isWithin_5 0 rfl ?_
    refine v_iload_n (pc := 6) dX11_isWithin_6 2 rfl ?_
    refine v_icmpgt (pc := 7) (tgt := 14) dX11_isWithin_7 (by decide) (fun c1 => ?_) (fun c1 => ?_)
    · have h := h.1 c1
      refine v_iconst (pc := 14) dX11_isWithin_14 (by decide) ?_
      exact m_retZ (pc := 15) dX11_isWithin_15 rfl (by decide) h
    · have h := h.2 c1
      refine v_iconst (pc := 10) dX11_isWithin_10 (by decide) ?_
      refine v_goto (pc := 11) (tgt := 15) dX11_isWithin_11 (by decide) ?_
      exact m_retZ (pc := 15) dX11_isWithin_15 rfl (by decide) h
theorem eX11_isWithin {E : EN} {k : Nat} {mem : Mm} {Q : Int → Mm → Prop} {p0 p1 p2 : Int} (hr_p0 : R32 p0) (hr_p1 : R32 p1) (hr_p2 : R32 p2) (h : VM E mX11_isWithin k mem 0 [(0, aI p0), (1, aI p1), (2, aI p2)] [] (retI Q)) : CI E mX11_isWithin k mem [aI p0, aI p1, aI p2] Q := CI_of rfl (Nat.le_of_ble_eq_true rfl) h (aNs_c (aNr_I hr_p0) (aNs_c (aNr_I hr_p1) (aNs_c (aNr_I hr_p2) (fun _ q => nomatch q))))

theorem dX11_isCell_0 : decode cX11_isCell 0 = .ok (.iload_n 0, 1) := by decide +kernel
theorem dX11_isCell_1 : decode cX11_isCell 1 = .ok (.ifCond .lt 13, 3) := by decide +kernel
theorem dX11_isCell_4 : decode cX11_isCell 4 = .ok (.iload_n 0, 1) := by decide +kernel
theorem dX11_isCell_5 : decode cX11_isCell 5 = .ok (.bipush 32, 2) := by decide +kernel
theorem dX11_isCell_7 : decode cX11_isCell 7 = .ok (.if_icmp .ge 7, 3) := by decide +kernel
theorem dX11_isCell_10 : decode cX11_isCell 10 = .ok (.iconst 1, 1) := by decide +kernel
theorem dX11_isCell_11 : decode cX11_isCell 11 = .ok (.goto 4, 3) := by decide +kernel
theorem dX11_isCell_14 : decode cX11_isCell 14 = .ok (.iconst 0, 1) := by decide +kernel
theorem dX11_isCell_15 : decode cX11_isCell 15 = .ok (.ireturn, 1) := by decide +kernel
set_option maxRecDepth 20000 in
theorem rX11_isCell_0 {E : EN} (hE : Ep E) {k : Nat} {mem : Mm} {Q : Int → Mm → Prop} {p0 : Int}
    (h : ((p0 < 0 → Q 0 mem) ∧ (0 ≤ p0 → ((32 ≤ p0 → Q 0 mem) ∧ (p0 < 32 → Q 1 mem))))) :
    VM E mX11_isCell k mem 0 [(0, aI p0)] [] (retI Q) := by
  refine v_iload_n (pc := 0) dX11_isCell_0 0 rfl ?_
  refine v_iflt (pc := 1) (tgt := 14) dX11_isCell_1 (by decide) (fun c1 => ?_) (fun c1 => ?_)
  · have h := h.1 c1
    refine v_iconst (pc := 14) dX11_isCell_14 (by decide) ?_
    exact m_retZ (pc := 15) dX11_isCell_15 rfl (by decide) h
  · have h := h.2 c1
    refine v_iload_n (pc := 4) dX11_isCell_4 0 rfl ?_
    refine v_bipush (pc := 5) dX11_isCell_5 (by decide) ?_
    refine v_icmpge (pc := 7) (tgt := 14) dX11_isCell_7 (by decide) (fun c1 => ?_) (fun c1 => ?_)
    · have h := h.1 c1
      refine v_iconst (pc := 14) dX11_isCell_14 (by decide) ?_
      exact m_retZ (pc := 15) dX11_isCell_15 rfl (by decide) h
    · have h := h.2 c1
      refine v_iconst (pc := 10) dX11_isCell_10 (by decide) ?_
      refine v_goto (pc := 11) (tgt := 15) dX11_isCell_11 (by decide) ?_
      exact m_retZ (pc := 15) dX11_isCell_15 rfl (by decide) h
theorem eX11_isCell {E : EN} {k : Nat} {mem : Mm} {Q : Int → Mm → Prop} {p0 : Int} (hr_p0 : R32 p0) (h : VM E mX11_isCell k mem 0 [(0, aI p0)] [] (retI Q)) : CI E mX11_isCell k mem [aI p0] Q := CI_of rfl (Nat.le_of_ble_eq_true rfl) h (aNs_c (aNr_I hr_p0) (fun _ q => nomatch q))

theorem dX11_isFamily_0 : decode cX11_isFamily 0 = .ok (.iload_n 0, 1) := by decide +kernel
theorem dX11_isFamily_1 : decode cX11_isFamily 1 = .ok (.ifCond .lt 13, 3) := by decide +kernel
theorem dX11_isFamily_4 : decode cX11_isFamily 4 = .ok (.iload_n 0, 1) := by decide +kernel
theorem dX11_isFamily_5 : decode cX11_isFamily 5 = .ok (.bipush 6, 2) := by decide +kernel
theorem dX11_isFamily_7 : decode cX11_isFamily 7 = .ok (.if_icmp .ge 7, 3) := by decide +kernel
theorem dX11_isFamily_10 : decode cX11_isFamily 10 = .ok (.iconst 1, 1) := by decide +kernel
theorem dX11_isFamily_11 : decode cX11_isFamily 11 = .ok (.goto 4, 3) := by decide +kernel
theorem dX11_isFamily_14 : decode cX11_isFamily 14 = .ok (.iconst 0, 1) := by decide +kernel
theorem dX11_isFamily_15 : decode cX11_isFamily 15 = .ok (.ireturn, 1) := by decide +kernel
set_option maxRecDepth 20000 in
theorem rX11_isFamily_0 {E : EN} (hE : Ep E) {k : Nat} {mem : Mm} {Q : Int → Mm → Prop} {p0 : Int}
    (h : ((p0 < 0 → Q 0 mem) ∧ (0 ≤ p0 → ((6 ≤ p0 → Q 0 mem) ∧ (p0 < 6 → Q 1 mem))))) :
    VM E mX11_isFamily k mem 0 [(0, aI p0)] [] (retI Q) := by
  refine v_iload_n (pc := 0) dX11_isFamily_0 0 rfl ?_
  refine v_iflt (pc := 1) (tgt := 14) dX11_isFamily_1 (by decide) (fun c1 => ?_) (fun c1 => ?_)
  · have h := h.1 c1
    refine v_iconst (pc := 14) dX11_isFamily_14 (by decide) ?_
    exact m_retZ (pc := 15) dX11_isFamily_15 rfl (by decide) h
  · have h := h.2 c1
    refine v_iload_n (pc := 4) dX11_isFamily_4 0 rfl ?_
    refine v_bipush (pc := 5) dX11_isFamily_5 (by decide) ?_
    refine v_icmpge (pc := 7) (tgt := 14) dX11_isFamily_7 (by decide) (fun c1 => ?_) (fun c1 => ?_)
    · have h := h.1 c1
      refine v_iconst (pc := 14) dX11_isFamily_14 (by decide) ?_
      exact m_retZ (pc := 15) dX11_isFamily_15 rfl (by decide) h
    · have h := h.2 c1
      refine v_iconst (pc := 10) dX11_isFamily_10 (by decide) ?_
      refine v_goto (pc := 11) (tgt := 15) dX11_isFamily_11 (by decide) ?_
      exact m_retZ (pc := 15) dX11_isFamily_15 rfl (by decide) h
theorem eX11_isFamily {E : EN} {k : Nat} {mem : Mm} {Q : Int → Mm → Prop} {p0 : Int} (hr_p0 : R32 p0) (h : VM E mX11_isFamily k mem 0 [(0, aI p0)] [] (retI Q)) : CI E mX11_isFamily k mem [aI p0] Q := CI_of rfl (Nat.le_of_ble_eq_true rfl) h (aNs_c (aNr_I hr_p0) (fun _ q => nomatch q))

theorem dX11_isYesNo_0 : decode cX11_isYesNo 0 = .ok (.iload_n 0, 1) := by decide +kernel
theorem dX11_isYesNo_1 : decode cX11_isYesNo 1 = .ok (.ifCond .eq 8, 3) := by decide +kernel
theorem dX11_isYesNo_4 : decode cX11_isYesNo 4 = .ok (.iload_n 0, 1) := by decide +kernel
theorem dX11_isYesNo_5 : decode cX11_isYesNo 5 = .ok (.iconst 1, 1) := by decide +kernel
theorem dX11_isYesNo_6 : decode cX11_isYesNo 6 = .ok (.if_icmp .ne 7, 3) := by decide +kernel
theorem dX11_isYesNo_9 : decode cX11_isYesNo 9 = .ok (.iconst 1, 1) := by decide +kernel
theorem dX11_isYesNo_10 : decode cX11_isYesNo 10 = .ok (.goto 4, 3) := by decide +kernel
theorem dX11_isYesNo_13 : decode cX11_isYesNo 13 = .ok (.iconst 0, 1) := by decide +kernel
theorem dX11_isYesNo_14 : decode cX11_isYesNo 14 = .ok (.ireturn, 1) := by decide +kernel
set_option maxRecDepth 20000 in
theorem rX11_isYesNo_0 {E : EN} (hE : Ep E) {k : Nat} {mem : Mm} {Q : Int → Mm → Prop} {p0 : Int}
    (h : ((p0 = 0 → Q 1 mem) ∧ (¬ p0 = 0 → ((¬ p0 = 1 → Q 0 mem) ∧ (p0 = 1 → Q 1 mem))))) :
    VM E mX11_isYesNo k mem 0 [(0, aI p0)] [] (retI Q) := by
  refine v_iload_n (pc := 0) dX11_isYesNo_0 0 rfl ?_
  refine v_ifeq (pc := 1) (tgt := 9) dX11_isYesNo_1 (by decide) (fun c1 => ?_) (fun c1 => ?_)
  · have h := h.1 c1
    refine v_iconst (pc := 9) dX11_isYesNo_9 (by decide) ?_
    refine v_goto (pc := 10) (tgt := 14) dX11_isYesNo_10 (by decide) ?_
    exact m_retZ (pc := 14) dX11_isYesNo_14 rfl (by decide) h
  · have h := h.2 c1
    refine v_iload_n (pc := 4) dX11_isYesNo_4 0 rfl ?_
    refine v_iconst (pc := 5) dX11_isYesNo_5 (by decide) ?_
    refine v_icmpne (pc := 6) (tgt := 13) dX11_isYesNo_6 (by decide) (fun c1 => ?_) (fun c1 => ?_)
    · have h := h.1 c1
      refine v_iconst (pc := 13) dX11_isYesNo_13 (by decide) ?_
      exact m_retZ (pc := 14) dX11_isYesNo_14 rfl (by decide) h
    · have h := h.2 c1
      refine v_iconst (pc := 9) dX11_isYesNo_9 (by decide) ?_
      refine v_goto (pc := 10) (tgt := 14) dX11_isYesNo_10 (by decide) ?_
      exact m_retZ (pc := 14) dX11_isYesNo_14 rfl (by decide) h
theorem eX11_isYesNo {E : EN} {k : Nat} {mem : Mm} {Q : Int → Mm → Prop} {p0 : Int} (hr_p0 : R32 p0) (h : VM E mX11_isYesNo k mem 0 [(0, aI p0)] [] (retI Q)) : CI E mX11_isYesNo k mem [aI p0] Q := CI_of rfl (Nat.le_of_ble_eq_true rfl) h (aNs_c (aNr_I hr_p0) (fun _ q => nomatch q))
