theorem dX8_layDown_0 : decode cX8_layDown 0 = .ok (.iload_n 1, 1) := by decide +kernel
theorem dX8_layDown_1 : decode cX8_layDown 1 = .ok (.invokestatic 39, 3) := by decide +kernel
theorem dX8_layDown_4 : decode cX8_layDown 4 = .ok (.ifCond .eq 10, 3) := by decide +kernel
theorem dX8_layDown_7 : decode cX8_layDown 7 = .ok (.iload_n 2, 1) := by decide +kernel
theorem dX8_layDown_8 : decode cX8_layDown 8 = .ok (.invokestatic 43, 3) := by decide +kernel
theorem dX8_layDown_11 : decode cX8_layDown 11 = .ok (.ifCond .ne 5, 3) := by decide +kernel
theorem dX8_layDown_14 : decode cX8_layDown 14 = .ok (.iconst (-1), 1) := by decide +kernel
theorem dX8_layDown_15 : decode cX8_layDown 15 = .ok (.ireturn, 1) := by decide +kernel
theorem dX8_layDown_16 : decode cX8_layDown 16 = .ok (.aload_n 0, 1) := by decide +kernel
theorem dX8_layDown_17 : decode cX8_layDown 17 = .ok (.getfield 12, 3) := by decide +kernel
theorem dX8_layDown_20 : decode cX8_layDown 20 = .ok (.iload_n 1, 1) := by decide +kernel
theorem dX8_layDown_21 : decode cX8_layDown 21 = .ok (.iload_n 2, 1) := by decide +kernel
theorem dX8_layDown_22 : decode cX8_layDown 22 = .ok (.invokevirtual 46, 3) := by decide +kernel
theorem dX8_layDown_25 : decode cX8_layDown 25 = .ok (.ifCond .ne 6, 3) := by decide +kernel
theorem dX8_layDown_28 : decode cX8_layDown 28 = .ok (.bipush (-3), 2) := by decide +kernel
theorem dX8_layDown_30 : decode cX8_layDown 30 = .ok (.ireturn, 1) := by decide +kernel
theorem dX8_layDown_31 : decode cX8_layDown 31 = .ok (.aload_n 0, 1) := by decide +kernel
theorem dX8_layDown_32 : decode cX8_layDown 32 = .ok (.getfield 12, 3) := by decide +kernel
theorem dX8_layDown_35 : decode cX8_layDown 35 = .ok (.getfield 50, 3) := by decide +kernel
theorem dX8_layDown_38 : decode cX8_layDown 38 = .ok (.bipush 10, 2) := by decide +kernel
theorem dX8_layDown_40 : decode cX8_layDown 40 = .ok (.if_icmp .lt 6, 3) := by decide +kernel
theorem dX8_layDown_43 : decode cX8_layDown 43 = .ok (.bipush (-5), 2) := by decide +kernel
theorem dX8_layDown_45 : decode cX8_layDown 45 = .ok (.ireturn, 1) := by decide +kernel
theorem dX8_layDown_46 : decode cX8_layDown 46 = .ok (.aload_n 0, 1) := by decide +kernel
theorem dX8_layDown_47 : decode cX8_layDown 47 = .ok (.getfield 21, 3) := by decide +kernel
theorem dX8_layDown_50 : decode cX8_layDown 50 = .ok (.aload_n 0, 1) := by decide +kernel
theorem dX8_layDown_51 : decode cX8_layDown 51 = .ok (.getfield 12, 3) := by decide +kernel
theorem dX8_layDown_54 : decode cX8_layDown 54 = .ok (.iconst 0, 1) := by decide +kernel
theorem dX8_layDown_55 : decode cX8_layDown 55 = .ok (.invokevirtual 53, 3) := by decide +kernel
theorem dX8_layDown_58 : decode cX8_layDown 58 = .ok (.aload_n 0, 1) := by decide +kernel
theorem dX8_layDown_59 : decode cX8_layDown 59 = .ok (.getfield 12, 3) := by decide +kernel
theorem dX8_layDown_62 : decode cX8_layDown 62 = .ok (.iload_n 1, 1) := by decide +kernel
theorem dX8_layDown_63 : decode cX8_layDown 63 = .ok (.iload_n 2, 1) := by decide +kernel
theorem dX8_layDown_64 : decode cX8_layDown 64 = .ok (.iload_n 3, 1) := by decide +kernel
theorem dX8_layDown_65 : decode cX8_layDown 65 = .ok (.invokevirtual 57, 3) := by decide +kernel
theorem dX8_layDown_68 : decode cX8_layDown 68 = .ok (.aload_n 0, 1) := by decide +kernel
theorem dX8_layDown_69 : decode cX8_layDown 69 = .ok (.getfield 12, 3) := by decide +kernel
theorem dX8_layDown_72 : decode cX8_layDown 72 = .ok (.getfield 50, 3) := by decide +kernel
theorem dX8_layDown_75 : decode cX8_layDown 75 = .ok (.iconst 1, 1) := by decide +kernel
theorem dX8_layDown_76 : decode cX8_layDown 76 = .ok (.isub, 1) := by decide +kernel
theorem dX8_layDown_77 : decode cX8_layDown 77 = .ok (.ireturn, 1) := by decide +kernel
set_option maxRecDepth 20000 in
theorem rX8_layDown_0 {E : EN} (hE : Ep E) {k : Nat} {mem : Mm} {Q : Int → Mm → Prop} {p0 p1 p2 : Int}
    (h : (R32 p0 → CI E mX11_isFamily k mem [aI p0] (fun r2 m1 => ((r2 = 0 → Q (-1) m1) ∧ (¬ r2 = 0 → (R32 p1 → CI E mX11_isCell k m1 [aI p1] (fun r4 m3 => ((¬ r4 = 0 → (R32 p0 → R32 p1 → CI E mX10_isOpenTo k m3 [aR 2, aI p0, aI p1] (fun r6 m5 => ((¬ r6 = 0 → (((m5 2 10) < 10 → (CV E mX6_keep k m5 [aR 12, aR 2, aI 0] (fun m7 => (R32 p0 → R32 p1 → R32 p2 → CV E mX10_add k m7 [aR 2, aI p0, aI p1, aI p2] (fun m8 => (R32 ((m8 2 10) - 1)) ∧ Q ((m8 2 10) - 1) m8))))) ∧ (10 ≤ (m5 2 10) → Q (-5) m5))) ∧ (r6 = 0 → Q (-3) m5))))) ∧ (r4 = 0 → Q (-1) m3))))))))) :
    VM E mX8_layDown (k + 1) mem 0 [(0, aR 1), (1, aI p0), (2, aI p1), (3, aI p2)] [] (retI Q) := by
  refine v_iload_n (pc := 0) dX8_layDown_0 1 rfl ?_
  refine m_invSI (pc := 1) (mi' := mX11_isFamily) (rest := []) [aI p0] dX8_layDown_1 msX11_isFamily stX11_isFamily lkX8_39 rfl (Nat.le_of_ble_eq_true rfl) (fun hn => CI_mono (h (aaI hn 0 rfl)) (fun r2 m1 h => ?_))
  refine v_ifeq (pc := 4) (tgt := 14) dX8_layDown_4 (by decide) (fun c1 => ?_) (fun c1 => ?_)
  · have h := h.1 c1
    refine v_iconst (pc := 14) dX8_layDown_14 (by decide) ?_
    exact m_retI (pc := 15) dX8_layDown_15 rfl h
  · have h := h.2 c1
    refine v_iload_n (pc := 7) dX8_layDown_7 2 rfl ?_
    refine m_invSI (pc := 8) (mi' := mX11_isCell) (rest := []) [aI p1] dX8_layDown_8 msX11_isCell stX11_isCell lkX8_43 rfl (Nat.le_of_ble_eq_true rfl) (fun hn => CI_mono (h (aaI hn 0 rfl)) (fun r4 m3 h => ?_))
    refine v_ifne (pc := 11) (tgt := 16) dX8_layDown_11 (by decide) (fun c1 => ?_) (fun c1 => ?_)
    · have h := h.1 c1
      refine v_aload_n (pc := 16) dX8_layDown_16 0 rfl ?_
      refine m_getfin (pc := 17) (v := 2) hE dX8_layDown_17 flX8_12 rfl at1 rfl ?_
      refine v_iload_n (pc := 20) dX8_layDown_20 1 rfl ?_
      refine v_iload_n (pc := 21) dX8_layDown_21 2 rfl ?_
      refine m_invI (pc := 22) (mi' := mX10_isOpenTo) (rest := []) [aI p0, aI p1] dX8_layDown_22 (yd0 (show isYd 2 by unfold isYd; omega)) (by decide) rfl msX10_isOpenTo mvX10_isOpenTo lkX8_46 rfl (Nat.le_of_ble_eq_true rfl) (fun hn => CI_mono (h (aaI hn 1 rfl) (aaI hn 2 rfl)) (fun r6 m5 h => ?_))
      refine v_ifne (pc := 25) (tgt := 31) dX8_layDown_25 (by decide) (fun c1 => ?_) (fun c1 => ?_)
      · have h := h.1 c1
        refine v_aload_n (pc := 31) dX8_layDown_31 0 rfl ?_
        refine m_getfin (pc := 32) (v := 2) hE dX8_layDown_32 flX8_12 rfl at1 rfl ?_
        refine m_getf (pc := 35) (t := 0) (v := (m5 2 10)) dX8_layDown_35 flX8_50 rfl (yd0 (show isYd 2 by unfold isYd; omega)) rfl ?_
        refine v_bipush (pc := 38) dX8_layDown_38 (by decide) ?_
        refine v_icmplt (pc := 40) (tgt := 46) dX8_layDown_40 (by decide) (fun c1 => ?_) (fun c1 => ?_)
        · have h := h.1 c1
          refine v_aload_n (pc := 46) dX8_layDown_46 0 rfl ?_
          refine m_getfin (pc := 47) (v := 12) hE dX8_layDown_47 flX8_21 rfl at1 rfl ?_
          refine v_aload_n (pc := 50) dX8_layDown_50 0 rfl ?_
          refine m_getfin (pc := 51) (v := 2) hE dX8_layDown_51 flX8_12 rfl at1 rfl ?_
          refine v_iconst (pc := 54) dX8_layDown_54 (by decide) ?_
          refine m_invV (pc := 55) (mi' := mX6_keep) (rest := []) [aR 2, aI 0] dX8_layDown_55 (pt0 (show isPt 12 by unfold isPt; omega)) (by decide) rfl msX6_keep mvX6_keep lkX8_53 rfl (Nat.le_of_ble_eq_true rfl) (fun hn => CV_mono (h) (fun m7 h => ?_))
          refine v_aload_n (pc := 58) dX8_layDown_58 0 rfl ?_
          refine m_getfin (pc := 59) (v := 2) hE dX8_layDown_59 flX8_12 rfl at1 rfl ?_
          refine v_iload_n (pc := 62) dX8_layDown_62 1 rfl ?_
          refine v_iload_n (pc := 63) dX8_layDown_63 2 rfl ?_
          refine v_iload_n (pc := 64) dX8_layDown_64 3 rfl ?_
          refine m_invV (pc := 65) (mi' := mX10_add) (rest := []) [aI p0, aI p1, aI p2] dX8_layDown_65 (yd0 (show isYd 2 by unfold isYd; omega)) (by decide) rfl msX10_add mvX10_add lkX8_57 rfl (Nat.le_of_ble_eq_true rfl) (fun hn => CV_mono (h (aaI hn 1 rfl) (aaI hn 2 rfl) (aaI hn 3 rfl)) (fun m8 h => ?_))
          refine v_aload_n (pc := 68) dX8_layDown_68 0 rfl ?_
          refine m_getfin (pc := 69) (v := 2) hE dX8_layDown_69 flX8_12 rfl at1 rfl ?_
          refine m_getf (pc := 72) (t := 0) (v := (m8 2 10)) dX8_layDown_72 flX8_50 rfl (yd0 (show isYd 2 by unfold isYd; omega)) rfl ?_
          refine v_iconst (pc := 75) dX8_layDown_75 (by decide) ?_
          obtain ⟨o9, h⟩ := h
          refine m_isub (pc := 76) dX8_layDown_76 o9 ?_
          exact m_retI (pc := 77) dX8_layDown_77 rfl h
        · have h := h.2 c1
          refine v_bipush (pc := 43) dX8_layDown_43 (by decide) ?_
          exact m_retI (pc := 45) dX8_layDown_45 rfl h
      · have h := h.2 c1
        refine v_bipush (pc := 28) dX8_layDown_28 (by decide) ?_
        exact m_retI (pc := 30) dX8_layDown_30 rfl h
    · have h := h.2 c1
      refine v_iconst (pc := 14) dX8_layDown_14 (by decide) ?_
      exact m_retI (pc := 15) dX8_layDown_15 rfl h
theorem eX8_layDown {E : EN} {k : Nat} {mem : Mm} {Q : Int → Mm → Prop} {p0 p1 p2 : Int} (hr_p0 : R32 p0) (hr_p1 : R32 p1) (hr_p2 : R32 p2) (h : VM E mX8_layDown (k + 1) mem 0 [(0, aR 1), (1, aI p0), (2, aI p1), (3, aI p2)] [] (retI Q)) : CI E mX8_layDown (k + 1) mem [aR 1, aI p0, aI p1, aI p2] Q := CI_of rfl (Nat.le_of_ble_eq_true rfl) h (aNs_c (aNr_R _) (aNs_c (aNr_I hr_p0) (aNs_c (aNr_I hr_p1) (aNs_c (aNr_I hr_p2) (fun _ q => nomatch q)))))

theorem dX8_purchase_0 : decode cX8_purchase 0 = .ok (.iload_n 1, 1) := by decide +kernel
theorem dX8_purchase_1 : decode cX8_purchase 1 = .ok (.invokestatic 43, 3) := by decide +kernel
theorem dX8_purchase_4 : decode cX8_purchase 4 = .ok (.ifCond .ne 5, 3) := by decide +kernel
theorem dX8_purchase_7 : decode cX8_purchase 7 = .ok (.iconst (-1), 1) := by decide +kernel
theorem dX8_purchase_8 : decode cX8_purchase 8 = .ok (.ireturn, 1) := by decide +kernel
theorem dX8_purchase_9 : decode cX8_purchase 9 = .ok (.aload_n 0, 1) := by decide +kernel
theorem dX8_purchase_10 : decode cX8_purchase 10 = .ok (.getfield 12, 3) := by decide +kernel
theorem dX8_purchase_13 : decode cX8_purchase 13 = .ok (.getfield 61, 3) := by decide +kernel
theorem dX8_purchase_16 : decode cX8_purchase 16 = .ok (.iload_n 1, 1) := by decide +kernel
theorem dX8_purchase_17 : decode cX8_purchase 17 = .ok (.iaload, 1) := by decide +kernel
theorem dX8_purchase_18 : decode cX8_purchase 18 = .ok (.iconst 1, 1) := by decide +kernel
theorem dX8_purchase_19 : decode cX8_purchase 19 = .ok (.if_icmp .ne 16, 3) := by decide +kernel
theorem dX8_purchase_22 : decode cX8_purchase 22 = .ok (.aload_n 0, 1) := by decide +kernel
theorem dX8_purchase_23 : decode cX8_purchase 23 = .ok (.getfield 12, 3) := by decide +kernel
theorem dX8_purchase_26 : decode cX8_purchase 26 = .ok (.getfield 64, 3) := by decide +kernel
theorem dX8_purchase_29 : decode cX8_purchase 29 = .ok (.iload_n 1, 1) := by decide +kernel
theorem dX8_purchase_30 : decode cX8_purchase 30 = .ok (.iaload, 1) := by decide +kernel
theorem dX8_purchase_31 : decode cX8_purchase 31 = .ok (.iconst 1, 1) := by decide +kernel
theorem dX8_purchase_32 : decode cX8_purchase 32 = .ok (.if_icmp .ne 6, 3) := by decide +kernel
theorem dX8_purchase_35 : decode cX8_purchase 35 = .ok (.bipush (-3), 2) := by decide +kernel
theorem dX8_purchase_37 : decode cX8_purchase 37 = .ok (.ireturn, 1) := by decide +kernel
theorem dX8_purchase_38 : decode cX8_purchase 38 = .ok (.aload_n 0, 1) := by decide +kernel
theorem dX8_purchase_39 : decode cX8_purchase 39 = .ok (.getfield 21, 3) := by decide +kernel
theorem dX8_purchase_42 : decode cX8_purchase 42 = .ok (.aload_n 0, 1) := by decide +kernel
theorem dX8_purchase_43 : decode cX8_purchase 43 = .ok (.getfield 12, 3) := by decide +kernel
theorem dX8_purchase_46 : decode cX8_purchase 46 = .ok (.iconst 1, 1) := by decide +kernel
theorem dX8_purchase_47 : decode cX8_purchase 47 = .ok (.invokevirtual 53, 3) := by decide +kernel
theorem dX8_purchase_50 : decode cX8_purchase 50 = .ok (.aload_n 0, 1) := by decide +kernel
theorem dX8_purchase_51 : decode cX8_purchase 51 = .ok (.getfield 12, 3) := by decide +kernel
theorem dX8_purchase_54 : decode cX8_purchase 54 = .ok (.getfield 64, 3) := by decide +kernel
theorem dX8_purchase_57 : decode cX8_purchase 57 = .ok (.iload_n 1, 1) := by decide +kernel
theorem dX8_purchase_58 : decode cX8_purchase 58 = .ok (.iconst 1, 1) := by decide +kernel
theorem dX8_purchase_59 : decode cX8_purchase 59 = .ok (.iastore, 1) := by decide +kernel
theorem dX8_purchase_60 : decode cX8_purchase 60 = .ok (.aload_n 0, 1) := by decide +kernel
theorem dX8_purchase_61 : decode cX8_purchase 61 = .ok (.getfield 12, 3) := by decide +kernel
theorem dX8_purchase_64 : decode cX8_purchase 64 = .ok (.getfield 67, 3) := by decide +kernel
theorem dX8_purchase_67 : decode cX8_purchase 67 = .ok (.iload_n 1, 1) := by decide +kernel
theorem dX8_purchase_68 : decode cX8_purchase 68 = .ok (.iaload, 1) := by decide +kernel
theorem dX8_purchase_69 : decode cX8_purchase 69 = .ok (.ireturn, 1) := by decide +kernel
set_option maxRecDepth 20000 in
theorem rX8_purchase_0 {E : EN} (hE : Ep E) {k : Nat} {mem : Mm} {Q : Int → Mm → Prop} {p0 : Int}
    (h : (R32 p0 → CI E mX11_isCell k mem [aI p0] (fun r2 m1 => ((¬ r2 = 0 → (0 ≤ p0 ∧ p0 < 32) ∧ ((¬ (m1 3 p0) = 1 → Q (-3) m1) ∧ ((m1 3 p0) = 1 → ((¬ (m1 5 p0) = 1 → (CV E mX6_keep k m1 [aR 12, aR 2, aI 1] (fun m4 => Q (m4 4 p0) (aUp m4 5 p0 1)))) ∧ ((m1 5 p0) = 1 → Q (-3) m1))))) ∧ (r2 = 0 → Q (-1) m1))))) :
    VM E mX8_purchase (k + 1) mem 0 [(0, aR 1), (1, aI p0)] [] (retI Q) := by
  refine v_iload_n (pc := 0) dX8_purchase_0 1 rfl ?_
  refine m_invSI (pc := 1) (mi' := mX11_isCell) (rest := []) [aI p0] dX8_purchase_1 msX11_isCell stX11_isCell lkX8_43 rfl (Nat.le_of_ble_eq_true rfl) (fun hn => CI_mono (h (aaI hn 0 rfl)) (fun r2 m1 h => ?_))
  refine v_ifne (pc := 4) (tgt := 9) dX8_purchase_4 (by decide) (fun c1 => ?_) (fun c1 => ?_)
  · have h := h.1 c1
    refine v_aload_n (pc := 9) dX8_purchase_9 0 rfl ?_
    refine m_getfin (pc := 10) (v := 2) hE dX8_purchase_10 flX8_12 rfl at1 rfl ?_
    refine m_getfin (pc := 13) (v := 3) hE dX8_purchase_13 flX8_61 rfl (yd0 (show isYd 2 by unfold isYd; omega)) rfl ?_
    refine v_iload_n (pc := 16) dX8_purchase_16 1 rfl ?_
    obtain ⟨o3, h⟩ := h
    refine m_iald (pc := 17) (v := (m1 3 p0)) dX8_purchase_17 (yd1 (show isYd 2 by unfold isYd; omega)) o3.1 o3.2 rfl ?_
    refine v_iconst (pc := 18) dX8_purchase_18 (by decide) ?_
    refine v_icmpne (pc := 19) (tgt := 35) dX8_purchase_19 (by decide) (fun c1 => ?_) (fun c1 => ?_)
    · have h := h.1 c1
      refine v_bipush (pc := 35) dX8_purchase_35 (by decide) ?_
      exact m_retI (pc := 37) dX8_purchase_37 rfl h
    · have h := h.2 c1
      refine v_aload_n (pc := 22) dX8_purchase_22 0 rfl ?_
      refine m_getfin (pc := 23) (v := 2) hE dX8_purchase_23 flX8_12 rfl at1 rfl ?_
      refine m_getfin (pc := 26) (v := 5) hE dX8_purchase_26 flX8_64 rfl (yd0 (show isYd 2 by unfold isYd; omega)) rfl ?_
      refine v_iload_n (pc := 29) dX8_purchase_29 1 rfl ?_
      refine m_iald (pc := 30) (v := (m1 5 p0)) dX8_purchase_30 (yd3 (show isYd 2 by unfold isYd; omega)) o3.1 o3.2 rfl ?_
      refine v_iconst (pc := 31) dX8_purchase_31 (by decide) ?_
      refine v_icmpne (pc := 32) (tgt := 38) dX8_purchase_32 (by decide) (fun c1 => ?_) (fun c1 => ?_)
      · have h := h.1 c1
        refine v_aload_n (pc := 38) dX8_purchase_38 0 rfl ?_
        refine m_getfin (pc := 39) (v := 12) hE dX8_purchase_39 flX8_21 rfl at1 rfl ?_
        refine v_aload_n (pc := 42) dX8_purchase_42 0 rfl ?_
        refine m_getfin (pc := 43) (v := 2) hE dX8_purchase_43 flX8_12 rfl at1 rfl ?_
        refine v_iconst (pc := 46) dX8_purchase_46 (by decide) ?_
        refine m_invV (pc := 47) (mi' := mX6_keep) (rest := []) [aR 2, aI 1] dX8_purchase_47 (pt0 (show isPt 12 by unfold isPt; omega)) (by decide) rfl msX6_keep mvX6_keep lkX8_53 rfl (Nat.le_of_ble_eq_true rfl) (fun hn => CV_mono (h) (fun m4 h => ?_))
        refine v_aload_n (pc := 50) dX8_purchase_50 0 rfl ?_
        refine m_getfin (pc := 51) (v := 2) hE dX8_purchase_51 flX8_12 rfl at1 rfl ?_
        refine m_getfin (pc := 54) (v := 5) hE dX8_purchase_54 flX8_64 rfl (yd0 (show isYd 2 by unfold isYd; omega)) rfl ?_
        refine v_iload_n (pc := 57) dX8_purchase_57 1 rfl ?_
        refine v_iconst (pc := 58) dX8_purchase_58 (by decide) ?_
        refine v_iast (pc := 59) dX8_purchase_59 (yd3 (show isYd 2 by unfold isYd; omega)) o3.1 o3.2 ?_
        refine v_aload_n (pc := 60) dX8_purchase_60 0 rfl ?_
        refine m_getfin (pc := 61) (v := 2) hE dX8_purchase_61 flX8_12 rfl at1 rfl ?_
        refine m_getfin (pc := 64) (v := 4) hE dX8_purchase_64 flX8_67 rfl (yd0 (show isYd 2 by unfold isYd; omega)) rfl ?_
        refine v_iload_n (pc := 67) dX8_purchase_67 1 rfl ?_
        refine m_iald (pc := 68) (v := (m4 4 p0)) dX8_purchase_68 (yd2 (show isYd 2 by unfold isYd; omega)) o3.1 o3.2 (aUp_rn (by omega)) ?_
        exact m_retI (pc := 69) dX8_purchase_69 rfl h
      · have h := h.2 c1
        refine v_bipush (pc := 35) dX8_purchase_35 (by decide) ?_
        exact m_retI (pc := 37) dX8_purchase_37 rfl h
  · have h := h.2 c1
    refine v_iconst (pc := 7) dX8_purchase_7 (by decide) ?_
    exact m_retI (pc := 8) dX8_purchase_8 rfl h
theorem eX8_purchase {E : EN} {k : Nat} {mem : Mm} {Q : Int → Mm → Prop} {p0 : Int} (hr_p0 : R32 p0) (h : VM E mX8_purchase (k + 1) mem 0 [(0, aR 1), (1, aI p0)] [] (retI Q)) : CI E mX8_purchase (k + 1) mem [aR 1, aI p0] Q := CI_of rfl (Nat.le_of_ble_eq_true rfl) h (aNs_c (aNr_R _) (aNs_c (aNr_I hr_p0) (fun _ q => nomatch q)))

theorem dX8_takeUp_0 : decode cX8_takeUp 0 = .ok (.aload_n 0, 1) := by decide +kernel
theorem dX8_takeUp_1 : decode cX8_takeUp 1 = .ok (.getfield 12, 3) := by decide +kernel
theorem dX8_takeUp_4 : decode cX8_takeUp 4 = .ok (.iload_n 1, 1) := by decide +kernel
theorem dX8_takeUp_5 : decode cX8_takeUp 5 = .ok (.invokevirtual 70, 3) := by decide +kernel
theorem dX8_takeUp_8 : decode cX8_takeUp 8 = .ok (.ifCond .ne 6, 3) := by decide +kernel
theorem dX8_takeUp_11 : decode cX8_takeUp 11 = .ok (.bipush (-2), 2) := by decide +kernel
theorem dX8_takeUp_13 : decode cX8_takeUp 13 = .ok (.ireturn, 1) := by decide +kernel
theorem dX8_takeUp_14 : decode cX8_takeUp 14 = .ok (.aload_n 0, 1) := by decide +kernel
theorem dX8_takeUp_15 : decode cX8_takeUp 15 = .ok (.getfield 21, 3) := by decide +kernel
theorem dX8_takeUp_18 : decode cX8_takeUp 18 = .ok (.aload_n 0, 1) := by decide +kernel
theorem dX8_takeUp_19 : decode cX8_takeUp 19 = .ok (.getfield 12, 3) := by decide +kernel
theorem dX8_takeUp_22 : decode cX8_takeUp 22 = .ok (.iconst 2, 1) := by decide +kernel
theorem dX8_takeUp_23 : decode cX8_takeUp 23 = .ok (.invokevirtual 53, 3) := by decide +kernel
theorem dX8_takeUp_26 : decode cX8_takeUp 26 = .ok (.aload_n 0, 1) := by decide +kernel
theorem dX8_takeUp_27 : decode cX8_takeUp 27 = .ok (.getfield 12, 3) := by decide +kernel
theorem dX8_takeUp_30 : decode cX8_takeUp 30 = .ok (.getfield 73, 3) := by decide +kernel
theorem dX8_takeUp_33 : decode cX8_takeUp 33 = .ok (.iload_n 1, 1) := by decide +kernel
theorem dX8_takeUp_34 : decode cX8_takeUp 34 = .ok (.iaload, 1) := by decide +kernel
theorem dX8_takeUp_35 : decode cX8_takeUp 35 = .ok (.istore_n 2, 1) := by decide +kernel
theorem dX8_takeUp_36 : decode cX8_takeUp 36 = .ok (.aload_n 0, 1) := by decide +kernel
theorem dX8_takeUp_37 : decode cX8_takeUp 37 = .ok (.getfield 12, 3) := by decide +kernel
theorem dX8_takeUp_40 : decode cX8_takeUp 40 = .ok (.iload_n 1, 1) := by decide +kernel
theorem dX8_takeUp_41 : decode cX8_takeUp 41 = .ok (.invokevirtual 76, 3) := by decide +kernel
theorem dX8_takeUp_44 : decode cX8_takeUp 44 = .ok (.iload_n 2, 1) := by decide +kernel
theorem dX8_takeUp_45 : decode cX8_takeUp 45 = .ok (.ireturn, 1) := by decide +kernel
set_option maxRecDepth 20000 in
theorem rX8_takeUp_0 {E : EN} (hE : Ep E) {k : Nat} {mem : Mm} {Q : Int → Mm → Prop} {p0 : Int}
    (h : (R32 p0 → CI E mX10_hasPlot k mem [aR 2, aI p0] (fun r2 m1 => ((¬ r2 = 0 → (CV E mX6_keep k m1 [aR 12, aR 2, aI 2] (fun m3 => (0 ≤ p0 ∧ p0 < 10) ∧ (R32 p0 → CV E mX10_remove k m3 [aR 2, aI p0] (fun m5 => Q (m3 6 p0) m5))))) ∧ (r2 = 0 → Q (-2) m1))))) :
    VM E mX8_takeUp (k + 1) mem 0 [(0, aR 1), (1, aI p0)] [] (retI Q) := by
  refine v_aload_n (pc := 0) dX8_takeUp_0 0 rfl ?_
  refine m_getfin (pc := 1) (v := 2) hE dX8_takeUp_1 flX8_12 rfl at1 rfl ?_
  refine v_iload_n (pc := 4) dX8_takeUp_4 1 rfl ?_
  refine m_invI (pc := 5) (mi' := mX10_hasPlot) (rest := []) [aI p0] dX8_takeUp_5 (yd0 (show isYd 2 by unfold isYd; omega)) (by decide) rfl msX10_hasPlot mvX10_hasPlot lkX8_70 rfl (Nat.le_of_ble_eq_true rfl) (fun hn => CI_mono (h (aaI hn 1 rfl)) (fun r2 m1 h => ?_))
  refine v_ifne (pc := 8) (tgt := 14) dX8_takeUp_8 (by decide) (fun c1 => ?_) (fun c1 => ?_)
  · have h := h.1 c1
    refine v_aload_n (pc := 14) dX8_takeUp_14 0 rfl ?_
    refine m_getfin (pc := 15) (v := 12) hE dX8_takeUp_15 flX8_21 rfl at1 rfl ?_
    refine v_aload_n (pc := 18) dX8_takeUp_18 0 rfl ?_
    refine m_getfin (pc := 19) (v := 2) hE dX8_takeUp_19 flX8_12 rfl at1 rfl ?_
    refine v_iconst (pc := 22) dX8_takeUp_22 (by decide) ?_
    refine m_invV (pc := 23) (mi' := mX6_keep) (rest := []) [aR 2, aI 2] dX8_takeUp_23 (pt0 (show isPt 12 by unfold isPt; omega)) (by decide) rfl msX6_keep mvX6_keep lkX8_53 rfl (Nat.le_of_ble_eq_true rfl) (fun hn => CV_mono (h) (fun m3 h => ?_))
    refine v_aload_n (pc := 26) dX8_takeUp_26 0 rfl ?_
    refine m_getfin (pc := 27) (v := 2) hE dX8_takeUp_27 flX8_12 rfl at1 rfl ?_
    refine m_getfin (pc := 30) (v := 6) hE dX8_takeUp_30 flX8_73 rfl (yd0 (show isYd 2 by unfold isYd; omega)) rfl ?_
    refine v_iload_n (pc := 33) dX8_takeUp_33 1 rfl ?_
    obtain ⟨o4, h⟩ := h
    refine m_iald (pc := 34) (v := (m3 6 p0)) dX8_takeUp_34 (yd4 (show isYd 2 by unfold isYd; omega)) o4.1 o4.2 rfl ?_
    refine v_istore_n (pc := 35) (al2 := [(2, aI (m3 6 p0)), (0, aR 1), (1, aI p0)]) dX8_takeUp_35 (by decide) rfl ?_
    refine v_aload_n (pc := 36) dX8_takeUp_36 1 rfl ?_
    refine m_getfin (pc := 37) (v := 2) hE dX8_takeUp_37 flX8_12 rfl at1 rfl ?_
    refine v_iload_n (pc := 40) dX8_takeUp_40 2 rfl ?_
    refine m_invV (pc := 41) (mi' := mX10_remove) (rest := []) [aI p0] dX8_takeUp_41 (yd0 (show isYd 2 by unfold isYd; omega)) (by decide) rfl msX10_remove mvX10_remove lkX8_76 rfl (Nat.le_of_ble_eq_true rfl) (fun hn => CV_mono (h (aaI hn 1 rfl)) (fun m5 h => ?_))
    refine v_iload_n (pc := 44) dX8_takeUp_44 0 rfl ?_
    exact m_retI (pc := 45) dX8_takeUp_45 rfl h
  · have h := h.2 c1
    refine v_bipush (pc := 11) dX8_takeUp_11 (by decide) ?_
    exact m_retI (pc := 13) dX8_takeUp_13 rfl h
theorem eX8_takeUp {E : EN} {k : Nat} {mem : Mm} {Q : Int → Mm → Prop} {p0 : Int} (hr_p0 : R32 p0) (h : VM E mX8_takeUp (k + 1) mem 0 [(0, aR 1), (1, aI p0)] [] (retI Q)) : CI E mX8_takeUp (k + 1) mem [aR 1, aI p0] Q := CI_of rfl (Nat.le_of_ble_eq_true rfl) h (aNs_c (aNr_R _) (aNs_c (aNr_I hr_p0) (fun _ q => nomatch q)))

theorem dX8_bringYear_0 : decode cX8_bringYear 0 = .ok (.aload_n 0, 1) := by decide +kernel
theorem dX8_bringYear_1 : decode cX8_bringYear 1 = .ok (.getfield 12, 3) := by decide +kernel
theorem dX8_bringYear_4 : decode cX8_bringYear 4 = .ok (.getfield 80, 3) := by decide +kernel
theorem dX8_bringYear_7 : decode cX8_bringYear 7 = .ok (.iconst 0, 1) := by decide +kernel
theorem dX8_bringYear_8 : decode cX8_bringYear 8 = .ok (.iaload, 1) := by decide +kernel
theorem dX8_bringYear_9 : decode cX8_bringYear 9 = .ok (.sipush 999, 3) := by decide +kernel
theorem dX8_bringYear_12 : decode cX8_bringYear 12 = .ok (.if_icmp .lt 6, 3) := by decide +kernel
theorem dX8_bringYear_15 : decode cX8_bringYear 15 = .ok (.bipush (-3), 2) := by decide +kernel
theorem dX8_bringYear_17 : decode cX8_bringYear 17 = .ok (.ireturn, 1) := by decide +kernel
theorem dX8_bringYear_18 : decode cX8_bringYear 18 = .ok (.aload_n 0, 1) := by decide +kernel
theorem dX8_bringYear_19 : decode cX8_bringYear 19 = .ok (.getfield 21, 3) := by decide +kernel
theorem dX8_bringYear_22 : decode cX8_bringYear 22 = .ok (.aload_n 0, 1) := by decide +kernel
theorem dX8_bringYear_23 : decode cX8_bringYear 23 = .ok (.getfield 12, 3) := by decide +kernel
theorem dX8_bringYear_26 : decode cX8_bringYear 26 = .ok (.iconst 3, 1) := by decide +kernel
theorem dX8_bringYear_27 : decode cX8_bringYear 27 = .ok (.invokevirtual 53, 3) := by decide +kernel
theorem dX8_bringYear_30 : decode cX8_bringYear 30 = .ok (.aload_n 0, 1) := by decide +kernel
theorem dX8_bringYear_31 : decode cX8_bringYear 31 = .ok (.getfield 12, 3) := by decide +kernel
theorem dX8_bringYear_34 : decode cX8_bringYear 34 = .ok (.invokevirtual 83, 3) := by decide +kernel
theorem dX8_bringYear_37 : decode cX8_bringYear 37 = .ok (.aload_n 0, 1) := by decide +kernel
theorem dX8_bringYear_38 : decode cX8_bringYear 38 = .ok (.aload_n 0, 1) := by decide +kernel
theorem dX8_bringYear_39 : decode cX8_bringYear 39 = .ok (.getfield 12, 3) := by decide +kernel
theorem dX8_bringYear_42 : decode cX8_bringYear 42 = .ok (.getfield 86, 3) := by decide +kernel
theorem dX8_bringYear_45 : decode cX8_bringYear 45 = .ok (.putfield 89, 3) := by decide +kernel
theorem dX8_bringYear_48 : decode cX8_bringYear 48 = .ok (.aload_n 0, 1) := by decide +kernel
theorem dX8_bringYear_49 : decode cX8_bringYear 49 = .ok (.aload_n 0, 1) := by decide +kernel
theorem dX8_bringYear_50 : decode cX8_bringYear 50 = .ok (.getfield 12, 3) := by decide +kernel
theorem dX8_bringYear_53 : decode cX8_bringYear 53 = .ok (.getfield 92, 3) := by decide +kernel
theorem dX8_bringYear_56 : decode cX8_bringYear 56 = .ok (.putfield 95, 3) := by decide +kernel
theorem dX8_bringYear_59 : decode cX8_bringYear 59 = .ok (.aload_n 0, 1) := by decide +kernel
theorem dX8_bringYear_60 : decode cX8_bringYear 60 = .ok (.getfield 95, 3) := by decide +kernel
theorem dX8_bringYear_63 : decode cX8_bringYear 63 = .ok (.ireturn, 1) := by decide +kernel
set_option maxRecDepth 20000 in
theorem rX8_bringYear_0 {E : EN} (hE : Ep E) {k : Nat} {mem : Mm} {Q : Int → Mm → Prop}
    (h : (((mem 10 0) < 999 → (CV E mX6_keep k mem [aR 12, aR 2, aI 3] (fun m1 => (CV E mX10_turnYear k m1 [aR 2] (fun m2 => Q (m2 2 11) (aUp (aUp m2 1 6 (m2 2 12)) 1 7 (m2 2 11))))))) ∧ (999 ≤ (mem 10 0) → Q (-3) mem))) :
    VM E mX8_bringYear (k + 1) mem 0 [(0, aR 1)] [] (retI Q) := by
  refine v_aload_n (pc := 0) dX8_bringYear_0 0 rfl ?_
  refine m_getfin (pc := 1) (v := 2) hE dX8_bringYear_1 flX8_12 rfl at1 rfl ?_
  refine m_getfin (pc := 4) (v := 10) hE dX8_bringYear_4 flX8_80 rfl (yd0 (show isYd 2 by unfold isYd; omega)) rfl ?_
  refine v_iconst (pc := 7) dX8_bringYear_7 (by decide) ?_
  refine m_iald (pc := 8) (v := (mem 10 0)) dX8_bringYear_8 (yd8 (show isYd 2 by unfold isYd; omega)) (by omega) (by omega) rfl ?_
  refine v_sipush (pc := 9) dX8_bringYear_9 (by decide) ?_
  refine v_icmplt (pc := 12) (tgt := 18) dX8_bringYear_12 (by decide) (fun c1 => ?_) (fun c1 => ?_)
  · have h := h.1 c1
    refine v_aload_n (pc := 18) dX8_bringYear_18 0 rfl ?_
    refine m_getfin (pc := 19) (v := 12) hE dX8_bringYear_19 flX8_21 rfl at1 rfl ?_
    refine v_aload_n (pc := 22) dX8_bringYear_22 0 rfl ?_
    refine m_getfin (pc := 23) (v := 2) hE dX8_bringYear_23 flX8_12 rfl at1 rfl ?_
    refine v_iconst (pc := 26) dX8_bringYear_26 (by decide) ?_
    refine m_invV (pc := 27) (mi' := mX6_keep) (rest := []) [aR 2, aI 3] dX8_bringYear_27 (pt0 (show isPt 12 by unfold isPt; omega)) (by decide) rfl msX6_keep mvX6_keep lkX8_53 rfl (Nat.le_of_ble_eq_true rfl) (fun hn => CV_mono (h) (fun m1 h => ?_))
    refine v_aload_n (pc := 30) dX8_bringYear_30 0 rfl ?_
    refine m_getfin (pc := 31) (v := 2) hE dX8_bringYear_31 flX8_12 rfl at1 rfl ?_
    refine m_invV (pc := 34) (mi' := mX10_turnYear) (rest := []) [] dX8_bringYear_34 (yd0 (show isYd 2 by unfold isYd; omega)) (by decide) rfl msX10_turnYear mvX10_turnYear lkX8_83 rfl (Nat.le_of_ble_eq_true rfl) (fun hn => CV_mono (h) (fun m2 h => ?_))
    refine v_aload_n (pc := 37) dX8_bringYear_37 0 rfl ?_
    refine v_aload_n (pc := 38) dX8_bringYear_38 0 rfl ?_
    refine m_getfin (pc := 39) (v := 2) hE dX8_bringYear_39 flX8_12 rfl at1 rfl ?_
    refine m_getf (pc := 42) (t := 0) (v := (m2 2 12)) dX8_bringYear_42 flX8_86 rfl (yd0 (show isYd 2 by unfold isYd; omega)) rfl ?_
    refine v_putf (pc := 45) dX8_bringYear_45 flX8_89 ⟨_, _, rfl, Or.inl rfl⟩ rfl (by decide) (fun q => nomatch q) (Or.inl fun _ => rfl) at1 ?_
    refine v_aload_n (pc := 48) dX8_bringYear_48 0 rfl ?_
    refine v_aload_n (pc := 49) dX8_bringYear_49 0 rfl ?_
    refine m_getfin (pc := 50) (v := 2) hE dX8_bringYear_50 flX8_12 rfl at1 rfl ?_
    refine m_getf (pc := 53) (t := 0) (v := (m2 2 11)) dX8_bringYear_53 flX8_92 rfl (yd0 (show isYd 2 by unfold isYd; omega)) (aUp_rn (by omega)) ?_
    refine v_putf (pc := 56) dX8_bringYear_56 flX8_95 ⟨_, _, rfl, Or.inl rfl⟩ rfl (by decide) (fun q => nomatch q) (Or.inl fun _ => rfl) at1 ?_
    refine v_aload_n (pc := 59) dX8_bringYear_59 0 rfl ?_
    refine m_getf (pc := 60) (t := 0) (v := (m2 2 11)) dX8_bringYear_60 flX8_95 rfl at1 (aUp_re) ?_
    exact m_retI (pc := 63) dX8_bringYear_63 rfl h
  · have h := h.2 c1
    refine v_bipush (pc := 15) dX8_bringYear_15 (by decide) ?_
    exact m_retI (pc := 17) dX8_bringYear_17 rfl h
theorem eX8_bringYear {E : EN} {k : Nat} {mem : Mm} {Q : Int → Mm → Prop}  (h : VM E mX8_bringYear (k + 1) mem 0 [(0, aR 1)] [] (retI Q)) : CI E mX8_bringYear (k + 1) mem [aR 1] Q := CI_of rfl (Nat.le_of_ble_eq_true rfl) h (aNs_c (aNr_R _) (fun _ q => nomatch q))

theorem dX8_beginOrders_0 : decode cX8_beginOrders 0 = .ok (.aload_n 0, 1) := by decide +kernel
theorem dX8_beginOrders_1 : decode cX8_beginOrders 1 = .ok (.getfield 25, 3) := by decide +kernel
theorem dX8_beginOrders_4 : decode cX8_beginOrders 4 = .ok (.aload_n 0, 1) := by decide +kernel
theorem dX8_beginOrders_5 : decode cX8_beginOrders 5 = .ok (.getfield 12, 3) := by decide +kernel
theorem dX8_beginOrders_8 : decode cX8_beginOrders 8 = .ok (.invokevirtual 98, 3) := by decide +kernel
theorem dX8_beginOrders_11 : decode cX8_beginOrders 11 = .ok (.aload_n 0, 1) := by decide +kernel
theorem dX8_beginOrders_12 : decode cX8_beginOrders 12 = .ok (.getfield 28, 3) := by decide +kernel
theorem dX8_beginOrders_15 : decode cX8_beginOrders 15 = .ok (.aload_n 0, 1) := by decide +kernel
theorem dX8_beginOrders_16 : decode cX8_beginOrders 16 = .ok (.getfield 21, 3) := by decide +kernel
theorem dX8_beginOrders_19 : decode cX8_beginOrders 19 = .ok (.invokevirtual 102, 3) := by decide +kernel
theorem dX8_beginOrders_22 : decode cX8_beginOrders 22 = .ok (.aload_n 0, 1) := by decide +kernel
theorem dX8_beginOrders_23 : decode cX8_beginOrders 23 = .ok (.aload_n 0, 1) := by decide +kernel
theorem dX8_beginOrders_24 : decode cX8_beginOrders 24 = .ok (.getfield 89, 3) := by decide +kernel
theorem dX8_beginOrders_27 : decode cX8_beginOrders 27 = .ok (.putfield 105, 3) := by decide +kernel
theorem dX8_beginOrders_30 : decode cX8_beginOrders 30 = .ok (.aload_n 0, 1) := by decide +kernel
theorem dX8_beginOrders_31 : decode cX8_beginOrders 31 = .ok (.iconst (-1), 1) := by decide +kernel
theorem dX8_beginOrders_32 : decode cX8_beginOrders 32 = .ok (.putfield 95, 3) := by decide +kernel
theorem dX8_beginOrders_35 : decode cX8_beginOrders 35 = .ok (.aload_n 0, 1) := by decide +kernel
theorem dX8_beginOrders_36 : decode cX8_beginOrders 36 = .ok (.iconst 0, 1) := by decide +kernel
theorem dX8_beginOrders_37 : decode cX8_beginOrders 37 = .ok (.putfield 108, 3) := by decide +kernel
theorem dX8_beginOrders_40 : decode cX8_beginOrders 40 = .ok (.return_, 1) := by decide +kernel
set_option maxRecDepth 20000 in
theorem rX8_beginOrders_0 {E : EN} (hE : Ep E) {k : Nat} {mem : Mm} {Q : Mm → Prop}
    (h : (CV E mX10_copyFrom k mem [aR 175, aR 2] (fun m1 => (CV E mX6_copyFrom k m1 [aR 185, aR 12] (fun m2 => Q (aUp (aUp (aUp m2 1 5 (m2 1 6)) 1 7 (-1)) 1 8 0)))))) :
    VM E mX8_beginOrders (k + 1) mem 0 [(0, aR 1)] [] (retV Q) := by
  refine v_aload_n (pc := 0) dX8_beginOrders_0 0 rfl ?_
  refine m_getfin (pc := 1) (v := 175) hE dX8_beginOrders_1 flX8_25 rfl at1 rfl ?_
  refine v_aload_n (pc := 4) dX8_beginOrders_4 0 rfl ?_
  refine m_getfin (pc := 5) (v := 2) hE dX8_beginOrders_5 flX8_12 rfl at1 rfl ?_
  refine m_invV (pc := 8) (mi' := mX10_copyFrom) (rest := []) [aR 2] dX8_beginOrders_8 (yd0 (show isYd 175 by unfold isYd; omega)) (by decide) rfl msX10_copyFrom mvX10_copyFrom lkX8_98 rfl (Nat.le_of_ble_eq_true rfl) (fun hn => CV_mono (h) (fun m1 h => ?_))
  refine v_aload_n (pc := 11) dX8_beginOrders_11 0 rfl ?_
  refine m_getfin (pc := 12) (v := 185) hE dX8_beginOrders_12 flX8_28 rfl at1 rfl ?_
  refine v_aload_n (pc := 15) dX8_beginOrders_15 0 rfl ?_
  refine m_getfin (pc := 16) (v := 12) hE dX8_beginOrders_16 flX8_21 rfl at1 rfl ?_
  refine m_invV (pc := 19) (mi' := mX6_copyFrom) (rest := []) [aR 12] dX8_beginOrders_19 (pt0 (show isPt 185 by unfold isPt; omega)) (by decide) rfl msX6_copyFrom mvX6_copyFrom lkX8_102 rfl (Nat.le_of_ble_eq_true rfl) (fun hn => CV_mono (h) (fun m2 h => ?_))
  refine v_aload_n (pc := 22) dX8_beginOrders_22 0 rfl ?_
  refine v_aload_n (pc := 23) dX8_beginOrders_23 0 rfl ?_
  refine m_getf (pc := 24) (t := 0) (v := (m2 1 6)) dX8_beginOrders_24 flX8_89 rfl at1 rfl ?_
  refine v_putf (pc := 27) dX8_beginOrders_27 flX8_105 ⟨_, _, rfl, Or.inl rfl⟩ rfl (by decide) (fun q => nomatch q) (Or.inl fun _ => rfl) at1 ?_
  refine v_aload_n (pc := 30) dX8_beginOrders_30 0 rfl ?_
  refine v_iconst (pc := 31) dX8_beginOrders_31 (by decide) ?_
  refine v_putf (pc := 32) dX8_beginOrders_32 flX8_95 ⟨_, _, rfl, Or.inl rfl⟩ rfl (by decide) (fun q => nomatch q) (Or.inl fun _ => rfl) at1 ?_
  refine v_aload_n (pc := 35) dX8_beginOrders_35 0 rfl ?_
  refine v_iconst (pc := 36) dX8_beginOrders_36 (by decide) ?_
  refine v_putf (pc := 37) dX8_beginOrders_37 flX8_108 ⟨_, _, rfl, Or.inl rfl⟩ rfl (by decide) (fun q => nomatch q) (Or.inl fun _ => rfl) at1 ?_
  exact m_retV (pc := 40) dX8_beginOrders_40 rfl h
theorem eX8_beginOrders {E : EN} {k : Nat} {mem : Mm} {Q : Mm → Prop}  (h : VM E mX8_beginOrders (k + 1) mem 0 [(0, aR 1)] [] (retV Q)) : CV E mX8_beginOrders (k + 1) mem [aR 1] Q := CV_of rfl (Nat.le_of_ble_eq_true rfl) h (aNs_c (aNr_R _) (fun _ q => nomatch q))

theorem dX8_giveUpOrders_0 : decode cX8_giveUpOrders 0 = .ok (.aload_n 0, 1) := by decide +kernel
theorem dX8_giveUpOrders_1 : decode cX8_giveUpOrders 1 = .ok (.getfield 12, 3) := by decide +kernel
theorem dX8_giveUpOrders_4 : decode cX8_giveUpOrders 4 = .ok (.aload_n 0, 1) := by decide +kernel
theorem dX8_giveUpOrders_5 : decode cX8_giveUpOrders 5 = .ok (.getfield 25, 3) := by decide +kernel
theorem dX8_giveUpOrders_8 : decode cX8_giveUpOrders 8 = .ok (.invokevirtual 98, 3) := by decide +kernel
theorem dX8_giveUpOrders_11 : decode cX8_giveUpOrders 11 = .ok (.aload_n 0, 1) := by decide +kernel
theorem dX8_giveUpOrders_12 : decode cX8_giveUpOrders 12 = .ok (.getfield 21, 3) := by decide +kernel
theorem dX8_giveUpOrders_15 : decode cX8_giveUpOrders 15 = .ok (.aload_n 0, 1) := by decide +kernel
theorem dX8_giveUpOrders_16 : decode cX8_giveUpOrders 16 = .ok (.getfield 28, 3) := by decide +kernel
theorem dX8_giveUpOrders_19 : decode cX8_giveUpOrders 19 = .ok (.invokevirtual 102, 3) := by decide +kernel
theorem dX8_giveUpOrders_22 : decode cX8_giveUpOrders 22 = .ok (.aload_n 0, 1) := by decide +kernel
theorem dX8_giveUpOrders_23 : decode cX8_giveUpOrders 23 = .ok (.aload_n 0, 1) := by decide +kernel
theorem dX8_giveUpOrders_24 : decode cX8_giveUpOrders 24 = .ok (.getfield 105, 3) := by decide +kernel
theorem dX8_giveUpOrders_27 : decode cX8_giveUpOrders 27 = .ok (.putfield 89, 3) := by decide +kernel
theorem dX8_giveUpOrders_30 : decode cX8_giveUpOrders 30 = .ok (.aload_n 0, 1) := by decide +kernel
theorem dX8_giveUpOrders_31 : decode cX8_giveUpOrders 31 = .ok (.iload_n 1, 1) := by decide +kernel
theorem dX8_giveUpOrders_32 : decode cX8_giveUpOrders 32 = .ok (.putfield 35, 3) := by decide +kernel
theorem dX8_giveUpOrders_35 : decode cX8_giveUpOrders 35 = .ok (.return_, 1) := by decide +kernel
set_option maxRecDepth 20000 in
theorem rX8_giveUpOrders_0 {E : EN} (hE : Ep E) {k : Nat} {mem : Mm} {Q : Mm → Prop} {p0 : Int}
    (h : (CV E mX10_copyFrom k mem [aR 2, aR 175] (fun m1 => (CV E mX6_copyFrom k m1 [aR 12, aR 185] (fun m2 => Q (aUp (aUp m2 1 6 (m2 1 5)) 1 9 p0)))))) :
    VM E mX8_giveUpOrders (k + 1) mem 0 [(0, aR 1), (1, aI p0)] [] (retV Q) := by
  refine v_aload_n (pc := 0) dX8_giveUpOrders_0 0 rfl ?_
  refine m_getfin (pc := 1) (v := 2) hE dX8_giveUpOrders_1 flX8_12 rfl at1 rfl ?_
  refine v_aload_n (pc := 4) dX8_giveUpOrders_4 0 rfl ?_
  refine m_getfin (pc := 5) (v := 175) hE dX8_giveUpOrders_5 flX8_25 rfl at1 rfl ?_
  refine m_invV (pc := 8) (mi' := mX10_copyFrom) (rest := []) [aR 175] dX8_giveUpOrders_8 (yd0 (show isYd 2 by unfold isYd; omega)) (by decide) rfl msX10_copyFrom mvX10_copyFrom lkX8_98 rfl (Nat.le_of_ble_eq_true rfl) (fun hn => CV_mono (h) (fun m1 h => ?_))
  refine v_aload_n (pc := 11) dX8_giveUpOrders_11 0 rfl ?_
  refine m_getfin (pc := 12) (v := 12) hE dX8_giveUpOrders_12 flX8_21 rfl at1 rfl ?_
  refine v_aload_n (pc := 15) dX8_giveUpOrders_15 0 rfl ?_
  refine m_getfin (pc := 16) (v := 185) hE dX8_giveUpOrders_16 flX8_28 rfl at1 rfl ?_
  refine m_invV (pc := 19) (mi' := mX6_copyFrom) (rest := []) [aR 185] dX8_giveUpOrders_19 (pt0 (show isPt 12 by unfold isPt; omega)) (by decide) rfl msX6_copyFrom mvX6_copyFrom lkX8_102 rfl (Nat.le_of_ble_eq_true rfl) (fun hn => CV_mono (h) (fun m2 h => ?_))
  refine v_aload_n (pc := 22) dX8_giveUpOrders_22 0 rfl ?_
  refine v_aload_n (pc := 23) dX8_giveUpOrders_23 0 rfl ?_
  refine m_getf (pc := 24) (t := 0) (v := (m2 1 5)) dX8_giveUpOrders_24 flX8_105 rfl at1 rfl ?_
  refine v_putf (pc := 27) dX8_giveUpOrders_27 flX8_89 ⟨_, _, rfl, Or.inl rfl⟩ rfl (by decide) (fun q => nomatch q) (Or.inl fun _ => rfl) at1 ?_
  refine v_aload_n (pc := 30) dX8_giveUpOrders_30 0 rfl ?_
  refine v_iload_n (pc := 31) dX8_giveUpOrders_31 1 rfl ?_
  refine v_putf (pc := 32) dX8_giveUpOrders_32 flX8_35 ⟨_, _, rfl, Or.inl rfl⟩ rfl (by decide) (fun q => nomatch q) (Or.inl fun _ => rfl) at1 ?_
  exact m_retV (pc := 35) dX8_giveUpOrders_35 rfl h
theorem eX8_giveUpOrders {E : EN} {k : Nat} {mem : Mm} {Q : Mm → Prop} {p0 : Int} (hr_p0 : R32 p0) (h : VM E mX8_giveUpOrders (k + 1) mem 0 [(0, aR 1), (1, aI p0)] [] (retV Q)) : CV E mX8_giveUpOrders (k + 1) mem [aR 1, aI p0] Q := CV_of rfl (Nat.le_of_ble_eq_true rfl) h (aNs_c (aNr_R _) (aNs_c (aNr_I hr_p0) (fun _ q => nomatch q)))

theorem dX8_obey_0 : decode cX8_obey 0 = .ok (.aload_n 0, 1) := by decide +kernel
theorem dX8_obey_1 : decode cX8_obey 1 = .ok (.invokevirtual 111, 3) := by decide +kernel
theorem dX8_obey_4 : decode cX8_obey 4 = .ok (.aload_n 1, 1) := by decide +kernel
theorem dX8_obey_5 : decode cX8_obey 5 = .ok (.aload_n 1, 1) := by decide +kernel
theorem dX8_obey_6 : decode cX8_obey 6 = .ok (.getfield 114, 3) := by decide +kernel
theorem dX8_obey_9 : decode cX8_obey 9 = .ok (.iload_n 2, 1) := by decide +kernel
theorem dX8_obey_10 : decode cX8_obey 10 = .ok (.iaload, 1) := by decide +kernel
theorem dX8_obey_11 : decode cX8_obey 11 = .ok (.aload_n 0, 1) := by decide +kernel
theorem dX8_obey_12 : decode cX8_obey 12 = .ok (.getfield 31, 3) := by decide +kernel
theorem dX8_obey_15 : decode cX8_obey 15 = .ok (.invokevirtual 119, 3) := by decide +kernel
theorem dX8_obey_18 : decode cX8_obey 18 = .ok (.iconst 1, 1) := by decide +kernel
theorem dX8_obey_19 : decode cX8_obey 19 = .ok (.if_icmp .eq 5, 3) := by decide +kernel
theorem dX8_obey_22 : decode cX8_obey 22 = .ok (.iconst 0, 1) := by decide +kernel
theorem dX8_obey_23 : decode cX8_obey 23 = .ok (.ireturn, 1) := by decide +kernel
theorem dX8_obey_24 : decode cX8_obey 24 = .ok (.aload_n 1, 1) := by decide +kernel
theorem dX8_obey_25 : decode cX8_obey 25 = .ok (.aload_n 1, 1) := by decide +kernel
theorem dX8_obey_26 : decode cX8_obey 26 = .ok (.getfield 123, 3) := by decide +kernel
theorem dX8_obey_29 : decode cX8_obey 29 = .ok (.iload_n 2, 1) := by decide +kernel
theorem dX8_obey_30 : decode cX8_obey 30 = .ok (.iaload, 1) := by decide +kernel
theorem dX8_obey_31 : decode cX8_obey 31 = .ok (.aload_n 0, 1) := by decide +kernel
theorem dX8_obey_32 : decode cX8_obey 32 = .ok (.getfield 31, 3) := by decide +kernel
theorem dX8_obey_35 : decode cX8_obey 35 = .ok (.invokevirtual 119, 3) := by decide +kernel
theorem dX8_obey_38 : decode cX8_obey 38 = .ok (.istore_n 3, 1) := by decide +kernel
theorem dX8_obey_39 : decode cX8_obey 39 = .ok (.aload_n 1, 1) := by decide +kernel
theorem dX8_obey_40 : decode cX8_obey 40 = .ok (.aload_n 1, 1) := by decide +kernel
theorem dX8_obey_41 : decode cX8_obey 41 = .ok (.getfield 126, 3) := by decide +kernel
theorem dX8_obey_44 : decode cX8_obey 44 = .ok (.iload_n 2, 1) := by decide +kernel
theorem dX8_obey_45 : decode cX8_obey 45 = .ok (.iaload, 1) := by decide +kernel
theorem dX8_obey_46 : decode cX8_obey 46 = .ok (.aload_n 0, 1) := by decide +kernel
theorem dX8_obey_47 : decode cX8_obey 47 = .ok (.getfield 31, 3) := by decide +kernel
theorem dX8_obey_50 : decode cX8_obey 50 = .ok (.invokevirtual 119, 3) := by decide +kernel
theorem dX8_obey_53 : decode cX8_obey 53 = .ok (.istore 4, 2) := by decide +kernel
theorem dX8_obey_55 : decode cX8_obey 55 = .ok (.iload_n 3, 1) := by decide +kernel
theorem dX8_obey_56 : decode cX8_obey 56 = .ok (.ldc 129, 2) := by decide +kernel
theorem dX8_obey_58 : decode cX8_obey 58 = .ok (.if_icmp .eq 10, 3) := by decide +kernel
theorem dX8_obey_61 : decode cX8_obey 61 = .ok (.iload 4, 2) := by decide +kernel
theorem dX8_obey_63 : decode cX8_obey 63 = .ok (.ldc 129, 2) := by decide +kernel
theorem dX8_obey_65 : decode cX8_obey 65 = .ok (.if_icmp .ne 6, 3) := by decide +kernel
theorem dX8_obey_68 : decode cX8_obey 68 = .ok (.bipush (-3), 2) := by decide +kernel
theorem dX8_obey_70 : decode cX8_obey 70 = .ok (.ireturn, 1) := by decide +kernel
theorem dX8_obey_71 : decode cX8_obey 71 = .ok (.aload_n 0, 1) := by decide +kernel
theorem dX8_obey_72 : decode cX8_obey 72 = .ok (.dup, 1) := by decide +kernel
theorem dX8_obey_73 : decode cX8_obey 73 = .ok (.getfield 108, 3) := by decide +kernel
theorem dX8_obey_76 : decode cX8_obey 76 = .ok (.iconst 1, 1) := by decide +kernel
theorem dX8_obey_77 : decode cX8_obey 77 = .ok (.iadd, 1) := by decide +kernel
theorem dX8_obey_78 : decode cX8_obey 78 = .ok (.putfield 108, 3) := by decide +kernel
theorem dX8_obey_81 : decode cX8_obey 81 = .ok (.aload_n 1, 1) := by decide +kernel
theorem dX8_obey_82 : decode cX8_obey 82 = .ok (.getfield 130, 3) := by decide +kernel
theorem dX8_obey_85 : decode cX8_obey 85 = .ok (.iload_n 2, 1) := by decide +kernel
theorem dX8_obey_86 : decode cX8_obey 86 = .ok (.iaload, 1) := by decide +kernel
theorem dX8_obey_87 : decode cX8_obey 87 = .ok (.tableswitch 46 0 2 #[25, 34, 40], 25) := by decide +kernel
theorem dX8_obey_112 : decode cX8_obey 112 = .ok (.aload_n 0, 1) := by decide +kernel
theorem dX8_obey_113 : decode cX8_obey 113 = .ok (.iload_n 3, 1) := by decide +kernel
theorem dX8_obey_114 : decode cX8_obey 114 = .ok (.iload 4, 2) := by decide +kernel
theorem dX8_obey_116 : decode cX8_obey 116 = .ok (.iconst 0, 1) := by decide +kernel
theorem dX8_obey_117 : decode cX8_obey 117 = .ok (.invokevirtual 133, 3) := by decide +kernel
theorem dX8_obey_120 : decode cX8_obey 120 = .ok (.ireturn, 1) := by decide +kernel
theorem dX8_obey_121 : decode cX8_obey 121 = .ok (.aload_n 0, 1) := by decide +kernel
theorem dX8_obey_122 : decode cX8_obey 122 = .ok (.iload_n 3, 1) := by decide +kernel
theorem dX8_obey_123 : decode cX8_obey 123 = .ok (.invokevirtual 137, 3) := by decide +kernel
theorem dX8_obey_126 : decode cX8_obey 126 = .ok (.ireturn, 1) := by decide +kernel
theorem dX8_obey_127 : decode cX8_obey 127 = .ok (.aload_n 0, 1) := by decide +kernel
theorem dX8_obey_128 : decode cX8_obey 128 = .ok (.iload_n 3, 1) := by decide +kernel
theorem dX8_obey_129 : decode cX8_obey 129 = .ok (.invokevirtual 141, 3) := by decide +kernel
theorem dX8_obey_132 : decode cX8_obey 132 = .ok (.ireturn, 1) := by decide +kernel
theorem dX8_obey_133 : decode cX8_obey 133 = .ok (.aload_n 0, 1) := by decide +kernel
theorem dX8_obey_134 : decode cX8_obey 134 = .ok (.invokevirtual 144, 3) := by decide +kernel
theorem dX8_obey_137 : decode cX8_obey 137 = .ok (.ireturn, 1) := by decide +kernel
set_option maxRecDepth 20000 in
theorem rX8_obey_0 {E : EN} (hE : Ep E) {k : Nat} {mem : Mm} {Q : Int → Mm → Prop} {p0 p1 : Int} (hp0 : isTx p0)
    (h : (CV E mX8_tell k mem [aR 1] (fun m1 => (0 ≤ p1 ∧ p1 < 12) ∧ (R32 (m1 (p0 + 5) p1) → CI E mX9_value k m1 [aR p0, aI (m1 (p0 + 5) p1), aR 348] (fun r4 m3 => ((r4 = 1 → (R32 (m3 (p0 + 3) p1) → CI E mX9_value k m3 [aR p0, aI (m3 (p0 + 3) p1), aR 348] (fun r6 m5 => (R32 (m5 (p0 + 4) p1) → CI E mX9_value k m5 [aR p0, aI (m5 (p0 + 4) p1), aR 348] (fun r8 m7 => ((r6 = (-2147483648) → Q (-3) m7) ∧ (¬ r6 = (-2147483648) → ((¬ r8 = (-2147483648) → (R32 ((m7 1 8) + 1)) ∧ ((((aUp m7 1 8 ((m7 1 8) + 1)) (p0 + 1) p1) = 0 → (R32 r6 → R32 r8 → CI E mX8_layDown k (aUp m7 1 8 ((m7 1 8) + 1)) [aR 1, aI r6, aI r8, aI 0] (fun r11 m10 => Q r11 m10))) ∧ (((aUp m7 1 8 ((m7 1 8) + 1)) (p0 + 1) p1) = 1 → (R32 r6 → CI E mX8_purchase k (aUp m7 1 8 ((m7 1 8) + 1)) [aR 1, aI r6] (fun r13 m12 => Q r13 m12))) ∧ (((aUp m7 1 8 ((m7 1 8) + 1)) (p0 + 1) p1) = 2 → (R32 r6 → CI E mX8_takeUp k (aUp m7 1 8 ((m7 1 8) + 1)) [aR 1, aI r6] (fun r15 m14 => Q r15 m14))) ∧ (((aUp m7 1 8 ((m7 1 8) + 1)) (p0 + 1) p1) < 0 ∨ 2 < ((aUp m7 1 8 ((m7 1 8) + 1)) (p0 + 1) p1) → (CI E mX8_bringYear k (aUp m7 1 8 ((m7 1 8) + 1)) [aR 1] (fun r17 m16 => Q r17 m16))))) ∧ (r8 = (-2147483648) → Q (-3) m7))))))))) ∧ (¬ r4 = 1 → Q 0 m3))))))) :
    VM E mX8_obey (k + 1) mem 0 [(0, aR 1), (1, aR p0), (2, aI p1)] [] (retI Q) := by
  refine v_aload_n (pc := 0) dX8_obey_0 0 rfl ?_
  refine m_invV (pc := 1) (mi' := mX8_tell) (rest := []) [] dX8_obey_1 at1 (by decide) rfl msX8_tell mvX8_tell lkX8_111 rfl (Nat.le_of_ble_eq_true rfl) (fun hn => CV_mono (h) (fun m1 h => ?_))
  refine v_aload_n (pc := 4) dX8_obey_4 1 rfl ?_
  refine v_aload_n (pc := 5) dX8_obey_5 1 rfl ?_
  refine m_getfin (pc := 6) (v := (p0 + 5)) hE dX8_obey_6 flX8_114 rfl (tx0 hp0) rfl ?_
  refine v_iload_n (pc := 9) dX8_obey_9 2 rfl ?_
  obtain ⟨o2, h⟩ := h
  refine m_iald (pc := 10) (v := (m1 (p0 + 5) p1)) dX8_obey_10 (tx5 hp0) o2.1 o2.2 rfl ?_
  refine v_aload_n (pc := 11) dX8_obey_11 0 rfl ?_
  refine m_getfin (pc := 12) (v := 348) hE dX8_obey_12 flX8_31 rfl at1 rfl ?_
  refine m_invI (pc := 15) (mi' := mX9_value) (rest := []) [aI (m1 (p0 + 5) p1), aR 348] dX8_obey_15 (tx0 hp0) (by decide) rfl msX9_value mvX9_value lkX8_119 rfl (Nat.le_of_ble_eq_true rfl) (fun hn => CI_mono (h (aaI hn 1 rfl)) (fun r4 m3 h => ?_))
  refine v_iconst (pc := 18) dX8_obey_18 (by decide) ?_
  refine v_icmpeq (pc := 19) (tgt := 24) dX8_obey_19 (by decide) (fun c1 => ?_) (fun c1 => ?_)
  · have h := h.1 c1
    refine v_aload_n (pc := 24) dX8_obey_24 1 rfl ?_
    refine v_aload_n (pc := 25) dX8_obey_25 1 rfl ?_
    refine m_getfin (pc := 26) (v := (p0 + 3)) hE dX8_obey_26 flX8_123 rfl (tx0 hp0) rfl ?_
    refine v_iload_n (pc := 29) dX8_obey_29 2 rfl ?_
    refine m_iald (pc := 30) (v := (m3 (p0 + 3) p1)) dX8_obey_30 (tx3 hp0) o2.1 o2.2 rfl ?_
    refine v_aload_n (pc := 31) dX8_obey_31 0 rfl ?_
    refine m_getfin (pc := 32) (v := 348) hE dX8_obey_32 flX8_31 rfl at1 rfl ?_
    refine m_invI (pc := 35) (mi' := mX9_value) (rest := []) [aI (m3 (p0 + 3) p1), aR 348] dX8_obey_35 (tx0 hp0) (by decide) rfl msX9_value mvX9_value lkX8_119 rfl (Nat.le_of_ble_eq_true rfl) (fun hn => CI_mono (h (aaI hn 1 rfl)) (fun r6 m5 h => ?_))
    refine v_istore_n (pc := 38) (al2 := [(3, aI r6), (0, aR 1), (1, aR p0), (2, aI p1)]) dX8_obey_38 (by decide) rfl ?_
    refine v_aload_n (pc := 39) dX8_obey_39 2 rfl ?_
    refine v_aload_n (pc := 40) dX8_obey_40 2 rfl ?_
    refine m_getfin (pc := 41) (v := (p0 + 4)) hE dX8_obey_41 flX8_126 rfl (tx0 hp0) rfl ?_
    refine v_iload_n (pc := 44) dX8_obey_44 3 rfl ?_
    refine m_iald (pc := 45) (v := (m5 (p0 + 4) p1)) dX8_obey_45 (tx4 hp0) o2.1 o2.2 rfl ?_
    refine v_aload_n (pc := 46) dX8_obey_46 1 rfl ?_
    refine m_getfin (pc := 47) (v := 348) hE dX8_obey_47 flX8_31 rfl at1 rfl ?_
    refine m_invI (pc := 50) (mi' := mX9_value) (rest := []) [aI (m5 (p0 + 4) p1), aR 348] dX8_obey_50 (tx0 hp0) (by decide) rfl msX9_value mvX9_value lkX8_119 rfl (Nat.le_of_ble_eq_true rfl) (fun hn => CI_mono (h (aaI hn 1 rfl)) (fun r8 m7 h => ?_))
    refine v_istore (pc := 53) (al2 := [(4, aI r8), (3, aI r6), (0, aR 1), (1, aR p0), (2, aI p1)]) dX8_obey_53 (by decide) rfl ?_
    refine v_iload_n (pc := 55) dX8_obey_55 1 rfl ?_
    refine v_ldc (pc := 56) (n := (-2147483648)) dX8_obey_56 cnX8_129 (by decide) ?_
    refine v_icmpeq (pc := 58) (tgt := 68) dX8_obey_58 (by decide) (fun c1 => ?_) (fun c1 => ?_)
    · have h := h.1 c1
      refine v_bipush (pc := 68) dX8_obey_68 (by decide) ?_
      exact m_retI (pc := 70) dX8_obey_70 rfl h
    · have h := h.2 c1
      refine v_iload (pc := 61) dX8_obey_61 0 rfl ?_
      refine v_ldc (pc := 63) (n := (-2147483648)) dX8_obey_63 cnX8_129 (by decide) ?_
      refine v_icmpne (pc := 65) (tgt := 71) dX8_obey_65 (by decide) (fun c1 => ?_) (fun c1 => ?_)
      · have h := h.1 c1
        refine v_aload_n (pc := 71) dX8_obey_71 2 rfl ?_
        refine v_dup (pc := 72) dX8_obey_72 rfl ?_
        refine m_getf (pc := 73) (t := 0) (v := (m7 1 8)) dX8_obey_73 flX8_108 rfl at1 rfl ?_
        refine v_iconst (pc := 76) dX8_obey_76 (by decide) ?_
        obtain ⟨o9, h⟩ := h
        refine m_iadd (pc := 77) dX8_obey_77 o9 ?_
        refine v_putf (pc := 78) dX8_obey_78 flX8_108 ⟨_, _, rfl, Or.inl rfl⟩ rfl (by decide) (fun q => nomatch q) (Or.inl fun _ => rfl) at1 ?_
        refine v_aload_n (pc := 81) dX8_obey_81 3 rfl ?_
        refine m_getfin (pc := 82) (v := (p0 + 1)) hE dX8_obey_82 flX8_130 rfl (tx0 hp0) rfl ?_
        refine v_iload_n (pc := 85) dX8_obey_85 4 rfl ?_
        refine m_iald (pc := 86) (v := ((aUp m7 1 8 ((m7 1 8) + 1)) (p0 + 1) p1)) dX8_obey_86 (tx1 hp0) o2.1 o2.2 rfl ?_
        rcases (show ((aUp m7 1 8 ((m7 1 8) + 1)) (p0 + 1) p1) = 0 ∨ ((aUp m7 1 8 ((m7 1 8) + 1)) (p0 + 1) p1) = 1 ∨ ((aUp m7 1 8 ((m7 1 8) + 1)) (p0 + 1) p1) = 2 ∨ (((aUp m7 1 8 ((m7 1 8) + 1)) (p0 + 1) p1) < 0 ∨ 2 < ((aUp m7 1 8 ((m7 1 8) + 1)) (p0 + 1) p1)) by omega) with c1 | c1 | c1 | c1
        · have h := h.1 c1
          refine v_tabIn (pc := 87) (tgt := 112) dX8_obey_87 (by omega) (by omega) (by rw [c1] <;> rfl) (by decide) ?_
          refine v_aload_n (pc := 112) dX8_obey_112 2 rfl ?_
          refine v_iload_n (pc := 113) dX8_obey_113 1 rfl ?_
          refine v_iload (pc := 114) dX8_obey_114 0 rfl ?_
          refine v_iconst (pc := 116) dX8_obey_116 (by decide) ?_
          refine m_invI (pc := 117) (mi' := mX8_layDown) (rest := []) [aI r6, aI r8, aI 0] dX8_obey_117 at1 (by decide) rfl msX8_layDown mvX8_layDown lkX8_133 rfl (Nat.le_of_ble_eq_true rfl) (fun hn => CI_mono (h (aaI hn 1 rfl) (aaI hn 2 rfl)) (fun r11 m10 h => ?_))
          exact m_retI (pc := 120) dX8_obey_120 rfl h
        · have h := h.2.1 c1
          refine v_tabIn (pc := 87) (tgt := 121) dX8_obey_87 (by omega) (by omega) (by rw [c1] <;> rfl) (by decide) ?_
          refine v_aload_n (pc := 121) dX8_obey_121 2 rfl ?_
          refine v_iload_n (pc := 122) dX8_obey_122 1 rfl ?_
          refine m_invI (pc := 123) (mi' := mX8_purchase) (rest := []) [aI r6] dX8_obey_123 at1 (by decide) rfl msX8_purchase mvX8_purchase lkX8_137 rfl (Nat.le_of_ble_eq_true rfl) (fun hn => CI_mono (h (aaI hn 1 rfl)) (fun r13 m12 h => ?_))
          exact m_retI (pc := 126) dX8_obey_126 rfl h
        · have h := h.2.2.1 c1
          refine v_tabIn (pc := 87) (tgt := 127) dX8_obey_87 (by omega) (by omega) (by rw [c1] <;> rfl) (by decide) ?_
          refine v_aload_n (pc := 127) dX8_obey_127 2 rfl ?_
          refine v_iload_n (pc := 128) dX8_obey_128 1 rfl ?_
          refine m_invI (pc := 129) (mi' := mX8_takeUp) (rest := []) [aI r6] dX8_obey_129 at1 (by decide) rfl msX8_takeUp mvX8_takeUp lkX8_141 rfl (Nat.le_of_ble_eq_true rfl) (fun hn => CI_mono (h (aaI hn 1 rfl)) (fun r15 m14 h => ?_))
          exact m_retI (pc := 132) dX8_obey_132 rfl h
        · have h := h.2.2.2 c1
          refine v_tabOut (pc := 87) (tgt := 133) dX8_obey_87 c1 (by decide) ?_
          refine v_aload_n (pc := 133) dX8_obey_133 2 rfl ?_
          refine m_invI (pc := 134) (mi' := mX8_bringYear) (rest := []) [] dX8_obey_134 at1 (by decide) rfl msX8_bringYear mvX8_bringYear lkX8_144 rfl (Nat.le_of_ble_eq_true rfl) (fun hn => CI_mono (h) (fun r17 m16 h => ?_))
          exact m_retI (pc := 137) dX8_obey_137 rfl h
      · have h := h.2 c1
        refine v_bipush (pc := 68) dX8_obey_68 (by decide) ?_
        exact m_retI (pc := 70) dX8_obey_70 rfl h
  · have h := h.2 c1
    refine v_iconst (pc := 22) dX8_obey_22 (by decide) ?_
    exact m_retI (pc := 23) dX8_obey_23 rfl h
theorem eX8_obey {E : EN} {k : Nat} {mem : Mm} {Q : Int → Mm → Prop} {p0 p1 : Int} (hr_p1 : R32 p1) (h : VM E mX8_obey (k + 1) mem 0 [(0, aR 1), (1, aR p0), (2, aI p1)] [] (retI Q)) : CI E mX8_obey (k + 1) mem [aR 1, aR p0, aI p1] Q := CI_of rfl (Nat.le_of_ble_eq_true rfl) h (aNs_c (aNr_R _) (aNs_c (aNr_R _) (aNs_c (aNr_I hr_p1) (fun _ q => nomatch q))))

theorem dX8_tell_0 : decode cX8_tell 0 = .ok (.aload_n 0, 1) := by decide +kernel
theorem dX8_tell_1 : decode cX8_tell 1 = .ok (.getfield 31, 3) := by decide +kernel
theorem dX8_tell_4 : decode cX8_tell 4 = .ok (.iconst 0, 1) := by decide +kernel
theorem dX8_tell_5 : decode cX8_tell 5 = .ok (.aload_n 0, 1) := by decide +kernel
theorem dX8_tell_6 : decode cX8_tell 6 = .ok (.getfield 12, 3) := by decide +kernel
theorem dX8_tell_9 : decode cX8_tell 9 = .ok (.getfield 80, 3) := by decide +kernel
theorem dX8_tell_12 : decode cX8_tell 12 = .ok (.iconst 0, 1) := by decide +kernel
theorem dX8_tell_13 : decode cX8_tell 13 = .ok (.iaload, 1) := by decide +kernel
theorem dX8_tell_14 : decode cX8_tell 14 = .ok (.iastore, 1) := by decide +kernel
theorem dX8_tell_15 : decode cX8_tell 15 = .ok (.aload_n 0, 1) := by decide +kernel
theorem dX8_tell_16 : decode cX8_tell 16 = .ok (.getfield 31, 3) := by decide +kernel
theorem dX8_tell_19 : decode cX8_tell 19 = .ok (.iconst 1, 1) := by decide +kernel
theorem dX8_tell_20 : decode cX8_tell 20 = .ok (.aload_n 0, 1) := by decide +kernel
theorem dX8_tell_21 : decode cX8_tell 21 = .ok (.getfield 12, 3) := by decide +kernel
theorem dX8_tell_24 : decode cX8_tell 24 = .ok (.getfield 50, 3) := by decide +kernel
theorem dX8_tell_27 : decode cX8_tell 27 = .ok (.iastore, 1) := by decide +kernel
theorem dX8_tell_28 : decode cX8_tell 28 = .ok (.aload_n 0, 1) := by decide +kernel
theorem dX8_tell_29 : decode cX8_tell 29 = .ok (.getfield 31, 3) := by decide +kernel
theorem dX8_tell_32 : decode cX8_tell 32 = .ok (.iconst 2, 1) := by decide +kernel
theorem dX8_tell_33 : decode cX8_tell 33 = .ok (.aload_n 0, 1) := by decide +kernel
theorem dX8_tell_34 : decode cX8_tell 34 = .ok (.getfield 108, 3) := by decide +kernel
theorem dX8_tell_37 : decode cX8_tell 37 = .ok (.iastore, 1) := by decide +kernel
theorem dX8_tell_38 : decode cX8_tell 38 = .ok (.aload_n 0, 1) := by decide +kernel
theorem dX8_tell_39 : decode cX8_tell 39 = .ok (.getfield 31, 3) := by decide +kernel
theorem dX8_tell_42 : decode cX8_tell 42 = .ok (.iconst 3, 1) := by decide +kernel
theorem dX8_tell_43 : decode cX8_tell 43 = .ok (.aload_n 0, 1) := by decide +kernel
theorem dX8_tell_44 : decode cX8_tell 44 = .ok (.getfield 95, 3) := by decide +kernel
theorem dX8_tell_47 : decode cX8_tell 47 = .ok (.iastore, 1) := by decide +kernel
theorem dX8_tell_48 : decode cX8_tell 48 = .ok (.iconst 0, 1) := by decide +kernel
theorem dX8_tell_49 : decode cX8_tell 49 = .ok (.istore_n 1, 1) := by decide +kernel
theorem dX8_tell_50 : decode cX8_tell 50 = .ok (.iload_n 1, 1) := by decide +kernel
theorem dX8_tell_51 : decode cX8_tell 51 = .ok (.bipush 10, 2) := by decide +kernel
theorem dX8_tell_53 : decode cX8_tell 53 = .ok (.if_icmp .ge 41, 3) := by decide +kernel
theorem dX8_tell_56 : decode cX8_tell 56 = .ok (.aload_n 0, 1) := by decide +kernel
theorem dX8_tell_57 : decode cX8_tell 57 = .ok (.getfield 31, 3) := by decide +kernel
theorem dX8_tell_60 : decode cX8_tell 60 = .ok (.iconst 4, 1) := by decide +kernel
theorem dX8_tell_61 : decode cX8_tell 61 = .ok (.iload_n 1, 1) := by decide +kernel
theorem dX8_tell_62 : decode cX8_tell 62 = .ok (.iadd, 1) := by decide +kernel
theorem dX8_tell_63 : decode cX8_tell 63 = .ok (.iload_n 1, 1) := by decide +kernel
theorem dX8_tell_64 : decode cX8_tell 64 = .ok (.aload_n 0, 1) := by decide +kernel
theorem dX8_tell_65 : decode cX8_tell 65 = .ok (.getfield 12, 3) := by decide +kernel
theorem dX8_tell_68 : decode cX8_tell 68 = .ok (.getfield 50, 3) := by decide +kernel
theorem dX8_tell_71 : decode cX8_tell 71 = .ok (.if_icmp .ge 15, 3) := by decide +kernel
theorem dX8_tell_74 : decode cX8_tell 74 = .ok (.aload_n 0, 1) := by decide +kernel
theorem dX8_tell_75 : decode cX8_tell 75 = .ok (.getfield 12, 3) := by decide +kernel
theorem dX8_tell_78 : decode cX8_tell 78 = .ok (.getfield 73, 3) := by decide +kernel
theorem dX8_tell_81 : decode cX8_tell 81 = .ok (.iload_n 1, 1) := by decide +kernel
theorem dX8_tell_82 : decode cX8_tell 82 = .ok (.iaload, 1) := by decide +kernel
theorem dX8_tell_83 : decode cX8_tell 83 = .ok (.goto 4, 3) := by decide +kernel
theorem dX8_tell_86 : decode cX8_tell 86 = .ok (.iconst (-1), 1) := by decide +kernel
theorem dX8_tell_87 : decode cX8_tell 87 = .ok (.iastore, 1) := by decide +kernel
theorem dX8_tell_88 : decode cX8_tell 88 = .ok (.iinc 1 1, 3) := by decide +kernel
theorem dX8_tell_91 : decode cX8_tell 91 = .ok (.goto (-41), 3) := by decide +kernel
theorem dX8_tell_94 : decode cX8_tell 94 = .ok (.iconst 0, 1) := by decide +kernel
theorem dX8_tell_95 : decode cX8_tell 95 = .ok (.istore_n 1, 1) := by decide +kernel
theorem dX8_tell_96 : decode cX8_tell 96 = .ok (.iload_n 1, 1) := by decide +kernel
theorem dX8_tell_97 : decode cX8_tell 97 = .ok (.bipush 32, 2) := by decide +kernel
theorem dX8_tell_99 : decode cX8_tell 99 = .ok (.if_icmp .ge 45, 3) := by decide +kernel
theorem dX8_tell_102 : decode cX8_tell 102 = .ok (.aload_n 0, 1) := by decide +kernel
theorem dX8_tell_103 : decode cX8_tell 103 = .ok (.getfield 31, 3) := by decide +kernel
theorem dX8_tell_106 : decode cX8_tell 106 = .ok (.bipush 14, 2) := by decide +kernel
theorem dX8_tell_108 : decode cX8_tell 108 = .ok (.iload_n 1, 1) := by decide +kernel
theorem dX8_tell_109 : decode cX8_tell 109 = .ok (.iadd, 1) := by decide +kernel
theorem dX8_tell_110 : decode cX8_tell 110 = .ok (.aload_n 0, 1) := by decide +kernel
theorem dX8_tell_111 : decode cX8_tell 111 = .ok (.getfield 12, 3) := by decide +kernel
theorem dX8_tell_114 : decode cX8_tell 114 = .ok (.getfield 61, 3) := by decide +kernel
theorem dX8_tell_117 : decode cX8_tell 117 = .ok (.iload_n 1, 1) := by decide +kernel
theorem dX8_tell_118 : decode cX8_tell 118 = .ok (.iaload, 1) := by decide +kernel
theorem dX8_tell_119 : decode cX8_tell 119 = .ok (.iastore, 1) := by decide +kernel
theorem dX8_tell_120 : decode cX8_tell 120 = .ok (.aload_n 0, 1) := by decide +kernel
theorem dX8_tell_121 : decode cX8_tell 121 = .ok (.getfield 31, 3) := by decide +kernel
theorem dX8_tell_124 : decode cX8_tell 124 = .ok (.bipush 46, 2) := by decide +kernel
theorem dX8_tell_126 : decode cX8_tell 126 = .ok (.iload_n 1, 1) := by decide +kernel
theorem dX8_tell_127 : decode cX8_tell 127 = .ok (.iadd, 1) := by decide +kernel
theorem dX8_tell_128 : decode cX8_tell 128 = .ok (.aload_n 0, 1) := by decide +kernel
theorem dX8_tell_129 : decode cX8_tell 129 = .ok (.getfield 12, 3) := by decide +kernel
theorem dX8_tell_132 : decode cX8_tell 132 = .ok (.getfield 64, 3) := by decide +kernel
theorem dX8_tell_135 : decode cX8_tell 135 = .ok (.iload_n 1, 1) := by decide +kernel
theorem dX8_tell_136 : decode cX8_tell 136 = .ok (.iaload, 1) := by decide +kernel
theorem dX8_tell_137 : decode cX8_tell 137 = .ok (.iastore, 1) := by decide +kernel
theorem dX8_tell_138 : decode cX8_tell 138 = .ok (.iinc 1 1, 3) := by decide +kernel
theorem dX8_tell_141 : decode cX8_tell 141 = .ok (.goto (-45), 3) := by decide +kernel
theorem dX8_tell_144 : decode cX8_tell 144 = .ok (.return_, 1) := by decide +kernel
set_option maxRecDepth 20000 in
theorem rX8_tell_0 {E : EN} (hE : Ep E) {k : Nat} {mem : Mm} {Q : Mm → Prop}
    (h : VM E mX8_tell k (aUp (aUp (aUp (aUp mem 348 0 (mem 10 0)) 348 1 (mem 2 10)) 348 2 (mem 1 8)) 348 3 (mem 1 7)) 50 [(0, aR 1), (1, aI 0)] [] (retV Q)) :
    VM E mX8_tell k mem 0 [(0, aR 1)] [] (retV Q) := by
  refine v_aload_n (pc := 0) dX8_tell_0 0 rfl ?_
  refine m_getfin (pc := 1) (v := 348) hE dX8_tell_1 flX8_31 rfl at1 rfl ?_
  refine v_iconst (pc := 4) dX8_tell_4 (by decide) ?_
  refine v_aload_n (pc := 5) dX8_tell_5 0 rfl ?_
  refine m_getfin (pc := 6) (v := 2) hE dX8_tell_6 flX8_12 rfl at1 rfl ?_
  refine m_getfin (pc := 9) (v := 10) hE dX8_tell_9 flX8_80 rfl (yd0 (show isYd 2 by unfold isYd; omega)) rfl ?_
  refine v_iconst (pc := 12) dX8_tell_12 (by decide) ?_
  refine m_iald (pc := 13) (v := (mem 10 0)) dX8_tell_13 (yd8 (show isYd 2 by unfold isYd; omega)) (by omega) (by omega) rfl ?_
  refine v_iast (pc := 14) dX8_tell_14 at348 (by omega) (by omega) ?_
  refine v_aload_n (pc := 15) dX8_tell_15 0 rfl ?_
  refine m_getfin (pc := 16) (v := 348) hE dX8_tell_16 flX8_31 rfl at1 rfl ?_
  refine v_iconst (pc := 19) dX8_tell_19 (by decide) ?_
  refine v_aload_n (pc := 20) dX8_tell_20 0 rfl ?_
  refine m_getfin (pc := 21) (v := 2) hE dX8_tell_21 flX8_12 rfl at1 rfl ?_
  refine m_getf (pc := 24) (t := 0) (v := (mem 2 10)) dX8_tell_24 flX8_50 rfl (yd0 (show isYd 2 by unfold isYd; omega)) (aUp_rn (by omega)) ?_
  refine v_iast (pc := 27) dX8_tell_27 at348 (by omega) (by omega) ?_
  refine v_aload_n (pc := 28) dX8_tell_28 0 rfl ?_
  refine m_getfin (pc := 29) (v := 348) hE dX8_tell_29 flX8_31 rfl at1 rfl ?_
  refine v_iconst (pc := 32) dX8_tell_32 (by decide) ?_
  refine v_aload_n (pc := 33) dX8_tell_33 0 rfl ?_
  refine m_getf (pc := 34) (t := 0) (v := (mem 1 8)) dX8_tell_34 flX8_108 rfl at1 ((aUp_rn (by omega)).trans (aUp_rn (by omega))) ?_
  refine v_iast (pc := 37) dX8_tell_37 at348 (by omega) (by omega) ?_
  refine v_aload_n (pc := 38) dX8_tell_38 0 rfl ?_
  refine m_getfin (pc := 39) (v := 348) hE dX8_tell_39 flX8_31 rfl at1 rfl ?_
  refine v_iconst (pc := 42) dX8_tell_42 (by decide) ?_
  refine v_aload_n (pc := 43) dX8_tell_43 0 rfl ?_
  refine m_getf (pc := 44) (t := 0) (v := (mem 1 7)) dX8_tell_44 flX8_95 rfl at1 ((aUp_rn (by omega)).trans ((aUp_rn (by omega)).trans (aUp_rn (by omega)))) ?_
  refine v_iast (pc := 47) dX8_tell_47 at348 (by omega) (by omega) ?_
  refine v_iconst (pc := 48) dX8_tell_48 (by decide) ?_
  refine v_istore_n (pc := 49) (al2 := [(1, aI 0), (0, aR 1)]) dX8_tell_49 (by decide) rfl ?_
  exact VG_sub (al' := [(0, aR 1), (1, aI 0)]) [1, 0] rfl h
theorem eX8_tell {E : EN} {k : Nat} {mem : Mm} {Q : Mm → Prop}  (h : VM E mX8_tell k mem 0 [(0, aR 1)] [] (retV Q)) : CV E mX8_tell k mem [aR 1] Q := CV_of rfl (Nat.le_of_ble_eq_true rfl) h (aNs_c (aNr_R _) (fun _ q => nomatch q))
set_option maxRecDepth 20000 in
theorem rX8_tell_50 {E : EN} (hE : Ep E) {k : Nat} {mem : Mm} {Q : Mm → Prop} {x1 : Int}
    (h : ((10 ≤ x1 → VM E mX8_tell k mem 96 [(0, aR 1), (1, aI 0)] [] (retV Q)) ∧ (x1 < 10 → (R32 (4 + x1)) ∧ (((mem 2 10) ≤ x1 → (0 ≤ (4 + x1) ∧ (4 + x1) < 78) ∧ (R32 (x1 + 1)) ∧ VM E mX8_tell k (aUp mem 348 (4 + x1) (-1)) 50 [(0, aR 1), (1, aI (x1 + 1))] [] (retV Q)) ∧ (x1 < (mem 2 10) → (0 ≤ x1 ∧ x1 < 10) ∧ (0 ≤ (4 + x1) ∧ (4 + x1) < 78) ∧ (R32 (x1 + 1)) ∧ VM E mX8_tell k (aUp mem 348 (4 + x1) (mem 6 x1)) 50 [(0, aR 1), (1, aI (x1 + 1))] [] (retV Q)))))) :
    VM E mX8_tell k mem 50 [(0, aR 1), (1, aI x1)] [] (retV Q) := by
  refine v_iload_n (pc := 50) dX8_tell_50 1 rfl ?_
  refine v_bipush (pc := 51) dX8_tell_51 (by decide) ?_
  refine v_icmpge (pc := 53) (tgt := 94) dX8_tell_53 (by decide) (fun c1 => ?_) (fun c1 => ?_)
  · have h := h.1 c1
    refine v_iconst (pc := 94) dX8_tell_94 (by decide) ?_
    refine v_istore_n (pc := 95) (al2 := [(1, aI 0), (0, aR 1)]) dX8_tell_95 (by decide) rfl ?_
    exact VG_sub (al' := [(0, aR 1), (1, aI 0)]) [1, 0] rfl h
  · have h := h.2 c1
    refine v_aload_n (pc := 56) dX8_tell_56 0 rfl ?_
    refine m_getfin (pc := 57) (v := 348) hE dX8_tell_57 flX8_31 rfl at1 rfl ?_
    refine v_iconst (pc := 60) dX8_tell_60 (by decide) ?_
    refine v_iload_n (pc := 61) dX8_tell_61 1 rfl ?_
    obtain ⟨o1, h⟩ := h
    refine m_iadd (pc := 62) dX8_tell_62 o1 ?_
    refine v_iload_n (pc := 63) dX8_tell_63 1 rfl ?_
    refine v_aload_n (pc := 64) dX8_tell_64 0 rfl ?_
    refine m_getfin (pc := 65) (v := 2) hE dX8_tell_65 flX8_12 rfl at1 rfl ?_
    refine m_getf (pc := 68) (t := 0) (v := (mem 2 10)) dX8_tell_68 flX8_50 rfl (yd0 (show isYd 2 by unfold isYd; omega)) rfl ?_
    refine v_icmpge (pc := 71) (tgt := 86) dX8_tell_71 (by decide) (fun c1 => ?_) (fun c1 => ?_)
    · have h := h.1 c1
      refine v_iconst (pc := 86) dX8_tell_86 (by decide) ?_
      obtain ⟨o2, h⟩ := h
      refine v_iast (pc := 87) dX8_tell_87 at348 o2.1 o2.2 ?_
      obtain ⟨o3, h⟩ := h
      refine m_iinc (pc := 88) (al2 := [(1, aI (x1 + 1)), (0, aR 1)]) dX8_tell_88 1 rfl (by decide) o3 rfl ?_
      refine v_goto (pc := 91) (tgt := 50) dX8_tell_91 (by decide) ?_
      exact VG_sub (al' := [(0, aR 1), (1, aI (x1 + 1))]) [1, 0] rfl h
    · have h := h.2 c1
      refine v_aload_n (pc := 74) dX8_tell_74 0 rfl ?_
      refine m_getfin (pc := 75) (v := 2) hE dX8_tell_75 flX8_12 rfl at1 rfl ?_
      refine m_getfin (pc := 78) (v := 6) hE dX8_tell_78 flX8_73 rfl (yd0 (show isYd 2 by unfold isYd; omega)) rfl ?_
      refine v_iload_n (pc := 81) dX8_tell_81 1 rfl ?_
      obtain ⟨o4, h⟩ := h
      refine m_iald (pc := 82) (v := (mem 6 x1)) dX8_tell_82 (yd4 (show isYd 2 by unfold isYd; omega)) o4.1 o4.2 rfl ?_
      refine v_goto (pc := 83) (tgt := 87) dX8_tell_83 (by decide) ?_
      obtain ⟨o5, h⟩ := h
      refine v_iast (pc := 87) dX8_tell_87 at348 o5.1 o5.2 ?_
      obtain ⟨o6, h⟩ := h
      refine m_iinc (pc := 88) (al2 := [(1, aI (x1 + 1)), (0, aR 1)]) dX8_tell_88 1 rfl (by decide) o6 rfl ?_
      refine v_goto (pc := 91) (tgt := 50) dX8_tell_91 (by decide) ?_
      exact VG_sub (al' := [(0, aR 1), (1, aI (x1 + 1))]) [1, 0] rfl h
set_option maxRecDepth 20000 in
theorem rX8_tell_96 {E : EN} (hE : Ep E) {k : Nat} {mem : Mm} {Q : Mm → Prop} {x1 : Int}
    (h : ((32 ≤ x1 → Q mem) ∧ (x1 < 32 → (R32 (14 + x1)) ∧ (0 ≤ x1 ∧ x1 < 32) ∧ (0 ≤ (14 + x1) ∧ (14 + x1) < 78) ∧ (R32 (46 + x1)) ∧ (0 ≤ (46 + x1) ∧ (46 + x1) < 78) ∧ (R32 (x1 + 1)) ∧ VM E mX8_tell k (aUp (aUp mem 348 (14 + x1) (mem 3 x1)) 348 (46 + x1) (mem 5 x1)) 96 [(0, aR 1), (1, aI (x1 + 1))] [] (retV Q)))) :
    VM E mX8_tell k mem 96 [(0, aR 1), (1, aI x1)] [] (retV Q) := by
  refine v_iload_n (pc := 96) dX8_tell_96 1 rfl ?_
  refine v_bipush (pc := 97) dX8_tell_97 (by decide) ?_
  refine v_icmpge (pc := 99) (tgt := 144) dX8_tell_99 (by decide) (fun c1 => ?_) (fun c1 => ?_)
  · have h := h.1 c1
    exact m_retV (pc := 144) dX8_tell_144 rfl h
  · have h := h.2 c1
    refine v_aload_n (pc := 102) dX8_tell_102 0 rfl ?_
    refine m_getfin (pc := 103) (v := 348) hE dX8_tell_103 flX8_31 rfl at1 rfl ?_
    refine v_bipush (pc := 106) dX8_tell_106 (by decide) ?_
    refine v_iload_n (pc := 108) dX8_tell_108 1 rfl ?_
    obtain ⟨o1, h⟩ := h
    refine m_iadd (pc := 109) dX8_tell_109 o1 ?_
    refine v_aload_n (pc := 110) dX8_tell_110 0 rfl ?_
    refine m_getfin (pc := 111) (v := 2) hE dX8_tell_111 flX8_12 rfl at1 rfl ?_
    refine m_getfin (pc := 114) (v := 3) hE dX8_tell_114 flX8_61 rfl (yd0 (show isYd 2 by unfold isYd; omega)) rfl ?_
    refine v_iload_n (pc := 117) dX8_tell_117 1 rfl ?_
    obtain ⟨o2, h⟩ := h
    refine m_iald (pc := 118) (v := (mem 3 x1)) dX8_tell_118 (yd1 (show isYd 2 by unfold isYd; omega)) o2.1 o2.2 rfl ?_
    obtain ⟨o3, h⟩ := h
    refine v_iast (pc := 119) dX8_tell_119 at348 o3.1 o3.2 ?_
    refine v_aload_n (pc := 120) dX8_tell_120 0 rfl ?_
    refine m_getfin (pc := 121) (v := 348) hE dX8_tell_121 flX8_31 rfl at1 rfl ?_
    refine v_bipush (pc := 124) dX8_tell_124 (by decide) ?_
    refine v_iload_n (pc := 126) dX8_tell_126 1 rfl ?_
    obtain ⟨o4, h⟩ := h
    refine m_iadd (pc := 127) dX8_tell_127 o4 ?_
    refine v_aload_n (pc := 128) dX8_tell_128 0 rfl ?_
    refine m_getfin (pc := 129) (v := 2) hE dX8_tell_129 flX8_12 rfl at1 rfl ?_
    refine m_getfin (pc := 132) (v := 5) hE dX8_tell_132 flX8_64 rfl (yd0 (show isYd 2 by unfold isYd; omega)) rfl ?_
    refine v_iload_n (pc := 135) dX8_tell_135 1 rfl ?_
    refine m_iald (pc := 136) (v := (mem 5 x1)) dX8_tell_136 (yd3 (show isYd 2 by unfold isYd; omega)) o2.1 o2.2 (aUp_rn (by omega)) ?_
    obtain ⟨o5, h⟩ := h
    refine v_iast (pc := 137) dX8_tell_137 at348 o5.1 o5.2 ?_
    obtain ⟨o6, h⟩ := h
    refine m_iinc (pc := 138) (al2 := [(1, aI (x1 + 1)), (0, aR 1)]) dX8_tell_138 1 rfl (by decide) o6 rfl ?_
    refine v_goto (pc := 141) (tgt := 96) dX8_tell_141 (by decide) ?_
    exact VG_sub (al' := [(0, aR 1), (1, aI (x1 + 1))]) [1, 0] rfl h
