theorem dX10_copyFrom_0 : decode cX10_copyFrom 0 = .ok (.aload_n 1, 1) := by decide +kernel
theorem dX10_copyFrom_1 : decode cX10_copyFrom 1 = .ok (.getfield 9, 3) := by decide +kernel
theorem dX10_copyFrom_4 : decode cX10_copyFrom 4 = .ok (.iconst 0, 1) := by decide +kernel
theorem dX10_copyFrom_5 : decode cX10_copyFrom 5 = .ok (.aload_n 0, 1) := by decide +kernel
theorem dX10_copyFrom_6 : decode cX10_copyFrom 6 = .ok (.getfield 9, 3) := by decide +kernel
theorem dX10_copyFrom_9 : decode cX10_copyFrom 9 = .ok (.iconst 0, 1) := by decide +kernel
theorem dX10_copyFrom_10 : decode cX10_copyFrom 10 = .ok (.bipush 32, 2) := by decide +kernel
theorem dX10_copyFrom_12 : decode cX10_copyFrom 12 = .ok (.invokestatic 39, 3) := by decide +kernel
theorem dX10_copyFrom_15 : decode cX10_copyFrom 15 = .ok (.aload_n 1, 1) := by decide +kernel
theorem dX10_copyFrom_16 : decode cX10_copyFrom 16 = .ok (.getfield 15, 3) := by decide +kernel
theorem dX10_copyFrom_19 : decode cX10_copyFrom 19 = .ok (.iconst 0, 1) := by decide +kernel
theorem dX10_copyFrom_20 : decode cX10_copyFrom 20 = .ok (.aload_n 0, 1) := by decide +kernel
theorem dX10_copyFrom_21 : decode cX10_copyFrom 21 = .ok (.getfield 15, 3) := by decide +kernel
theorem dX10_copyFrom_24 : decode cX10_copyFrom 24 = .ok (.iconst 0, 1) := by decide +kernel
theorem dX10_copyFrom_25 : decode cX10_copyFrom 25 = .ok (.bipush 32, 2) := by decide +kernel
theorem dX10_copyFrom_27 : decode cX10_copyFrom 27 = .ok (.invokestatic 39, 3) := by decide +kernel
theorem dX10_copyFrom_30 : decode cX10_copyFrom 30 = .ok (.aload_n 1, 1) := by decide +kernel
theorem dX10_copyFrom_31 : decode cX10_copyFrom 31 = .ok (.getfield 18, 3) := by decide +kernel
theorem dX10_copyFrom_34 : decode cX10_copyFrom 34 = .ok (.iconst 0, 1) := by decide +kernel
theorem dX10_copyFrom_35 : decode cX10_copyFrom 35 = .ok (.aload_n 0, 1) := by decide +kernel
theorem dX10_copyFrom_36 : decode cX10_copyFrom 36 = .ok (.getfield 18, 3) := by decide +kernel
theorem dX10_copyFrom_39 : decode cX10_copyFrom 39 = .ok (.iconst 0, 1) := by decide +kernel
theorem dX10_copyFrom_40 : decode cX10_copyFrom 40 = .ok (.bipush 32, 2) := by decide +kernel
theorem dX10_copyFrom_42 : decode cX10_copyFrom 42 = .ok (.invokestatic 39, 3) := by decide +kernel
theorem dX10_copyFrom_45 : decode cX10_copyFrom 45 = .ok (.aload_n 1, 1) := by decide +kernel
theorem dX10_copyFrom_46 : decode cX10_copyFrom 46 = .ok (.getfield 21, 3) := by decide +kernel
theorem dX10_copyFrom_49 : decode cX10_copyFrom 49 = .ok (.iconst 0, 1) := by decide +kernel
theorem dX10_copyFrom_50 : decode cX10_copyFrom 50 = .ok (.aload_n 0, 1) := by decide +kernel
theorem dX10_copyFrom_51 : decode cX10_copyFrom 51 = .ok (.getfield 21, 3) := by decide +kernel
theorem dX10_copyFrom_54 : decode cX10_copyFrom 54 = .ok (.iconst 0, 1) := by decide +kernel
theorem dX10_copyFrom_55 : decode cX10_copyFrom 55 = .ok (.bipush 10, 2) := by decide +kernel
theorem dX10_copyFrom_57 : decode cX10_copyFrom 57 = .ok (.invokestatic 39, 3) := by decide +kernel
theorem dX10_copyFrom_60 : decode cX10_copyFrom 60 = .ok (.aload_n 1, 1) := by decide +kernel
theorem dX10_copyFrom_61 : decode cX10_copyFrom 61 = .ok (.getfield 24, 3) := by decide +kernel
theorem dX10_copyFrom_64 : decode cX10_copyFrom 64 = .ok (.iconst 0, 1) := by decide +kernel
theorem dX10_copyFrom_65 : decode cX10_copyFrom 65 = .ok (.aload_n 0, 1) := by decide +kernel
theorem dX10_copyFrom_66 : decode cX10_copyFrom 66 = .ok (.getfield 24, 3) := by decide +kernel
theorem dX10_copyFrom_69 : decode cX10_copyFrom 69 = .ok (.iconst 0, 1) := by decide +kernel
theorem dX10_copyFrom_70 : decode cX10_copyFrom 70 = .ok (.bipush 10, 2) := by decide +kernel
theorem dX10_copyFrom_72 : decode cX10_copyFrom 72 = .ok (.invokestatic 39, 3) := by decide +kernel
theorem dX10_copyFrom_75 : decode cX10_copyFrom 75 = .ok (.aload_n 1, 1) := by decide +kernel
theorem dX10_copyFrom_76 : decode cX10_copyFrom 76 = .ok (.getfield 27, 3) := by decide +kernel
theorem dX10_copyFrom_79 : decode cX10_copyFrom 79 = .ok (.iconst 0, 1) := by decide +kernel
theorem dX10_copyFrom_80 : decode cX10_copyFrom 80 = .ok (.aload_n 0, 1) := by decide +kernel
theorem dX10_copyFrom_81 : decode cX10_copyFrom 81 = .ok (.getfield 27, 3) := by decide +kernel
theorem dX10_copyFrom_84 : decode cX10_copyFrom 84 = .ok (.iconst 0, 1) := by decide +kernel
theorem dX10_copyFrom_85 : decode cX10_copyFrom 85 = .ok (.bipush 10, 2) := by decide +kernel
theorem dX10_copyFrom_87 : decode cX10_copyFrom 87 = .ok (.invokestatic 39, 3) := by decide +kernel
theorem dX10_copyFrom_90 : decode cX10_copyFrom 90 = .ok (.aload_n 1, 1) := by decide +kernel
theorem dX10_copyFrom_91 : decode cX10_copyFrom 91 = .ok (.getfield 30, 3) := by decide +kernel
theorem dX10_copyFrom_94 : decode cX10_copyFrom 94 = .ok (.iconst 0, 1) := by decide +kernel
theorem dX10_copyFrom_95 : decode cX10_copyFrom 95 = .ok (.aload_n 0, 1) := by decide +kernel
theorem dX10_copyFrom_96 : decode cX10_copyFrom 96 = .ok (.getfield 30, 3) := by decide +kernel
theorem dX10_copyFrom_99 : decode cX10_copyFrom 99 = .ok (.iconst 0, 1) := by decide +kernel
theorem dX10_copyFrom_100 : decode cX10_copyFrom 100 = .ok (.bipush 10, 2) := by decide +kernel
theorem dX10_copyFrom_102 : decode cX10_copyFrom 102 = .ok (.invokestatic 39, 3) := by decide +kernel
theorem dX10_copyFrom_105 : decode cX10_copyFrom 105 = .ok (.aload_n 1, 1) := by decide +kernel
theorem dX10_copyFrom_106 : decode cX10_copyFrom 106 = .ok (.getfield 33, 3) := by decide +kernel
theorem dX10_copyFrom_109 : decode cX10_copyFrom 109 = .ok (.iconst 0, 1) := by decide +kernel
theorem dX10_copyFrom_110 : decode cX10_copyFrom 110 = .ok (.aload_n 0, 1) := by decide +kernel
theorem dX10_copyFrom_111 : decode cX10_copyFrom 111 = .ok (.getfield 33, 3) := by decide +kernel
theorem dX10_copyFrom_114 : decode cX10_copyFrom 114 = .ok (.iconst 0, 1) := by decide +kernel
theorem dX10_copyFrom_115 : decode cX10_copyFrom 115 = .ok (.iconst 4, 1) := by decide +kernel
theorem dX10_copyFrom_116 : decode cX10_copyFrom 116 = .ok (.invokestatic 39, 3) := by decide +kernel
theorem dX10_copyFrom_119 : decode cX10_copyFrom 119 = .ok (.aload_n 0, 1) := by decide +kernel
theorem dX10_copyFrom_120 : decode cX10_copyFrom 120 = .ok (.aload_n 1, 1) := by decide +kernel
theorem dX10_copyFrom_121 : decode cX10_copyFrom 121 = .ok (.getfield 45, 3) := by decide +kernel
theorem dX10_copyFrom_124 : decode cX10_copyFrom 124 = .ok (.putfield 45, 3) := by decide +kernel
theorem dX10_copyFrom_127 : decode cX10_copyFrom 127 = .ok (.return_, 1) := by decide +kernel
set_option maxRecDepth 20000 in
theorem rX10_copyFrom_0 {E : EN} (hE : Ep E) {k : Nat} {mem : Mm} {Q : Mm → Prop} {y p0 : Int} (hy : isYd y) (hp0 : isYd p0)
    (h : Q (aUp (aCp (aCp (aCp (aCp (aCp (aCp (aCp (aCp mem (p0 + 1) (y + 1) 32) (p0 + 2) (y + 2) 32) (p0 + 3) (y + 3) 32) (p0 + 4) (y + 4) 10) (p0 + 5) (y + 5) 10) (p0 + 6) (y + 6) 10) (p0 + 7) (y + 7) 10) (p0 + 8) (y + 8) 4) y 10 ((aCp (aCp (aCp (aCp (aCp (aCp (aCp (aCp mem (p0 + 1) (y + 1) 32) (p0 + 2) (y + 2) 32) (p0 + 3) (y + 3) 32) (p0 + 4) (y + 4) 10) (p0 + 5) (y + 5) 10) (p0 + 6) (y + 6) 10) (p0 + 7) (y + 7) 10) (p0 + 8) (y + 8) 4) p0 10))) :
    VM E mX10_copyFrom (k + 1) mem 0 [(0, aR y), (1, aR p0)] [] (retV Q) := by
  refine v_aload_n (pc := 0) dX10_copyFrom_0 1 rfl ?_
  refine m_getfin (pc := 1) (v := (p0 + 1)) hE dX10_copyFrom_1 flX10_9 rfl (yd0 hp0) rfl ?_
  refine v_iconst (pc := 4) dX10_copyFrom_4 (by decide) ?_
  refine v_aload_n (pc := 5) dX10_copyFrom_5 0 rfl ?_
  refine m_getfin (pc := 6) (v := (y + 1)) hE dX10_copyFrom_6 flX10_9 rfl (yd0 hy) rfl ?_
  refine v_iconst (pc := 9) dX10_copyFrom_9 (by decide) ?_
  refine v_bipush (pc := 10) dX10_copyFrom_10 (by decide) ?_
  refine m_copy (pc := 12) dX10_copyFrom_12 lmX10_39 nC sC iC (yd1 hp0) (yd1 hy) (by decide) (by decide) (by decide) (Nat.le_of_ble_eq_true rfl) ?_
  refine v_aload_n (pc := 15) dX10_copyFrom_15 1 rfl ?_
  refine m_getfin (pc := 16) (v := (p0 + 2)) hE dX10_copyFrom_16 flX10_15 rfl (yd0 hp0) rfl ?_
  refine v_iconst (pc := 19) dX10_copyFrom_19 (by decide) ?_
  refine v_aload_n (pc := 20) dX10_copyFrom_20 0 rfl ?_
  refine m_getfin (pc := 21) (v := (y + 2)) hE dX10_copyFrom_21 flX10_15 rfl (yd0 hy) rfl ?_
  refine v_iconst (pc := 24) dX10_copyFrom_24 (by decide) ?_
  refine v_bipush (pc := 25) dX10_copyFrom_25 (by decide) ?_
  refine m_copy (pc := 27) dX10_copyFrom_27 lmX10_39 nC sC iC (yd2 hp0) (yd2 hy) (by decide) (by decide) (by decide) (Nat.le_of_ble_eq_true rfl) ?_
  refine v_aload_n (pc := 30) dX10_copyFrom_30 1 rfl ?_
  refine m_getfin (pc := 31) (v := (p0 + 3)) hE dX10_copyFrom_31 flX10_18 rfl (yd0 hp0) rfl ?_
  refine v_iconst (pc := 34) dX10_copyFrom_34 (by decide) ?_
  refine v_aload_n (pc := 35) dX10_copyFrom_35 0 rfl ?_
  refine m_getfin (pc := 36) (v := (y + 3)) hE dX10_copyFrom_36 flX10_18 rfl (yd0 hy) rfl ?_
  refine v_iconst (pc := 39) dX10_copyFrom_39 (by decide) ?_
  refine v_bipush (pc := 40) dX10_copyFrom_40 (by decide) ?_
  refine m_copy (pc := 42) dX10_copyFrom_42 lmX10_39 nC sC iC (yd3 hp0) (yd3 hy) (by decide) (by decide) (by decide) (Nat.le_of_ble_eq_true rfl) ?_
  refine v_aload_n (pc := 45) dX10_copyFrom_45 1 rfl ?_
  refine m_getfin (pc := 46) (v := (p0 + 4)) hE dX10_copyFrom_46 flX10_21 rfl (yd0 hp0) rfl ?_
  refine v_iconst (pc := 49) dX10_copyFrom_49 (by decide) ?_
  refine v_aload_n (pc := 50) dX10_copyFrom_50 0 rfl ?_
  refine m_getfin (pc := 51) (v := (y + 4)) hE dX10_copyFrom_51 flX10_21 rfl (yd0 hy) rfl ?_
  refine v_iconst (pc := 54) dX10_copyFrom_54 (by decide) ?_
  refine v_bipush (pc := 55) dX10_copyFrom_55 (by decide) ?_
  refine m_copy (pc := 57) dX10_copyFrom_57 lmX10_39 nC sC iC (yd4 hp0) (yd4 hy) (by decide) (by decide) (by decide) (Nat.le_of_ble_eq_true rfl) ?_
  refine v_aload_n (pc := 60) dX10_copyFrom_60 1 rfl ?_
  refine m_getfin (pc := 61) (v := (p0 + 5)) hE dX10_copyFrom_61 flX10_24 rfl (yd0 hp0) rfl ?_
  refine v_iconst (pc := 64) dX10_copyFrom_64 (by decide) ?_
  refine v_aload_n (pc := 65) dX10_copyFrom_65 0 rfl ?_
  refine m_getfin (pc := 66) (v := (y + 5)) hE dX10_copyFrom_66 flX10_24 rfl (yd0 hy) rfl ?_
  refine v_iconst (pc := 69) dX10_copyFrom_69 (by decide) ?_
  refine v_bipush (pc := 70) dX10_copyFrom_70 (by decide) ?_
  refine m_copy (pc := 72) dX10_copyFrom_72 lmX10_39 nC sC iC (yd5 hp0) (yd5 hy) (by decide) (by decide) (by decide) (Nat.le_of_ble_eq_true rfl) ?_
  refine v_aload_n (pc := 75) dX10_copyFrom_75 1 rfl ?_
  refine m_getfin (pc := 76) (v := (p0 + 6)) hE dX10_copyFrom_76 flX10_27 rfl (yd0 hp0) rfl ?_
  refine v_iconst (pc := 79) dX10_copyFrom_79 (by decide) ?_
  refine v_aload_n (pc := 80) dX10_copyFrom_80 0 rfl ?_
  refine m_getfin (pc := 81) (v := (y + 6)) hE dX10_copyFrom_81 flX10_27 rfl (yd0 hy) rfl ?_
  refine v_iconst (pc := 84) dX10_copyFrom_84 (by decide) ?_
  refine v_bipush (pc := 85) dX10_copyFrom_85 (by decide) ?_
  refine m_copy (pc := 87) dX10_copyFrom_87 lmX10_39 nC sC iC (yd6 hp0) (yd6 hy) (by decide) (by decide) (by decide) (Nat.le_of_ble_eq_true rfl) ?_
  refine v_aload_n (pc := 90) dX10_copyFrom_90 1 rfl ?_
  refine m_getfin (pc := 91) (v := (p0 + 7)) hE dX10_copyFrom_91 flX10_30 rfl (yd0 hp0) rfl ?_
  refine v_iconst (pc := 94) dX10_copyFrom_94 (by decide) ?_
  refine v_aload_n (pc := 95) dX10_copyFrom_95 0 rfl ?_
  refine m_getfin (pc := 96) (v := (y + 7)) hE dX10_copyFrom_96 flX10_30 rfl (yd0 hy) rfl ?_
  refine v_iconst (pc := 99) dX10_copyFrom_99 (by decide) ?_
  refine v_bipush (pc := 100) dX10_copyFrom_100 (by decide) ?_
  refine m_copy (pc := 102) dX10_copyFrom_102 lmX10_39 nC sC iC (yd7 hp0) (yd7 hy) (by decide) (by decide) (by decide) (Nat.le_of_ble_eq_true rfl) ?_
  refine v_aload_n (pc := 105) dX10_copyFrom_105 1 rfl ?_
  refine m_getfin (pc := 106) (v := (p0 + 8)) hE dX10_copyFrom_106 flX10_33 rfl (yd0 hp0) rfl ?_
  refine v_iconst (pc := 109) dX10_copyFrom_109 (by decide) ?_
  refine v_aload_n (pc := 110) dX10_copyFrom_110 0 rfl ?_
  refine m_getfin (pc := 111) (v := (y + 8)) hE dX10_copyFrom_111 flX10_33 rfl (yd0 hy) rfl ?_
  refine v_iconst (pc := 114) dX10_copyFrom_114 (by decide) ?_
  refine v_iconst (pc := 115) dX10_copyFrom_115 (by decide) ?_
  refine m_copy (pc := 116) dX10_copyFrom_116 lmX10_39 nC sC iC (yd8 hp0) (yd8 hy) (by decide) (by decide) (by decide) (Nat.le_of_ble_eq_true rfl) ?_
  refine v_aload_n (pc := 119) dX10_copyFrom_119 0 rfl ?_
  refine v_aload_n (pc := 120) dX10_copyFrom_120 1 rfl ?_
  refine m_getf (pc := 121) (t := 0) (v := ((aCp (aCp (aCp (aCp (aCp (aCp (aCp (aCp mem (p0 + 1) (y + 1) 32) (p0 + 2) (y + 2) 32) (p0 + 3) (y + 3) 32) (p0 + 4) (y + 4) 10) (p0 + 5) (y + 5) 10) (p0 + 6) (y + 6) 10) (p0 + 7) (y + 7) 10) (p0 + 8) (y + 8) 4) p0 10)) dX10_copyFrom_121 flX10_45 rfl (yd0 hp0) rfl ?_
  refine v_putf (pc := 124) dX10_copyFrom_124 flX10_45 ⟨_, _, rfl, Or.inl rfl⟩ rfl (by decide) (fun q => nomatch q) (Or.inl fun _ => rfl) (yd0 hy) ?_
  exact m_retV (pc := 127) dX10_copyFrom_127 rfl h
theorem eX10_copyFrom {E : EN} {k : Nat} {mem : Mm} {Q : Mm → Prop} {y p0 : Int}  (h : VM E mX10_copyFrom (k + 1) mem 0 [(0, aR y), (1, aR p0)] [] (retV Q)) : CV E mX10_copyFrom (k + 1) mem [aR y, aR p0] Q := CV_of rfl (Nat.le_of_ble_eq_true rfl) h (aNs_c (aNr_R _) (aNs_c (aNr_R _) (fun _ q => nomatch q)))

theorem dX10_hasPlot_0 : decode cX10_hasPlot 0 = .ok (.iload_n 1, 1) := by decide +kernel
theorem dX10_hasPlot_1 : decode cX10_hasPlot 1 = .ok (.ifCond .lt 21, 3) := by decide +kernel
theorem dX10_hasPlot_4 : decode cX10_hasPlot 4 = .ok (.iload_n 1, 1) := by decide +kernel
theorem dX10_hasPlot_5 : decode cX10_hasPlot 5 = .ok (.aload_n 0, 1) := by decide +kernel
theorem dX10_hasPlot_6 : decode cX10_hasPlot 6 = .ok (.getfield 45, 3) := by decide +kernel
theorem dX10_hasPlot_9 : decode cX10_hasPlot 9 = .ok (.if_icmp .ge 13, 3) := by decide +kernel
theorem dX10_hasPlot_12 : decode cX10_hasPlot 12 = .ok (.iload_n 1, 1) := by decide +kernel
theorem dX10_hasPlot_13 : decode cX10_hasPlot 13 = .ok (.bipush 10, 2) := by decide +kernel
theorem dX10_hasPlot_15 : decode cX10_hasPlot 15 = .ok (.if_icmp .ge 7, 3) := by decide +kernel
theorem dX10_hasPlot_18 : decode cX10_hasPlot 18 = .ok (.iconst 1, 1) := by decide +kernel
theorem dX10_hasPlot_19 : decode cX10_hasPlot 19 = .ok (.goto 4, 3) := by decide +kernel
theorem dX10_hasPlot_22 : decode cX10_hasPlot 22 = .ok (.iconst 0, 1) := by decide +kernel
theorem dX10_hasPlot_23 : decode cX10_hasPlot 23 = .ok (.ireturn, 1) := by decide +kernel
set_option maxRecDepth 20000 in
theorem rX10_hasPlot_0 {E : EN} (hE : Ep E) {k : Nat} {mem : Mm} {Q : Int → Mm → Prop} {y p0 : Int} (hy : isYd y)
    (h : ((p0 < 0 → Q 0 mem) ∧ (0 ≤ p0 → (((mem y 10) ≤ p0 → Q 0 mem) ∧ (p0 < (mem y 10) → ((10 ≤ p0 → Q 0 mem) ∧ (p0 < 10 → Q 1 mem))))))) :
    VM E mX10_hasPlot k mem 0 [(0, aR y), (1, aI p0)] [] (retI Q) := by
  refine v_iload_n (pc := 0) dX10_hasPlot_0 1 rfl ?_
  refine v_iflt (pc := 1) (tgt := 22) dX10_hasPlot_1 (by decide) (fun c1 => ?_) (fun c1 => ?_)
  · have h := h.1 c1
    refine v_iconst (pc := 22) dX10_hasPlot_22 (by decide) ?_
    exact m_retZ (pc := 23) dX10_hasPlot_23 rfl (by decide) h
  · have h := h.2 c1
    refine v_iload_n (pc := 4) dX10_hasPlot_4 1 rfl ?_
    refine v_aload_n (pc := 5) dX10_hasPlot_5 0 rfl ?_
    refine m_getf (pc := 6) (t := 0) (v := (mem y 10)) dX10_hasPlot_6 flX10_45 rfl (yd0 hy) rfl ?_
    refine v_icmpge (pc := 9) (tgt := 22) dX10_hasPlot_9 (by decide) (fun c1 => ?_) (fun c1 => ?_)
    · have h := h.1 c1
      refine v_iconst (pc := 22) dX10_hasPlot_22 (by decide) ?_
      exact m_retZ (pc := 23) dX10_hasPlot_23 rfl (by decide) h
    · have h := h.2 c1
      refine v_iload_n (pc := 12) dX10_hasPlot_12 1 rfl ?_
      refine v_bipush (pc := 13) dX10_hasPlot_13 (by decide) ?_
      refine v_icmpge (pc := 15) (tgt := 22) dX10_hasPlot_15 (by decide) (fun c1 => ?_) (fun c1 => ?_)
      · have h := h.1 c1
        refine v_iconst (pc := 22) dX10_hasPlot_22 (by decide) ?_
        exact m_retZ (pc := 23) dX10_hasPlot_23 rfl (by decide) h
      · have h := h.2 c1
        refine v_iconst (pc := 18) dX10_hasPlot_18 (by decide) ?_
        refine v_goto (pc := 19) (tgt := 23) dX10_hasPlot_19 (by decide) ?_
        exact m_retZ (pc := 23) dX10_hasPlot_23 rfl (by decide) h
theorem eX10_hasPlot {E : EN} {k : Nat} {mem : Mm} {Q : Int → Mm → Prop} {y p0 : Int} (hr_p0 : R32 p0) (h : VM E mX10_hasPlot k mem 0 [(0, aR y), (1, aI p0)] [] (retI Q)) : CI E mX10_hasPlot k mem [aR y, aI p0] Q := CI_of rfl (Nat.le_of_ble_eq_true rfl) h (aNs_c (aNr_R _) (aNs_c (aNr_I hr_p0) (fun _ q => nomatch q)))

theorem dX10_plotIn_0 : decode cX10_plotIn 0 = .ok (.iconst 0, 1) := by decide +kernel
theorem dX10_plotIn_1 : decode cX10_plotIn 1 = .ok (.istore_n 2, 1) := by decide +kernel
theorem dX10_plotIn_2 : decode cX10_plotIn 2 = .ok (.iload_n 2, 1) := by decide +kernel
theorem dX10_plotIn_3 : decode cX10_plotIn 3 = .ok (.aload_n 0, 1) := by decide +kernel
theorem dX10_plotIn_4 : decode cX10_plotIn 4 = .ok (.getfield 45, 3) := by decide +kernel
theorem dX10_plotIn_7 : decode cX10_plotIn 7 = .ok (.if_icmp .ge 27, 3) := by decide +kernel
theorem dX10_plotIn_10 : decode cX10_plotIn 10 = .ok (.iload_n 2, 1) := by decide +kernel
theorem dX10_plotIn_11 : decode cX10_plotIn 11 = .ok (.bipush 10, 2) := by decide +kernel
theorem dX10_plotIn_13 : decode cX10_plotIn 13 = .ok (.if_icmp .ge 21, 3) := by decide +kernel
theorem dX10_plotIn_16 : decode cX10_plotIn 16 = .ok (.aload_n 0, 1) := by decide +kernel
theorem dX10_plotIn_17 : decode cX10_plotIn 17 = .ok (.getfield 21, 3) := by decide +kernel
theorem dX10_plotIn_20 : decode cX10_plotIn 20 = .ok (.iload_n 2, 1) := by decide +kernel
theorem dX10_plotIn_21 : decode cX10_plotIn 21 = .ok (.iaload, 1) := by decide +kernel
theorem dX10_plotIn_22 : decode cX10_plotIn 22 = .ok (.iload_n 1, 1) := by decide +kernel
theorem dX10_plotIn_23 : decode cX10_plotIn 23 = .ok (.if_icmp .ne 5, 3) := by decide +kernel
theorem dX10_plotIn_26 : decode cX10_plotIn 26 = .ok (.iload_n 2, 1) := by decide +kernel
theorem dX10_plotIn_27 : decode cX10_plotIn 27 = .ok (.ireturn, 1) := by decide +kernel
theorem dX10_plotIn_28 : decode cX10_plotIn 28 = .ok (.iinc 2 1, 3) := by decide +kernel
theorem dX10_plotIn_31 : decode cX10_plotIn 31 = .ok (.goto (-29), 3) := by decide +kernel
theorem dX10_plotIn_34 : decode cX10_plotIn 34 = .ok (.iconst (-1), 1) := by decide +kernel
theorem dX10_plotIn_35 : decode cX10_plotIn 35 = .ok (.ireturn, 1) := by decide +kernel
set_option maxRecDepth 20000 in
theorem rX10_plotIn_0 {E : EN} (hE : Ep E) {k : Nat} {mem : Mm} {Q : Int → Mm → Prop} {y p0 : Int} (hy : isYd y)
    (h : VM E mX10_plotIn k mem 2 [(0, aR y), (1, aI p0), (2, aI 0)] [] (retI Q)) :
    VM E mX10_plotIn k mem 0 [(0, aR y), (1, aI p0)] [] (retI Q) := by
  refine v_iconst (pc := 0) dX10_plotIn_0 (by decide) ?_
  refine v_istore_n (pc := 1) (al2 := [(2, aI 0), (0, aR y), (1, aI p0)]) dX10_plotIn_1 (by decide) rfl ?_
  exact VG_sub (al' := [(0, aR y), (1, aI p0), (2, aI 0)]) [1, 2, 0] rfl h
theorem eX10_plotIn {E : EN} {k : Nat} {mem : Mm} {Q : Int → Mm → Prop} {y p0 : Int} (hr_p0 : R32 p0) (h : VM E mX10_plotIn k mem 0 [(0, aR y), (1, aI p0)] [] (retI Q)) : CI E mX10_plotIn k mem [aR y, aI p0] Q := CI_of rfl (Nat.le_of_ble_eq_true rfl) h (aNs_c (aNr_R _) (aNs_c (aNr_I hr_p0) (fun _ q => nomatch q)))
set_option maxRecDepth 20000 in
theorem rX10_plotIn_2 {E : EN} (hE : Ep E) {k : Nat} {mem : Mm} {Q : Int → Mm → Prop} {y p0 x2 : Int} (hy : isYd y)
    (h : (((mem y 10) ≤ x2 → Q (-1) mem) ∧ (x2 < (mem y 10) → ((10 ≤ x2 → Q (-1) mem) ∧ (x2 < 10 → (0 ≤ x2 ∧ x2 < 10) ∧ ((¬ (mem (y + 4) x2) = p0 → (R32 (x2 + 1)) ∧ VM E mX10_plotIn k mem 2 [(0, aR y), (1, aI p0), (2, aI (x2 + 1))] [] (retI Q)) ∧ ((mem (y + 4) x2) = p0 → Q x2 mem))))))) :
    VM E mX10_plotIn k mem 2 [(0, aR y), (1, aI p0), (2, aI x2)] [] (retI Q) := by
  refine v_iload_n (pc := 2) dX10_plotIn_2 2 rfl ?_
  refine v_aload_n (pc := 3) dX10_plotIn_3 0 rfl ?_
  refine m_getf (pc := 4) (t := 0) (v := (mem y 10)) dX10_plotIn_4 flX10_45 rfl (yd0 hy) rfl ?_
  refine v_icmpge (pc := 7) (tgt := 34) dX10_plotIn_7 (by decide) (fun c1 => ?_) (fun c1 => ?_)
  · have h := h.1 c1
    refine v_iconst (pc := 34) dX10_plotIn_34 (by decide) ?_
    exact m_retI (pc := 35) dX10_plotIn_35 rfl h
  · have h := h.2 c1
    refine v_iload_n (pc := 10) dX10_plotIn_10 2 rfl ?_
    refine v_bipush (pc := 11) dX10_plotIn_11 (by decide) ?_
    refine v_icmpge (pc := 13) (tgt := 34) dX10_plotIn_13 (by decide) (fun c1 => ?_) (fun c1 => ?_)
    · have h := h.1 c1
      refine v_iconst (pc := 34) dX10_plotIn_34 (by decide) ?_
      exact m_retI (pc := 35) dX10_plotIn_35 rfl h
    · have h := h.2 c1
      refine v_aload_n (pc := 16) dX10_plotIn_16 0 rfl ?_
      refine m_getfin (pc := 17) (v := (y + 4)) hE dX10_plotIn_17 flX10_21 rfl (yd0 hy) rfl ?_
      refine v_iload_n (pc := 20) dX10_plotIn_20 2 rfl ?_
      obtain ⟨o1, h⟩ := h
      refine m_iald (pc := 21) (v := (mem (y + 4) x2)) dX10_plotIn_21 (yd4 hy) o1.1 o1.2 rfl ?_
      refine v_iload_n (pc := 22) dX10_plotIn_22 1 rfl ?_
      refine v_icmpne (pc := 23) (tgt := 28) dX10_plotIn_23 (by decide) (fun c1 => ?_) (fun c1 => ?_)
      · have h := h.1 c1
        obtain ⟨o2, h⟩ := h
        refine m_iinc (pc := 28) (al2 := [(2, aI (x2 + 1)), (0, aR y), (1, aI p0)]) dX10_plotIn_28 2 rfl (by decide) o2 rfl ?_
        refine v_goto (pc := 31) (tgt := 2) dX10_plotIn_31 (by decide) ?_
        exact VG_sub (al' := [(0, aR y), (1, aI p0), (2, aI (x2 + 1))]) [1, 2, 0] rfl h
      · have h := h.2 c1
        refine v_iload_n (pc := 26) dX10_plotIn_26 2 rfl ?_
        exact m_retI (pc := 27) dX10_plotIn_27 rfl h

theorem dX10_walls_0 : decode cX10_walls 0 = .ok (.iconst 0, 1) := by decide +kernel
theorem dX10_walls_1 : decode cX10_walls 1 = .ok (.istore_n 1, 1) := by decide +kernel
theorem dX10_walls_2 : decode cX10_walls 2 = .ok (.iconst 0, 1) := by decide +kernel
theorem dX10_walls_3 : decode cX10_walls 3 = .ok (.istore_n 2, 1) := by decide +kernel
theorem dX10_walls_4 : decode cX10_walls 4 = .ok (.iload_n 2, 1) := by decide +kernel
theorem dX10_walls_5 : decode cX10_walls 5 = .ok (.bipush 32, 2) := by decide +kernel
theorem dX10_walls_7 : decode cX10_walls 7 = .ok (.if_icmp .ge 27, 3) := by decide +kernel
theorem dX10_walls_10 : decode cX10_walls 10 = .ok (.iload_n 1, 1) := by decide +kernel
theorem dX10_walls_11 : decode cX10_walls 11 = .ok (.aload_n 0, 1) := by decide +kernel
theorem dX10_walls_12 : decode cX10_walls 12 = .ok (.getfield 9, 3) := by decide +kernel
theorem dX10_walls_15 : decode cX10_walls 15 = .ok (.iload_n 2, 1) := by decide +kernel
theorem dX10_walls_16 : decode cX10_walls 16 = .ok (.iaload, 1) := by decide +kernel
theorem dX10_walls_17 : decode cX10_walls 17 = .ok (.iconst 1, 1) := by decide +kernel
theorem dX10_walls_18 : decode cX10_walls 18 = .ok (.if_icmp .ne 7, 3) := by decide +kernel
theorem dX10_walls_21 : decode cX10_walls 21 = .ok (.iconst 1, 1) := by decide +kernel
theorem dX10_walls_22 : decode cX10_walls 22 = .ok (.goto 4, 3) := by decide +kernel
theorem dX10_walls_25 : decode cX10_walls 25 = .ok (.iconst 0, 1) := by decide +kernel
theorem dX10_walls_26 : decode cX10_walls 26 = .ok (.iadd, 1) := by decide +kernel
theorem dX10_walls_27 : decode cX10_walls 27 = .ok (.istore_n 1, 1) := by decide +kernel
theorem dX10_walls_28 : decode cX10_walls 28 = .ok (.iinc 2 1, 3) := by decide +kernel
theorem dX10_walls_31 : decode cX10_walls 31 = .ok (.goto (-27), 3) := by decide +kernel
theorem dX10_walls_34 : decode cX10_walls 34 = .ok (.iload_n 1, 1) := by decide +kernel
theorem dX10_walls_35 : decode cX10_walls 35 = .ok (.ireturn, 1) := by decide +kernel
set_option maxRecDepth 20000 in
theorem rX10_walls_0 {E : EN} (hE : Ep E) {k : Nat} {mem : Mm} {Q : Int → Mm → Prop} {y : Int} (hy : isYd y)
    (h : VM E mX10_walls k mem 4 [(0, aR y), (1, aI 0), (2, aI 0)] [] (retI Q)) :
    VM E mX10_walls k mem 0 [(0, aR y)] [] (retI Q) := by
  refine v_iconst (pc := 0) dX10_walls_0 (by decide) ?_
  refine v_istore_n (pc := 1) (al2 := [(1, aI 0), (0, aR y)]) dX10_walls_1 (by decide) rfl ?_
  refine v_iconst (pc := 2) dX10_walls_2 (by decide) ?_
  refine v_istore_n (pc := 3) (al2 := [(2, aI 0), (1, aI 0), (0, aR y)]) dX10_walls_3 (by decide) rfl ?_
  exact VG_sub (al' := [(0, aR y), (1, aI 0), (2, aI 0)]) [2, 1, 0] rfl h
theorem eX10_walls {E : EN} {k : Nat} {mem : Mm} {Q : Int → Mm → Prop} {y : Int}  (h : VM E mX10_walls k mem 0 [(0, aR y)] [] (retI Q)) : CI E mX10_walls k mem [aR y] Q := CI_of rfl (Nat.le_of_ble_eq_true rfl) h (aNs_c (aNr_R _) (fun _ q => nomatch q))
set_option maxRecDepth 20000 in
theorem rX10_walls_4 {E : EN} (hE : Ep E) {k : Nat} {mem : Mm} {Q : Int → Mm → Prop} {y x1 x2 : Int} (hy : isYd y)
    (h : ((32 ≤ x2 → Q x1 mem) ∧ (x2 < 32 → (0 ≤ x2 ∧ x2 < 32) ∧ ((¬ (mem (y + 1) x2) = 1 → (R32 (x1 + 0)) ∧ (R32 (x2 + 1)) ∧ VM E mX10_walls k mem 4 [(0, aR y), (1, aI (x1 + 0)), (2, aI (x2 + 1))] [] (retI Q)) ∧ ((mem (y + 1) x2) = 1 → (R32 (x1 + 1)) ∧ (R32 (x2 + 1)) ∧ VM E mX10_walls k mem 4 [(0, aR y), (1, aI (x1 + 1)), (2, aI (x2 + 1))] [] (retI Q)))))) :
    VM E mX10_walls k mem 4 [(0, aR y), (1, aI x1), (2, aI x2)] [] (retI Q) := by
  refine v_iload_n (pc := 4) dX10_walls_4 2 rfl ?_
  refine v_bipush (pc := 5) dX10_walls_5 (by decide) ?_
  refine v_icmpge (pc := 7) (tgt := 34) dX10_walls_7 (by decide) (fun c1 => ?_) (fun c1 => ?_)
  · have h := h.1 c1
    refine v_iload_n (pc := 34) dX10_walls_34 1 rfl ?_
    exact m_retI (pc := 35) dX10_walls_35 rfl h
  · have h := h.2 c1
    refine v_iload_n (pc := 10) dX10_walls_10 1 rfl ?_
    refine v_aload_n (pc := 11) dX10_walls_11 0 rfl ?_
    refine m_getfin (pc := 12) (v := (y + 1)) hE dX10_walls_12 flX10_9 rfl (yd0 hy) rfl ?_
    refine v_iload_n (pc := 15) dX10_walls_15 2 rfl ?_
    obtain ⟨o1, h⟩ := h
    refine m_iald (pc := 16) (v := (mem (y + 1) x2)) dX10_walls_16 (yd1 hy) o1.1 o1.2 rfl ?_
    refine v_iconst (pc := 17) dX10_walls_17 (by decide) ?_
    refine v_icmpne (pc := 18) (tgt := 25) dX10_walls_18 (by decide) (fun c1 => ?_) (fun c1 => ?_)
    · have h := h.1 c1
      refine v_iconst (pc := 25) dX10_walls_25 (by decide) ?_
      obtain ⟨o2, h⟩ := h
      refine m_iadd (pc := 26) dX10_walls_26 o2 ?_
      refine v_istore_n (pc := 27) (al2 := [(1, aI (x1 + 0)), (0, aR y), (2, aI x2)]) dX10_walls_27 (by decide) rfl ?_
      obtain ⟨o3, h⟩ := h
      refine m_iinc (pc := 28) (al2 := [(2, aI (x2 + 1)), (1, aI (x1 + 0)), (0, aR y)]) dX10_walls_28 2 rfl (by decide) o3 rfl ?_
      refine v_goto (pc := 31) (tgt := 4) dX10_walls_31 (by decide) ?_
      exact VG_sub (al' := [(0, aR y), (1, aI (x1 + 0)), (2, aI (x2 + 1))]) [2, 1, 0] rfl h
    · have h := h.2 c1
      refine v_iconst (pc := 21) dX10_walls_21 (by decide) ?_
      refine v_goto (pc := 22) (tgt := 26) dX10_walls_22 (by decide) ?_
      obtain ⟨o4, h⟩ := h
      refine m_iadd (pc := 26) dX10_walls_26 o4 ?_
      refine v_istore_n (pc := 27) (al2 := [(1, aI (x1 + 1)), (0, aR y), (2, aI x2)]) dX10_walls_27 (by decide) rfl ?_
      obtain ⟨o5, h⟩ := h
      refine m_iinc (pc := 28) (al2 := [(2, aI (x2 + 1)), (1, aI (x1 + 1)), (0, aR y)]) dX10_walls_28 2 rfl (by decide) o5 rfl ?_
      refine v_goto (pc := 31) (tgt := 4) dX10_walls_31 (by decide) ?_
      exact VG_sub (al' := [(0, aR y), (1, aI (x1 + 1)), (2, aI (x2 + 1))]) [2, 1, 0] rfl h

theorem dX10_purchases_0 : decode cX10_purchases 0 = .ok (.iconst 0, 1) := by decide +kernel
theorem dX10_purchases_1 : decode cX10_purchases 1 = .ok (.istore_n 1, 1) := by decide +kernel
theorem dX10_purchases_2 : decode cX10_purchases 2 = .ok (.iconst 0, 1) := by decide +kernel
theorem dX10_purchases_3 : decode cX10_purchases 3 = .ok (.istore_n 2, 1) := by decide +kernel
theorem dX10_purchases_4 : decode cX10_purchases 4 = .ok (.iload_n 2, 1) := by decide +kernel
theorem dX10_purchases_5 : decode cX10_purchases 5 = .ok (.bipush 32, 2) := by decide +kernel
theorem dX10_purchases_7 : decode cX10_purchases 7 = .ok (.if_icmp .ge 18, 3) := by decide +kernel
theorem dX10_purchases_10 : decode cX10_purchases 10 = .ok (.iload_n 1, 1) := by decide +kernel
theorem dX10_purchases_11 : decode cX10_purchases 11 = .ok (.aload_n 0, 1) := by decide +kernel
theorem dX10_purchases_12 : decode cX10_purchases 12 = .ok (.getfield 18, 3) := by decide +kernel
theorem dX10_purchases_15 : decode cX10_purchases 15 = .ok (.iload_n 2, 1) := by decide +kernel
theorem dX10_purchases_16 : decode cX10_purchases 16 = .ok (.iaload, 1) := by decide +kernel
theorem dX10_purchases_17 : decode cX10_purchases 17 = .ok (.iadd, 1) := by decide +kernel
theorem dX10_purchases_18 : decode cX10_purchases 18 = .ok (.istore_n 1, 1) := by decide +kernel
theorem dX10_purchases_19 : decode cX10_purchases 19 = .ok (.iinc 2 1, 3) := by decide +kernel
theorem dX10_purchases_22 : decode cX10_purchases 22 = .ok (.goto (-18), 3) := by decide +kernel
theorem dX10_purchases_25 : decode cX10_purchases 25 = .ok (.iload_n 1, 1) := by decide +kernel
theorem dX10_purchases_26 : decode cX10_purchases 26 = .ok (.ireturn, 1) := by decide +kernel
set_option maxRecDepth 20000 in
theorem rX10_purchases_0 {E : EN} (hE : Ep E) {k : Nat} {mem : Mm} {Q : Int → Mm → Prop} {y : Int} (hy : isYd y)
    (h : VM E mX10_purchases k mem 4 [(0, aR y), (1, aI 0), (2, aI 0)] [] (retI Q)) :
    VM E mX10_purchases k mem 0 [(0, aR y)] [] (retI Q) := by
  refine v_iconst (pc := 0) dX10_purchases_0 (by decide) ?_
  refine v_istore_n (pc := 1) (al2 := [(1, aI 0), (0, aR y)]) dX10_purchases_1 (by decide) rfl ?_
  refine v_iconst (pc := 2) dX10_purchases_2 (by decide) ?_
  refine v_istore_n (pc := 3) (al2 := [(2, aI 0), (1, aI 0), (0, aR y)]) dX10_purchases_3 (by decide) rfl ?_
  exact VG_sub (al' := [(0, aR y), (1, aI 0), (2, aI 0)]) [2, 1, 0] rfl h
theorem eX10_purchases {E : EN} {k : Nat} {mem : Mm} {Q : Int → Mm → Prop} {y : Int}  (h : VM E mX10_purchases k mem 0 [(0, aR y)] [] (retI Q)) : CI E mX10_purchases k mem [aR y] Q := CI_of rfl (Nat.le_of_ble_eq_true rfl) h (aNs_c (aNr_R _) (fun _ q => nomatch q))
set_option maxRecDepth 20000 in
theorem rX10_purchases_4 {E : EN} (hE : Ep E) {k : Nat} {mem : Mm} {Q : Int → Mm → Prop} {y x1 x2 : Int} (hy : isYd y)
    (h : ((32 ≤ x2 → Q x1 mem) ∧ (x2 < 32 → (0 ≤ x2 ∧ x2 < 32) ∧ (R32 (x1 + (mem (y + 3) x2))) ∧ (R32 (x2 + 1)) ∧ VM E mX10_purchases k mem 4 [(0, aR y), (1, aI (x1 + (mem (y + 3) x2))), (2, aI (x2 + 1))] [] (retI Q)))) :
    VM E mX10_purchases k mem 4 [(0, aR y), (1, aI x1), (2, aI x2)] [] (retI Q) := by
  refine v_iload_n (pc := 4) dX10_purchases_4 2 rfl ?_
  refine v_bipush (pc := 5) dX10_purchases_5 (by decide) ?_
  refine v_icmpge (pc := 7) (tgt := 25) dX10_purchases_7 (by decide) (fun c1 => ?_) (fun c1 => ?_)
  · have h := h.1 c1
    refine v_iload_n (pc := 25) dX10_purchases_25 1 rfl ?_
    exact m_retI (pc := 26) dX10_purchases_26 rfl h
  · have h := h.2 c1
    refine v_iload_n (pc := 10) dX10_purchases_10 1 rfl ?_
    refine v_aload_n (pc := 11) dX10_purchases_11 0 rfl ?_
    refine m_getfin (pc := 12) (v := (y + 3)) hE dX10_purchases_12 flX10_18 rfl (yd0 hy) rfl ?_
    refine v_iload_n (pc := 15) dX10_purchases_15 2 rfl ?_
    obtain ⟨o1, h⟩ := h
    refine m_iald (pc := 16) (v := (mem (y + 3) x2)) dX10_purchases_16 (yd3 hy) o1.1 o1.2 rfl ?_
    obtain ⟨o2, h⟩ := h
    refine m_iadd (pc := 17) dX10_purchases_17 o2 ?_
    refine v_istore_n (pc := 18) (al2 := [(1, aI (x1 + (mem (y + 3) x2))), (0, aR y), (2, aI x2)]) dX10_purchases_18 (by decide) rfl ?_
    obtain ⟨o3, h⟩ := h
    refine m_iinc (pc := 19) (al2 := [(2, aI (x2 + 1)), (1, aI (x1 + (mem (y + 3) x2))), (0, aR y)]) dX10_purchases_19 2 rfl (by decide) o3 rfl ?_
    refine v_goto (pc := 22) (tgt := 4) dX10_purchases_22 (by decide) ?_
    exact VG_sub (al' := [(0, aR y), (1, aI (x1 + (mem (y + 3) x2))), (2, aI (x2 + 1))]) [2, 1, 0] rfl h

theorem dX10_fact_0 : decode cX10_fact 0 = .ok (.iload_n 2, 1) := by decide +kernel
theorem dX10_fact_1 : decode cX10_fact 1 = .ok (.tableswitch 48 0 2 #[27, 34, 41], 27) := by decide +kernel
theorem dX10_fact_28 : decode cX10_fact 28 = .ok (.aload_n 0, 1) := by decide +kernel
theorem dX10_fact_29 : decode cX10_fact 29 = .ok (.getfield 9, 3) := by decide +kernel
theorem dX10_fact_32 : decode cX10_fact 32 = .ok (.iload_n 1, 1) := by decide +kernel
theorem dX10_fact_33 : decode cX10_fact 33 = .ok (.iaload, 1) := by decide +kernel
theorem dX10_fact_34 : decode cX10_fact 34 = .ok (.ireturn, 1) := by decide +kernel
theorem dX10_fact_35 : decode cX10_fact 35 = .ok (.aload_n 0, 1) := by decide +kernel
theorem dX10_fact_36 : decode cX10_fact 36 = .ok (.getfield 15, 3) := by decide +kernel
theorem dX10_fact_39 : decode cX10_fact 39 = .ok (.iload_n 1, 1) := by decide +kernel
theorem dX10_fact_40 : decode cX10_fact 40 = .ok (.iaload, 1) := by decide +kernel
theorem dX10_fact_41 : decode cX10_fact 41 = .ok (.ireturn, 1) := by decide +kernel
theorem dX10_fact_42 : decode cX10_fact 42 = .ok (.aload_n 0, 1) := by decide +kernel
theorem dX10_fact_43 : decode cX10_fact 43 = .ok (.getfield 18, 3) := by decide +kernel
theorem dX10_fact_46 : decode cX10_fact 46 = .ok (.iload_n 1, 1) := by decide +kernel
theorem dX10_fact_47 : decode cX10_fact 47 = .ok (.iaload, 1) := by decide +kernel
theorem dX10_fact_48 : decode cX10_fact 48 = .ok (.ireturn, 1) := by decide +kernel
theorem dX10_fact_49 : decode cX10_fact 49 = .ok (.iconst (-1), 1) := by decide +kernel
theorem dX10_fact_50 : decode cX10_fact 50 = .ok (.ireturn, 1) := by decide +kernel
set_option maxRecDepth 20000 in
theorem rX10_fact_0 {E : EN} (hE : Ep E) {k : Nat} {mem : Mm} {Q : Int → Mm → Prop} {y p0 p1 : Int} (hy : isYd y)
    (h : ((p1 = 0 → (0 ≤ p0 ∧ p0 < 32) ∧ Q (mem (y + 1) p0) mem) ∧ (p1 = 1 → (0 ≤ p0 ∧ p0 < 32) ∧ Q (mem (y + 2) p0) mem) ∧ (p1 = 2 → (0 ≤ p0 ∧ p0 < 32) ∧ Q (mem (y + 3) p0) mem) ∧ (p1 < 0 ∨ 2 < p1 → Q (-1) mem))) :
    VM E mX10_fact k mem 0 [(0, aR y), (1, aI p0), (2, aI p1)] [] (retI Q) := by
  refine v_iload_n (pc := 0) dX10_fact_0 2 rfl ?_
  rcases (show p1 = 0 ∨ p1 = 1 ∨ p1 = 2 ∨ (p1 < 0 ∨ 2 < p1) by omega) with c1 | c1 | c1 | c1
  · have h := h.1 c1
    refine v_tabIn (pc := 1) (tgt := 28) dX10_fact_1 (by omega) (by omega) (by rw [c1] <;> rfl) (by decide) ?_
    refine v_aload_n (pc := 28) dX10_fact_28 0 rfl ?_
    refine m_getfin (pc := 29) (v := (y + 1)) hE dX10_fact_29 flX10_9 rfl (yd0 hy) rfl ?_
    refine v_iload_n (pc := 32) dX10_fact_32 1 rfl ?_
    obtain ⟨o1, h⟩ := h
    refine m_iald (pc := 33) (v := (mem (y + 1) p0)) dX10_fact_33 (yd1 hy) o1.1 o1.2 rfl ?_
    exact m_retI (pc := 34) dX10_fact_34 rfl h
  · have h := h.2.1 c1
    refine v_tabIn (pc := 1) (tgt := 35) dX10_fact_1 (by omega) (by omega) (by rw [c1] <;> rfl) (by decide) ?_
    refine v_aload_n (pc := 35) dX10_fact_35 0 rfl ?_
    refine m_getfin (pc := 36) (v := (y + 2)) hE dX10_fact_36 flX10_15 rfl (yd0 hy) rfl ?_
    refine v_iload_n (pc := 39) dX10_fact_39 1 rfl ?_
    obtain ⟨o2, h⟩ := h
    refine m_iald (pc := 40) (v := (mem (y + 2) p0)) dX10_fact_40 (yd2 hy) o2.1 o2.2 rfl ?_
    exact m_retI (pc := 41) dX10_fact_41 rfl h
  · have h := h.2.2.1 c1
    refine v_tabIn (pc := 1) (tgt := 42) dX10_fact_1 (by omega) (by omega) (by rw [c1] <;> rfl) (by decide) ?_
    refine v_aload_n (pc := 42) dX10_fact_42 0 rfl ?_
    refine m_getfin (pc := 43) (v := (y + 3)) hE dX10_fact_43 flX10_18 rfl (yd0 hy) rfl ?_
    refine v_iload_n (pc := 46) dX10_fact_46 1 rfl ?_
    obtain ⟨o3, h⟩ := h
    refine m_iald (pc := 47) (v := (mem (y + 3) p0)) dX10_fact_47 (yd3 hy) o3.1 o3.2 rfl ?_
    exact m_retI (pc := 48) dX10_fact_48 rfl h
  · have h := h.2.2.2 c1
    refine v_tabOut (pc := 1) (tgt := 49) dX10_fact_1 c1 (by decide) ?_
    refine v_iconst (pc := 49) dX10_fact_49 (by decide) ?_
    exact m_retI (pc := 50) dX10_fact_50 rfl h
theorem eX10_fact {E : EN} {k : Nat} {mem : Mm} {Q : Int → Mm → Prop} {y p0 p1 : Int} (hr_p0 : R32 p0) (hr_p1 : R32 p1) (h : VM E mX10_fact k mem 0 [(0, aR y), (1, aI p0), (2, aI p1)] [] (retI Q)) : CI E mX10_fact k mem [aR y, aI p0, aI p1] Q := CI_of rfl (Nat.le_of_ble_eq_true rfl) h (aNs_c (aNr_R _) (aNs_c (aNr_I hr_p0) (aNs_c (aNr_I hr_p1) (fun _ q => nomatch q))))

theorem dX10_mayWrite_0 : decode cX10_mayWrite 0 = .ok (.iload_n 2, 1) := by decide +kernel
theorem dX10_mayWrite_1 : decode cX10_mayWrite 1 = .ok (.ifCond .ne 27, 3) := by decide +kernel
theorem dX10_mayWrite_4 : decode cX10_mayWrite 4 = .ok (.iload_n 3, 1) := by decide +kernel
theorem dX10_mayWrite_5 : decode cX10_mayWrite 5 = .ok (.ifCond .eq 17, 3) := by decide +kernel
theorem dX10_mayWrite_8 : decode cX10_mayWrite 8 = .ok (.iload_n 3, 1) := by decide +kernel
theorem dX10_mayWrite_9 : decode cX10_mayWrite 9 = .ok (.iconst 2, 1) := by decide +kernel
theorem dX10_mayWrite_10 : decode cX10_mayWrite 10 = .ok (.if_icmp .eq 12, 3) := by decide +kernel
theorem dX10_mayWrite_13 : decode cX10_mayWrite 13 = .ok (.aload_n 0, 1) := by decide +kernel
theorem dX10_mayWrite_14 : decode cX10_mayWrite 14 = .ok (.iload_n 1, 1) := by decide +kernel
theorem dX10_mayWrite_15 : decode cX10_mayWrite 15 = .ok (.invokevirtual 49, 3) := by decide +kernel
theorem dX10_mayWrite_18 : decode cX10_mayWrite 18 = .ok (.iconst (-1), 1) := by decide +kernel
theorem dX10_mayWrite_19 : decode cX10_mayWrite 19 = .ok (.if_icmp .ne 7, 3) := by decide +kernel
theorem dX10_mayWrite_22 : decode cX10_mayWrite 22 = .ok (.iconst 1, 1) := by decide +kernel
theorem dX10_mayWrite_23 : decode cX10_mayWrite 23 = .ok (.goto 4, 3) := by decide +kernel
theorem dX10_mayWrite_26 : decode cX10_mayWrite 26 = .ok (.iconst 0, 1) := by decide +kernel
theorem dX10_mayWrite_27 : decode cX10_mayWrite 27 = .ok (.ireturn, 1) := by decide +kernel
theorem dX10_mayWrite_28 : decode cX10_mayWrite 28 = .ok (.iload_n 2, 1) := by decide +kernel
theorem dX10_mayWrite_29 : decode cX10_mayWrite 29 = .ok (.iconst 2, 1) := by decide +kernel
theorem dX10_mayWrite_30 : decode cX10_mayWrite 30 = .ok (.if_icmp .ne 17, 3) := by decide +kernel
theorem dX10_mayWrite_33 : decode cX10_mayWrite 33 = .ok (.iload_n 3, 1) := by decide +kernel
theorem dX10_mayWrite_34 : decode cX10_mayWrite 34 = .ok (.ifCond .eq 13, 3) := by decide +kernel
theorem dX10_mayWrite_37 : decode cX10_mayWrite 37 = .ok (.aload_n 0, 1) := by decide +kernel
theorem dX10_mayWrite_38 : decode cX10_mayWrite 38 = .ok (.getfield 9, 3) := by decide +kernel
theorem dX10_mayWrite_41 : decode cX10_mayWrite 41 = .ok (.iload_n 1, 1) := by decide +kernel
theorem dX10_mayWrite_42 : decode cX10_mayWrite 42 = .ok (.iaload, 1) := by decide +kernel
theorem dX10_mayWrite_43 : decode cX10_mayWrite 43 = .ok (.iconst 1, 1) := by decide +kernel
theorem dX10_mayWrite_44 : decode cX10_mayWrite 44 = .ok (.if_icmp .ne 7, 3) := by decide +kernel
theorem dX10_mayWrite_47 : decode cX10_mayWrite 47 = .ok (.iconst 1, 1) := by decide +kernel
theorem dX10_mayWrite_48 : decode cX10_mayWrite 48 = .ok (.goto 4, 3) := by decide +kernel
theorem dX10_mayWrite_51 : decode cX10_mayWrite 51 = .ok (.iconst 0, 1) := by decide +kernel
theorem dX10_mayWrite_52 : decode cX10_mayWrite 52 = .ok (.ireturn, 1) := by decide +kernel
set_option maxRecDepth 20000 in
theorem rX10_mayWrite_0 {E : EN} (hE : Ep E) {k : Nat} {mem : Mm} {Q : Int → Mm → Prop} {y p0 p1 p2 : Int} (hy : isYd y)
    (h : ((¬ p1 = 0 → ((¬ p1 = 2 → Q 1 mem) ∧ (p1 = 2 → ((p2 = 0 → Q 1 mem) ∧ (¬ p2 = 0 → (0 ≤ p0 ∧ p0 < 32) ∧ ((¬ (mem (y + 1) p0) = 1 → Q 0 mem) ∧ ((mem (y + 1) p0) = 1 → Q 1 mem))))))) ∧ (p1 = 0 → ((p2 = 0 → Q 1 mem) ∧ (¬ p2 = 0 → ((p2 = 2 → Q 1 mem) ∧ (¬ p2 = 2 → (R32 p0 → CI E mX10_plotIn k mem [aR y, aI p0] (fun r3 m2 => ((¬ r3 = (-1) → Q 0 m2) ∧ (r3 = (-1) → Q 1 m2))))))))))) :
    VM E mX10_mayWrite (k + 1) mem 0 [(0, aR y), (1, aI p0), (2, aI p1), (3, aI p2)] [] (retI Q) := by
  refine v_iload_n (pc := 0) dX10_mayWrite_0 2 rfl ?_
  refine v_ifne (pc := 1) (tgt := 28) dX10_mayWrite_1 (by decide) (fun c1 => ?_) (fun c1 => ?_)
  · have h := h.1 c1
    refine v_iload_n (pc := 28) dX10_mayWrite_28 2 rfl ?_
    refine v_iconst (pc := 29) dX10_mayWrite_29 (by decide) ?_
    refine v_icmpne (pc := 30) (tgt := 47) dX10_mayWrite_30 (by decide) (fun c1 => ?_) (fun c1 => ?_)
    · have h := h.1 c1
      refine v_iconst (pc := 47) dX10_mayWrite_47 (by decide) ?_
      refine v_goto (pc := 48) (tgt := 52) dX10_mayWrite_48 (by decide) ?_
      exact m_retZ (pc := 52) dX10_mayWrite_52 rfl (by decide) h
    · have h := h.2 c1
      refine v_iload_n (pc := 33) dX10_mayWrite_33 3 rfl ?_
      refine v_ifeq (pc := 34) (tgt := 47) dX10_mayWrite_34 (by decide) (fun c1 => ?_) (fun c1 => ?_)
      · have h := h.1 c1
        refine v_iconst (pc := 47) dX10_mayWrite_47 (by decide) ?_
        refine v_goto (pc := 48) (tgt := 52) dX10_mayWrite_48 (by decide) ?_
        exact m_retZ (pc := 52) dX10_mayWrite_52 rfl (by decide) h
      · have h := h.2 c1
        refine v_aload_n (pc := 37) dX10_mayWrite_37 0 rfl ?_
        refine m_getfin (pc := 38) (v := (y + 1)) hE dX10_mayWrite_38 flX10_9 rfl (yd0 hy) rfl ?_
        refine v_iload_n (pc := 41) dX10_mayWrite_41 1 rfl ?_
        obtain ⟨o1, h⟩ := h
        refine m_iald (pc := 42) (v := (mem (y + 1) p0)) dX10_mayWrite_42 (yd1 hy) o1.1 o1.2 rfl ?_
        refine v_iconst (pc := 43) dX10_mayWrite_43 (by decide) ?_
        refine v_icmpne (pc := 44) (tgt := 51) dX10_mayWrite_44 (by decide) (fun c1 => ?_) (fun c1 => ?_)
        · have h := h.1 c1
          refine v_iconst (pc := 51) dX10_mayWrite_51 (by decide) ?_
          exact m_retZ (pc := 52) dX10_mayWrite_52 rfl (by decide) h
        · have h := h.2 c1
          refine v_iconst (pc := 47) dX10_mayWrite_47 (by decide) ?_
          refine v_goto (pc := 48) (tgt := 52) dX10_mayWrite_48 (by decide) ?_
          exact m_retZ (pc := 52) dX10_mayWrite_52 rfl (by decide) h
  · have h := h.2 c1
    refine v_iload_n (pc := 4) dX10_mayWrite_4 3 rfl ?_
    refine v_ifeq (pc := 5) (tgt := 22) dX10_mayWrite_5 (by decide) (fun c1 => ?_) (fun c1 => ?_)
    · have h := h.1 c1
      refine v_iconst (pc := 22) dX10_mayWrite_22 (by decide) ?_
      refine v_goto (pc := 23) (tgt := 27) dX10_mayWrite_23 (by decide) ?_
      exact m_retZ (pc := 27) dX10_mayWrite_27 rfl (by decide) h
    · have h := h.2 c1
      refine v_iload_n (pc := 8) dX10_mayWrite_8 3 rfl ?_
      refine v_iconst (pc := 9) dX10_mayWrite_9 (by decide) ?_
      refine v_icmpeq (pc := 10) (tgt := 22) dX10_mayWrite_10 (by decide) (fun c1 => ?_) (fun c1 => ?_)
      · have h := h.1 c1
        refine v_iconst (pc := 22) dX10_mayWrite_22 (by decide) ?_
        refine v_goto (pc := 23) (tgt := 27) dX10_mayWrite_23 (by decide) ?_
        exact m_retZ (pc := 27) dX10_mayWrite_27 rfl (by decide) h
      · have h := h.2 c1
        refine v_aload_n (pc := 13) dX10_mayWrite_13 0 rfl ?_
        refine v_iload_n (pc := 14) dX10_mayWrite_14 1 rfl ?_
        refine m_invI (pc := 15) (mi' := mX10_plotIn) (rest := []) [aI p0] dX10_mayWrite_15 (yd0 hy) (by decide) rfl msX10_plotIn mvX10_plotIn lkX10_49 rfl (Nat.le_of_ble_eq_true rfl) (fun hn => CI_mono (h (aaI hn 1 rfl)) (fun r3 m2 h => ?_))
        refine v_iconst (pc := 18) dX10_mayWrite_18 (by decide) ?_
        refine v_icmpne (pc := 19) (tgt := 26) dX10_mayWrite_19 (by decide) (fun c1 => ?_) (fun c1 => ?_)
        · have h := h.1 c1
          refine v_iconst (pc := 26) dX10_mayWrite_26 (by decide) ?_
          exact m_retZ (pc := 27) dX10_mayWrite_27 rfl (by decide) h
        · have h := h.2 c1
          refine v_iconst (pc := 22) dX10_mayWrite_22 (by decide) ?_
          refine v_goto (pc := 23) (tgt := 27) dX10_mayWrite_23 (by decide) ?_
          exact m_retZ (pc := 27) dX10_mayWrite_27 rfl (by decide) h
theorem eX10_mayWrite {E : EN} {k : Nat} {mem : Mm} {Q : Int → Mm → Prop} {y p0 p1 p2 : Int} (hr_p0 : R32 p0) (hr_p1 : R32 p1) (hr_p2 : R32 p2) (h : VM E mX10_mayWrite (k + 1) mem 0 [(0, aR y), (1, aI p0), (2, aI p1), (3, aI p2)] [] (retI Q)) : CI E mX10_mayWrite (k + 1) mem [aR y, aI p0, aI p1, aI p2] Q := CI_of rfl (Nat.le_of_ble_eq_true rfl) h (aNs_c (aNr_R _) (aNs_c (aNr_I hr_p0) (aNs_c (aNr_I hr_p1) (aNs_c (aNr_I hr_p2) (fun _ q => nomatch q)))))

theorem dX10_write_0 : decode cX10_write 0 = .ok (.iload_n 2, 1) := by decide +kernel
theorem dX10_write_1 : decode cX10_write 1 = .ok (.ifCond .ne 34, 3) := by decide +kernel
theorem dX10_write_4 : decode cX10_write 4 = .ok (.aload_n 0, 1) := by decide +kernel
theorem dX10_write_5 : decode cX10_write 5 = .ok (.getfield 9, 3) := by decide +kernel
theorem dX10_write_8 : decode cX10_write 8 = .ok (.iload_n 1, 1) := by decide +kernel
theorem dX10_write_9 : decode cX10_write 9 = .ok (.iload_n 3, 1) := by decide +kernel
theorem dX10_write_10 : decode cX10_write 10 = .ok (.iastore, 1) := by decide +kernel
theorem dX10_write_11 : decode cX10_write 11 = .ok (.aload_n 0, 1) := by decide +kernel
theorem dX10_write_12 : decode cX10_write 12 = .ok (.getfield 18, 3) := by decide +kernel
theorem dX10_write_15 : decode cX10_write 15 = .ok (.iload_n 1, 1) := by decide +kernel
theorem dX10_write_16 : decode cX10_write 16 = .ok (.iload_n 3, 1) := by decide +kernel
theorem dX10_write_17 : decode cX10_write 17 = .ok (.iconst 1, 1) := by decide +kernel
theorem dX10_write_18 : decode cX10_write 18 = .ok (.if_icmp .ne 12, 3) := by decide +kernel
theorem dX10_write_21 : decode cX10_write 21 = .ok (.aload_n 0, 1) := by decide +kernel
theorem dX10_write_22 : decode cX10_write 22 = .ok (.getfield 18, 3) := by decide +kernel
theorem dX10_write_25 : decode cX10_write 25 = .ok (.iload_n 1, 1) := by decide +kernel
theorem dX10_write_26 : decode cX10_write 26 = .ok (.iaload, 1) := by decide +kernel
theorem dX10_write_27 : decode cX10_write 27 = .ok (.goto 4, 3) := by decide +kernel
theorem dX10_write_30 : decode cX10_write 30 = .ok (.iconst 0, 1) := by decide +kernel
theorem dX10_write_31 : decode cX10_write 31 = .ok (.iastore, 1) := by decide +kernel
theorem dX10_write_32 : decode cX10_write 32 = .ok (.goto 25, 3) := by decide +kernel
theorem dX10_write_35 : decode cX10_write 35 = .ok (.iload_n 2, 1) := by decide +kernel
theorem dX10_write_36 : decode cX10_write 36 = .ok (.iconst 1, 1) := by decide +kernel
theorem dX10_write_37 : decode cX10_write 37 = .ok (.if_icmp .ne 13, 3) := by decide +kernel
theorem dX10_write_40 : decode cX10_write 40 = .ok (.aload_n 0, 1) := by decide +kernel
theorem dX10_write_41 : decode cX10_write 41 = .ok (.getfield 15, 3) := by decide +kernel
theorem dX10_write_44 : decode cX10_write 44 = .ok (.iload_n 1, 1) := by decide +kernel
theorem dX10_write_45 : decode cX10_write 45 = .ok (.iload_n 3, 1) := by decide +kernel
theorem dX10_write_46 : decode cX10_write 46 = .ok (.iastore, 1) := by decide +kernel
theorem dX10_write_47 : decode cX10_write 47 = .ok (.goto 10, 3) := by decide +kernel
theorem dX10_write_50 : decode cX10_write 50 = .ok (.aload_n 0, 1) := by decide +kernel
theorem dX10_write_51 : decode cX10_write 51 = .ok (.getfield 18, 3) := by decide +kernel
theorem dX10_write_54 : decode cX10_write 54 = .ok (.iload_n 1, 1) := by decide +kernel
theorem dX10_write_55 : decode cX10_write 55 = .ok (.iload_n 3, 1) := by decide +kernel
theorem dX10_write_56 : decode cX10_write 56 = .ok (.iastore, 1) := by decide +kernel
theorem dX10_write_57 : decode cX10_write 57 = .ok (.return_, 1) := by decide +kernel
set_option maxRecDepth 20000 in
theorem rX10_write_0 {E : EN} (hE : Ep E) {k : Nat} {mem : Mm} {Q : Mm → Prop} {y p0 p1 p2 : Int} (hy : isYd y)
    (h : ((¬ p1 = 0 → ((¬ p1 = 1 → (0 ≤ p0 ∧ p0 < 32) ∧ Q (aUp mem (y + 3) p0 p2)) ∧ (p1 = 1 → (0 ≤ p0 ∧ p0 < 32) ∧ Q (aUp mem (y + 2) p0 p2)))) ∧ (p1 = 0 → (0 ≤ p0 ∧ p0 < 32) ∧ ((¬ p2 = 1 → Q (aUp (aUp mem (y + 1) p0 p2) (y + 3) p0 0)) ∧ (p2 = 1 → Q (aUp (aUp mem (y + 1) p0 p2) (y + 3) p0 (mem (y + 3) p0))))))) :
    VM E mX10_write k mem 0 [(0, aR y), (1, aI p0), (2, aI p1), (3, aI p2)] [] (retV Q) := by
  refine v_iload_n (pc := 0) dX10_write_0 2 rfl ?_
  refine v_ifne (pc := 1) (tgt := 35) dX10_write_1 (by decide) (fun c1 => ?_) (fun c1 => ?_)
  · have h := h.1 c1
    refine v_iload_n (pc := 35) dX10_write_35 2 rfl ?_
    refine v_iconst (pc := 36) dX10_write_36 (by decide) ?_
    refine v_icmpne (pc := 37) (tgt := 50) dX10_write_37 (by decide) (fun c1 => ?_) (fun c1 => ?_)
    · have h := h.1 c1
      refine v_aload_n (pc := 50) dX10_write_50 0 rfl ?_
      refine m_getfin (pc := 51) (v := (y + 3)) hE dX10_write_51 flX10_18 rfl (yd0 hy) rfl ?_
      refine v_iload_n (pc := 54) dX10_write_54 1 rfl ?_
      refine v_iload_n (pc := 55) dX10_write_55 3 rfl ?_
      obtain ⟨o1, h⟩ := h
      refine v_iast (pc := 56) dX10_write_56 (yd3 hy) o1.1 o1.2 ?_
      exact m_retV (pc := 57) dX10_write_57 rfl h
    · have h := h.2 c1
      refine v_aload_n (pc := 40) dX10_write_40 0 rfl ?_
      refine m_getfin (pc := 41) (v := (y + 2)) hE dX10_write_41 flX10_15 rfl (yd0 hy) rfl ?_
      refine v_iload_n (pc := 44) dX10_write_44 1 rfl ?_
      refine v_iload_n (pc := 45) dX10_write_45 3 rfl ?_
      obtain ⟨o2, h⟩ := h
      refine v_iast (pc := 46) dX10_write_46 (yd2 hy) o2.1 o2.2 ?_
      refine v_goto (pc := 47) (tgt := 57) dX10_write_47 (by decide) ?_
      exact m_retV (pc := 57) dX10_write_57 rfl h
  · have h := h.2 c1
    refine v_aload_n (pc := 4) dX10_write_4 0 rfl ?_
    refine m_getfin (pc := 5) (v := (y + 1)) hE dX10_write_5 flX10_9 rfl (yd0 hy) rfl ?_
    refine v_iload_n (pc := 8) dX10_write_8 1 rfl ?_
    refine v_iload_n (pc := 9) dX10_write_9 3 rfl ?_
    obtain ⟨o3, h⟩ := h
    refine v_iast (pc := 10) dX10_write_10 (yd1 hy) o3.1 o3.2 ?_
    refine v_aload_n (pc := 11) dX10_write_11 0 rfl ?_
    refine m_getfin (pc := 12) (v := (y + 3)) hE dX10_write_12 flX10_18 rfl (yd0 hy) rfl ?_
    refine v_iload_n (pc := 15) dX10_write_15 1 rfl ?_
    refine v_iload_n (pc := 16) dX10_write_16 3 rfl ?_
    refine v_iconst (pc := 17) dX10_write_17 (by decide) ?_
    refine v_icmpne (pc := 18) (tgt := 30) dX10_write_18 (by decide) (fun c1 => ?_) (fun c1 => ?_)
    · have h := h.1 c1
      refine v_iconst (pc := 30) dX10_write_30 (by decide) ?_
      refine v_iast (pc := 31) dX10_write_31 (yd3 hy) o3.1 o3.2 ?_
      refine v_goto (pc := 32) (tgt := 57) dX10_write_32 (by decide) ?_
      exact m_retV (pc := 57) dX10_write_57 rfl h
    · have h := h.2 c1
      refine v_aload_n (pc := 21) dX10_write_21 0 rfl ?_
      refine m_getfin (pc := 22) (v := (y + 3)) hE dX10_write_22 flX10_18 rfl (yd0 hy) rfl ?_
      refine v_iload_n (pc := 25) dX10_write_25 1 rfl ?_
      refine m_iald (pc := 26) (v := (mem (y + 3) p0)) dX10_write_26 (yd3 hy) o3.1 o3.2 (aUp_rn (by omega)) ?_
      refine v_goto (pc := 27) (tgt := 31) dX10_write_27 (by decide) ?_
      refine v_iast (pc := 31) dX10_write_31 (yd3 hy) o3.1 o3.2 ?_
      refine v_goto (pc := 32) (tgt := 57) dX10_write_32 (by decide) ?_
      exact m_retV (pc := 57) dX10_write_57 rfl h
theorem eX10_write {E : EN} {k : Nat} {mem : Mm} {Q : Mm → Prop} {y p0 p1 p2 : Int} (hr_p0 : R32 p0) (hr_p1 : R32 p1) (hr_p2 : R32 p2) (h : VM E mX10_write k mem 0 [(0, aR y), (1, aI p0), (2, aI p1), (3, aI p2)] [] (retV Q)) : CV E mX10_write k mem [aR y, aI p0, aI p1, aI p2] Q := CV_of rfl (Nat.le_of_ble_eq_true rfl) h (aNs_c (aNr_R _) (aNs_c (aNr_I hr_p0) (aNs_c (aNr_I hr_p1) (aNs_c (aNr_I hr_p2) (fun _ q => nomatch q)))))

theorem dX10_writeCell_0 : decode cX10_writeCell 0 = .ok (.iload_n 1, 1) := by decide +kernel
theorem dX10_writeCell_1 : decode cX10_writeCell 1 = .ok (.invokestatic 53, 3) := by decide +kernel
theorem dX10_writeCell_4 : decode cX10_writeCell 4 = .ok (.ifCond .eq 29, 3) := by decide +kernel
theorem dX10_writeCell_7 : decode cX10_writeCell 7 = .ok (.iconst 0, 1) := by decide +kernel
theorem dX10_writeCell_8 : decode cX10_writeCell 8 = .ok (.iload_n 2, 1) := by decide +kernel
theorem dX10_writeCell_9 : decode cX10_writeCell 9 = .ok (.invokestatic 57, 3) := by decide +kernel
theorem dX10_writeCell_12 : decode cX10_writeCell 12 = .ok (.ifCond .eq 21, 3) := by decide +kernel
theorem dX10_writeCell_15 : decode cX10_writeCell 15 = .ok (.iconst 1, 1) := by decide +kernel
theorem dX10_writeCell_16 : decode cX10_writeCell 16 = .ok (.iload_n 3, 1) := by decide +kernel
theorem dX10_writeCell_17 : decode cX10_writeCell 17 = .ok (.invokestatic 57, 3) := by decide +kernel
theorem dX10_writeCell_20 : decode cX10_writeCell 20 = .ok (.ifCond .eq 13, 3) := by decide +kernel
theorem dX10_writeCell_23 : decode cX10_writeCell 23 = .ok (.aload_n 0, 1) := by decide +kernel
theorem dX10_writeCell_24 : decode cX10_writeCell 24 = .ok (.iload_n 1, 1) := by decide +kernel
theorem dX10_writeCell_25 : decode cX10_writeCell 25 = .ok (.iconst 0, 1) := by decide +kernel
theorem dX10_writeCell_26 : decode cX10_writeCell 26 = .ok (.iload_n 2, 1) := by decide +kernel
theorem dX10_writeCell_27 : decode cX10_writeCell 27 = .ok (.invokevirtual 61, 3) := by decide +kernel
theorem dX10_writeCell_30 : decode cX10_writeCell 30 = .ok (.ifCond .ne 5, 3) := by decide +kernel
theorem dX10_writeCell_33 : decode cX10_writeCell 33 = .ok (.iconst 0, 1) := by decide +kernel
theorem dX10_writeCell_34 : decode cX10_writeCell 34 = .ok (.ireturn, 1) := by decide +kernel
theorem dX10_writeCell_35 : decode cX10_writeCell 35 = .ok (.aload_n 0, 1) := by decide +kernel
theorem dX10_writeCell_36 : decode cX10_writeCell 36 = .ok (.iload_n 1, 1) := by decide +kernel
theorem dX10_writeCell_37 : decode cX10_writeCell 37 = .ok (.iconst 0, 1) := by decide +kernel
theorem dX10_writeCell_38 : decode cX10_writeCell 38 = .ok (.iload_n 2, 1) := by decide +kernel
theorem dX10_writeCell_39 : decode cX10_writeCell 39 = .ok (.invokevirtual 65, 3) := by decide +kernel
theorem dX10_writeCell_42 : decode cX10_writeCell 42 = .ok (.aload_n 0, 1) := by decide +kernel
theorem dX10_writeCell_43 : decode cX10_writeCell 43 = .ok (.iload_n 1, 1) := by decide +kernel
theorem dX10_writeCell_44 : decode cX10_writeCell 44 = .ok (.iconst 1, 1) := by decide +kernel
theorem dX10_writeCell_45 : decode cX10_writeCell 45 = .ok (.iload_n 3, 1) := by decide +kernel
theorem dX10_writeCell_46 : decode cX10_writeCell 46 = .ok (.invokevirtual 65, 3) := by decide +kernel
theorem dX10_writeCell_49 : decode cX10_writeCell 49 = .ok (.iconst 1, 1) := by decide +kernel
theorem dX10_writeCell_50 : decode cX10_writeCell 50 = .ok (.ireturn, 1) := by decide +kernel
set_option maxRecDepth 20000 in
theorem rX10_writeCell_0 {E : EN} (hE : Ep E) {k : Nat} {mem : Mm} {Q : Int → Mm → Prop} {y p0 p1 p2 : Int} (hy : isYd y)
    (h : (R32 p0 → CI E mX11_isCell k mem [aI p0] (fun r2 m1 => ((r2 = 0 → Q 0 m1) ∧ (¬ r2 = 0 → (R32 p1 → CI E mX11_isFact k m1 [aI 0, aI p1] (fun r4 m3 => ((r4 = 0 → Q 0 m3) ∧ (¬ r4 = 0 → (R32 p2 → CI E mX11_isFact k m3 [aI 1, aI p2] (fun r6 m5 => ((r6 = 0 → Q 0 m5) ∧ (¬ r6 = 0 → (R32 p0 → R32 p1 → CI E mX10_mayWrite k m5 [aR y, aI p0, aI 0, aI p1] (fun r8 m7 => ((¬ r8 = 0 → (R32 p0 → R32 p1 → CV E mX10_write k m7 [aR y, aI p0, aI 0, aI p1] (fun m9 => (R32 p0 → R32 p2 → CV E mX10_write k m9 [aR y, aI p0, aI 1, aI p2] (fun m10 => Q 1 m10))))) ∧ (r8 = 0 → Q 0 m7))))))))))))))))) :
    VM E mX10_writeCell (k + 1) mem 0 [(0, aR y), (1, aI p0), (2, aI p1), (3, aI p2)] [] (retI Q) := by
  refine v_iload_n (pc := 0) dX10_writeCell_0 1 rfl ?_
  refine m_invSI (pc := 1) (mi' := mX11_isCell) (rest := []) [aI p0] dX10_writeCell_1 msX11_isCell stX11_isCell lkX10_53 rfl (Nat.le_of_ble_eq_true rfl) (fun hn => CI_mono (h (aaI hn 0 rfl)) (fun r2 m1 h => ?_))
  refine v_ifeq (pc := 4) (tgt := 33) dX10_writeCell_4 (by decide) (fun c1 => ?_) (fun c1 => ?_)
  · have h := h.1 c1
    refine v_iconst (pc := 33) dX10_writeCell_33 (by decide) ?_
    exact m_retZ (pc := 34) dX10_writeCell_34 rfl (by decide) h
  · have h := h.2 c1
    refine v_iconst (pc := 7) dX10_writeCell_7 (by decide) ?_
    refine v_iload_n (pc := 8) dX10_writeCell_8 2 rfl ?_
    refine m_invSI (pc := 9) (mi' := mX11_isFact) (rest := []) [aI 0, aI p1] dX10_writeCell_9 msX11_isFact stX11_isFact lkX10_57 rfl (Nat.le_of_ble_eq_true rfl) (fun hn => CI_mono (h (aaI hn 1 rfl)) (fun r4 m3 h => ?_))
    refine v_ifeq (pc := 12) (tgt := 33) dX10_writeCell_12 (by decide) (fun c1 => ?_) (fun c1 => ?_)
    · have h := h.1 c1
      refine v_iconst (pc := 33) dX10_writeCell_33 (by decide) ?_
      exact m_retZ (pc := 34) dX10_writeCell_34 rfl (by decide) h
    · have h := h.2 c1
      refine v_iconst (pc := 15) dX10_writeCell_15 (by decide) ?_
      refine v_iload_n (pc := 16) dX10_writeCell_16 3 rfl ?_
      refine m_invSI (pc := 17) (mi' := mX11_isFact) (rest := []) [aI 1, aI p2] dX10_writeCell_17 msX11_isFact stX11_isFact lkX10_57 rfl (Nat.le_of_ble_eq_true rfl) (fun hn => CI_mono (h (aaI hn 1 rfl)) (fun r6 m5 h => ?_))
      refine v_ifeq (pc := 20) (tgt := 33) dX10_writeCell_20 (by decide) (fun c1 => ?_) (fun c1 => ?_)
      · have h := h.1 c1
        refine v_iconst (pc := 33) dX10_writeCell_33 (by decide) ?_
        exact m_retZ (pc := 34) dX10_writeCell_34 rfl (by decide) h
      · have h := h.2 c1
        refine v_aload_n (pc := 23) dX10_writeCell_23 0 rfl ?_
        refine v_iload_n (pc := 24) dX10_writeCell_24 1 rfl ?_
        refine v_iconst (pc := 25) dX10_writeCell_25 (by decide) ?_
        refine v_iload_n (pc := 26) dX10_writeCell_26 2 rfl ?_
        refine m_invI (pc := 27) (mi' := mX10_mayWrite) (rest := []) [aI p0, aI 0, aI p1] dX10_writeCell_27 (yd0 hy) (by decide) rfl msX10_mayWrite mvX10_mayWrite lkX10_61 rfl (Nat.le_of_ble_eq_true rfl) (fun hn => CI_mono (h (aaI hn 1 rfl) (aaI hn 3 rfl)) (fun r8 m7 h => ?_))
        refine v_ifne (pc := 30) (tgt := 35) dX10_writeCell_30 (by decide) (fun c1 => ?_) (fun c1 => ?_)
        · have h := h.1 c1
          refine v_aload_n (pc := 35) dX10_writeCell_35 0 rfl ?_
          refine v_iload_n (pc := 36) dX10_writeCell_36 1 rfl ?_
          refine v_iconst (pc := 37) dX10_writeCell_37 (by decide) ?_
          refine v_iload_n (pc := 38) dX10_writeCell_38 2 rfl ?_
          refine m_invV (pc := 39) (mi' := mX10_write) (rest := []) [aI p0, aI 0, aI p1] dX10_writeCell_39 (yd0 hy) (by decide) rfl msX10_write mvX10_write lkX10_65 rfl (Nat.le_of_ble_eq_true rfl) (fun hn => CV_mono (h (aaI hn 1 rfl) (aaI hn 3 rfl)) (fun m9 h => ?_))
          refine v_aload_n (pc := 42) dX10_writeCell_42 0 rfl ?_
          refine v_iload_n (pc := 43) dX10_writeCell_43 1 rfl ?_
          refine v_iconst (pc := 44) dX10_writeCell_44 (by decide) ?_
          refine v_iload_n (pc := 45) dX10_writeCell_45 3 rfl ?_
          refine m_invV (pc := 46) (mi' := mX10_write) (rest := []) [aI p0, aI 1, aI p2] dX10_writeCell_46 (yd0 hy) (by decide) rfl msX10_write mvX10_write lkX10_65 rfl (Nat.le_of_ble_eq_true rfl) (fun hn => CV_mono (h (aaI hn 1 rfl) (aaI hn 3 rfl)) (fun m10 h => ?_))
          refine v_iconst (pc := 49) dX10_writeCell_49 (by decide) ?_
          exact m_retZ (pc := 50) dX10_writeCell_50 rfl (by decide) h
        · have h := h.2 c1
          refine v_iconst (pc := 33) dX10_writeCell_33 (by decide) ?_
          exact m_retZ (pc := 34) dX10_writeCell_34 rfl (by decide) h
theorem eX10_writeCell {E : EN} {k : Nat} {mem : Mm} {Q : Int → Mm → Prop} {y p0 p1 p2 : Int} (hr_p0 : R32 p0) (hr_p1 : R32 p1) (hr_p2 : R32 p2) (h : VM E mX10_writeCell (k + 1) mem 0 [(0, aR y), (1, aI p0), (2, aI p1), (3, aI p2)] [] (retI Q)) : CI E mX10_writeCell (k + 1) mem [aR y, aI p0, aI p1, aI p2] Q := CI_of rfl (Nat.le_of_ble_eq_true rfl) h (aNs_c (aNr_R _) (aNs_c (aNr_I hr_p0) (aNs_c (aNr_I hr_p1) (aNs_c (aNr_I hr_p2) (fun _ q => nomatch q)))))

theorem dX10_tell_0 : decode cX10_tell 0 = .ok (.aload_n 0, 1) := by decide +kernel
theorem dX10_tell_1 : decode cX10_tell 1 = .ok (.getfield 36, 3) := by decide +kernel
theorem dX10_tell_4 : decode cX10_tell 4 = .ok (.iconst 0, 1) := by decide +kernel
theorem dX10_tell_5 : decode cX10_tell 5 = .ok (.iload_n 1, 1) := by decide +kernel
theorem dX10_tell_6 : decode cX10_tell 6 = .ok (.iastore, 1) := by decide +kernel
theorem dX10_tell_7 : decode cX10_tell 7 = .ok (.aload_n 0, 1) := by decide +kernel
theorem dX10_tell_8 : decode cX10_tell 8 = .ok (.getfield 36, 3) := by decide +kernel
theorem dX10_tell_11 : decode cX10_tell 11 = .ok (.iconst 1, 1) := by decide +kernel
theorem dX10_tell_12 : decode cX10_tell 12 = .ok (.iload_n 3, 1) := by decide +kernel
theorem dX10_tell_13 : decode cX10_tell 13 = .ok (.iastore, 1) := by decide +kernel
theorem dX10_tell_14 : decode cX10_tell 14 = .ok (.aload_n 0, 1) := by decide +kernel
theorem dX10_tell_15 : decode cX10_tell 15 = .ok (.getfield 36, 3) := by decide +kernel
theorem dX10_tell_18 : decode cX10_tell 18 = .ok (.iconst 2, 1) := by decide +kernel
theorem dX10_tell_19 : decode cX10_tell 19 = .ok (.aload_n 0, 1) := by decide +kernel
theorem dX10_tell_20 : decode cX10_tell 20 = .ok (.getfield 9, 3) := by decide +kernel
theorem dX10_tell_23 : decode cX10_tell 23 = .ok (.iload_n 3, 1) := by decide +kernel
theorem dX10_tell_24 : decode cX10_tell 24 = .ok (.iaload, 1) := by decide +kernel
theorem dX10_tell_25 : decode cX10_tell 25 = .ok (.iastore, 1) := by decide +kernel
theorem dX10_tell_26 : decode cX10_tell 26 = .ok (.aload_n 0, 1) := by decide +kernel
theorem dX10_tell_27 : decode cX10_tell 27 = .ok (.getfield 36, 3) := by decide +kernel
theorem dX10_tell_30 : decode cX10_tell 30 = .ok (.iconst 3, 1) := by decide +kernel
theorem dX10_tell_31 : decode cX10_tell 31 = .ok (.aload_n 0, 1) := by decide +kernel
theorem dX10_tell_32 : decode cX10_tell 32 = .ok (.getfield 15, 3) := by decide +kernel
theorem dX10_tell_35 : decode cX10_tell 35 = .ok (.iload_n 3, 1) := by decide +kernel
theorem dX10_tell_36 : decode cX10_tell 36 = .ok (.iaload, 1) := by decide +kernel
theorem dX10_tell_37 : decode cX10_tell 37 = .ok (.iastore, 1) := by decide +kernel
theorem dX10_tell_38 : decode cX10_tell 38 = .ok (.aload_n 0, 1) := by decide +kernel
theorem dX10_tell_39 : decode cX10_tell 39 = .ok (.getfield 36, 3) := by decide +kernel
theorem dX10_tell_42 : decode cX10_tell 42 = .ok (.iconst 4, 1) := by decide +kernel
theorem dX10_tell_43 : decode cX10_tell 43 = .ok (.aload_n 0, 1) := by decide +kernel
theorem dX10_tell_44 : decode cX10_tell 44 = .ok (.getfield 18, 3) := by decide +kernel
theorem dX10_tell_47 : decode cX10_tell 47 = .ok (.iload_n 3, 1) := by decide +kernel
theorem dX10_tell_48 : decode cX10_tell 48 = .ok (.iaload, 1) := by decide +kernel
theorem dX10_tell_49 : decode cX10_tell 49 = .ok (.iastore, 1) := by decide +kernel
theorem dX10_tell_50 : decode cX10_tell 50 = .ok (.aload_n 0, 1) := by decide +kernel
theorem dX10_tell_51 : decode cX10_tell 51 = .ok (.getfield 36, 3) := by decide +kernel
theorem dX10_tell_54 : decode cX10_tell 54 = .ok (.iconst 5, 1) := by decide +kernel
theorem dX10_tell_55 : decode cX10_tell 55 = .ok (.iload_n 2, 1) := by decide +kernel
theorem dX10_tell_56 : decode cX10_tell 56 = .ok (.iastore, 1) := by decide +kernel
theorem dX10_tell_57 : decode cX10_tell 57 = .ok (.aload_n 0, 1) := by decide +kernel
theorem dX10_tell_58 : decode cX10_tell 58 = .ok (.getfield 36, 3) := by decide +kernel
theorem dX10_tell_61 : decode cX10_tell 61 = .ok (.bipush 6, 2) := by decide +kernel
theorem dX10_tell_63 : decode cX10_tell 63 = .ok (.iload_n 1, 1) := by decide +kernel
theorem dX10_tell_64 : decode cX10_tell 64 = .ok (.iconst (-1), 1) := by decide +kernel
theorem dX10_tell_65 : decode cX10_tell 65 = .ok (.if_icmp .ne 7, 3) := by decide +kernel
theorem dX10_tell_68 : decode cX10_tell 68 = .ok (.iconst (-1), 1) := by decide +kernel
theorem dX10_tell_69 : decode cX10_tell 69 = .ok (.goto 9, 3) := by decide +kernel
theorem dX10_tell_72 : decode cX10_tell 72 = .ok (.aload_n 0, 1) := by decide +kernel
theorem dX10_tell_73 : decode cX10_tell 73 = .ok (.getfield 27, 3) := by decide +kernel
theorem dX10_tell_76 : decode cX10_tell 76 = .ok (.iload_n 1, 1) := by decide +kernel
theorem dX10_tell_77 : decode cX10_tell 77 = .ok (.iaload, 1) := by decide +kernel
theorem dX10_tell_78 : decode cX10_tell 78 = .ok (.iastore, 1) := by decide +kernel
theorem dX10_tell_79 : decode cX10_tell 79 = .ok (.aload_n 0, 1) := by decide +kernel
theorem dX10_tell_80 : decode cX10_tell 80 = .ok (.getfield 36, 3) := by decide +kernel
theorem dX10_tell_83 : decode cX10_tell 83 = .ok (.bipush 7, 2) := by decide +kernel
theorem dX10_tell_85 : decode cX10_tell 85 = .ok (.iload_n 1, 1) := by decide +kernel
theorem dX10_tell_86 : decode cX10_tell 86 = .ok (.iconst (-1), 1) := by decide +kernel
theorem dX10_tell_87 : decode cX10_tell 87 = .ok (.if_icmp .ne 7, 3) := by decide +kernel
theorem dX10_tell_90 : decode cX10_tell 90 = .ok (.iconst 0, 1) := by decide +kernel
theorem dX10_tell_91 : decode cX10_tell 91 = .ok (.goto 9, 3) := by decide +kernel
theorem dX10_tell_94 : decode cX10_tell 94 = .ok (.aload_n 0, 1) := by decide +kernel
theorem dX10_tell_95 : decode cX10_tell 95 = .ok (.getfield 30, 3) := by decide +kernel
theorem dX10_tell_98 : decode cX10_tell 98 = .ok (.iload_n 1, 1) := by decide +kernel
theorem dX10_tell_99 : decode cX10_tell 99 = .ok (.iaload, 1) := by decide +kernel
theorem dX10_tell_100 : decode cX10_tell 100 = .ok (.iastore, 1) := by decide +kernel
theorem dX10_tell_101 : decode cX10_tell 101 = .ok (.aload_n 0, 1) := by decide +kernel
theorem dX10_tell_102 : decode cX10_tell 102 = .ok (.getfield 36, 3) := by decide +kernel
theorem dX10_tell_105 : decode cX10_tell 105 = .ok (.bipush 8, 2) := by decide +kernel
theorem dX10_tell_107 : decode cX10_tell 107 = .ok (.aload_n 0, 1) := by decide +kernel
theorem dX10_tell_108 : decode cX10_tell 108 = .ok (.getfield 33, 3) := by decide +kernel
theorem dX10_tell_111 : decode cX10_tell 111 = .ok (.iconst 0, 1) := by decide +kernel
theorem dX10_tell_112 : decode cX10_tell 112 = .ok (.iaload, 1) := by decide +kernel
theorem dX10_tell_113 : decode cX10_tell 113 = .ok (.iastore, 1) := by decide +kernel
theorem dX10_tell_114 : decode cX10_tell 114 = .ok (.aload_n 0, 1) := by decide +kernel
theorem dX10_tell_115 : decode cX10_tell 115 = .ok (.getfield 36, 3) := by decide +kernel
theorem dX10_tell_118 : decode cX10_tell 118 = .ok (.bipush 9, 2) := by decide +kernel
theorem dX10_tell_120 : decode cX10_tell 120 = .ok (.aload_n 0, 1) := by decide +kernel
theorem dX10_tell_121 : decode cX10_tell 121 = .ok (.getfield 33, 3) := by decide +kernel
theorem dX10_tell_124 : decode cX10_tell 124 = .ok (.iconst 3, 1) := by decide +kernel
theorem dX10_tell_125 : decode cX10_tell 125 = .ok (.iaload, 1) := by decide +kernel
theorem dX10_tell_126 : decode cX10_tell 126 = .ok (.iastore, 1) := by decide +kernel
theorem dX10_tell_127 : decode cX10_tell 127 = .ok (.return_, 1) := by decide +kernel
set_option maxRecDepth 20000 in
theorem rX10_tell_0 {E : EN} (hE : Ep E) {k : Nat} {mem : Mm} {Q : Mm → Prop} {y p0 p1 p2 : Int} (hy : isYd y)
    (h : (0 ≤ p2 ∧ p2 < 32) ∧ ((¬ p0 = (-1) → (0 ≤ p0 ∧ p0 < 10) ∧ ((¬ p0 = (-1) → Q (aUp (aUp (aUp (aUp (aUp (aUp (aUp (aUp (aUp (aUp mem (y + 9) 0 p0) (y + 9) 1 p2) (y + 9) 2 (mem (y + 1) p2)) (y + 9) 3 (mem (y + 2) p2)) (y + 9) 4 (mem (y + 3) p2)) (y + 9) 5 p1) (y + 9) 6 (mem (y + 6) p0)) (y + 9) 7 (mem (y + 7) p0)) (y + 9) 8 (mem (y + 8) 0)) (y + 9) 9 (mem (y + 8) 3))) ∧ (p0 = (-1) → Q (aUp (aUp (aUp (aUp (aUp (aUp (aUp (aUp (aUp (aUp mem (y + 9) 0 p0) (y + 9) 1 p2) (y + 9) 2 (mem (y + 1) p2)) (y + 9) 3 (mem (y + 2) p2)) (y + 9) 4 (mem (y + 3) p2)) (y + 9) 5 p1) (y + 9) 6 (mem (y + 6) p0)) (y + 9) 7 0) (y + 9) 8 (mem (y + 8) 0)) (y + 9) 9 (mem (y + 8) 3))))) ∧ (p0 = (-1) → ((¬ p0 = (-1) → (0 ≤ p0 ∧ p0 < 10) ∧ Q (aUp (aUp (aUp (aUp (aUp (aUp (aUp (aUp (aUp (aUp mem (y + 9) 0 p0) (y + 9) 1 p2) (y + 9) 2 (mem (y + 1) p2)) (y + 9) 3 (mem (y + 2) p2)) (y + 9) 4 (mem (y + 3) p2)) (y + 9) 5 p1) (y + 9) 6 (-1)) (y + 9) 7 (mem (y + 7) p0)) (y + 9) 8 (mem (y + 8) 0)) (y + 9) 9 (mem (y + 8) 3))) ∧ (p0 = (-1) → Q (aUp (aUp (aUp (aUp (aUp (aUp (aUp (aUp (aUp (aUp mem (y + 9) 0 p0) (y + 9) 1 p2) (y + 9) 2 (mem (y + 1) p2)) (y + 9) 3 (mem (y + 2) p2)) (y + 9) 4 (mem (y + 3) p2)) (y + 9) 5 p1) (y + 9) 6 (-1)) (y + 9) 7 0) (y + 9) 8 (mem (y + 8) 0)) (y + 9) 9 (mem (y + 8) 3))))))) :
    VM E mX10_tell k mem 0 [(0, aR y), (1, aI p0), (2, aI p1), (3, aI p2)] [] (retV Q) := by
  refine v_aload_n (pc := 0) dX10_tell_0 0 rfl ?_
  refine m_getfin (pc := 1) (v := (y + 9)) hE dX10_tell_1 flX10_36 rfl (yd0 hy) rfl ?_
  refine v_iconst (pc := 4) dX10_tell_4 (by decide) ?_
  refine v_iload_n (pc := 5) dX10_tell_5 1 rfl ?_
  refine v_iast (pc := 6) dX10_tell_6 (yd9 hy) (by omega) (by omega) ?_
  refine v_aload_n (pc := 7) dX10_tell_7 0 rfl ?_
  refine m_getfin (pc := 8) (v := (y + 9)) hE dX10_tell_8 flX10_36 rfl (yd0 hy) rfl ?_
  refine v_iconst (pc := 11) dX10_tell_11 (by decide) ?_
  refine v_iload_n (pc := 12) dX10_tell_12 3 rfl ?_
  refine v_iast (pc := 13) dX10_tell_13 (yd9 hy) (by omega) (by omega) ?_
  refine v_aload_n (pc := 14) dX10_tell_14 0 rfl ?_
  refine m_getfin (pc := 15) (v := (y + 9)) hE dX10_tell_15 flX10_36 rfl (yd0 hy) rfl ?_
  refine v_iconst (pc := 18) dX10_tell_18 (by decide) ?_
  refine v_aload_n (pc := 19) dX10_tell_19 0 rfl ?_
  refine m_getfin (pc := 20) (v := (y + 1)) hE dX10_tell_20 flX10_9 rfl (yd0 hy) rfl ?_
  refine v_iload_n (pc := 23) dX10_tell_23 3 rfl ?_
  obtain ⟨o1, h⟩ := h
  refine m_iald (pc := 24) (v := (mem (y + 1) p2)) dX10_tell_24 (yd1 hy) o1.1 o1.2 ((aUp_rn (by omega)).trans (aUp_rn (by omega))) ?_
  refine v_iast (pc := 25) dX10_tell_25 (yd9 hy) (by omega) (by omega) ?_
  refine v_aload_n (pc := 26) dX10_tell_26 0 rfl ?_
  refine m_getfin (pc := 27) (v := (y + 9)) hE dX10_tell_27 flX10_36 rfl (yd0 hy) rfl ?_
  refine v_iconst (pc := 30) dX10_tell_30 (by decide) ?_
  refine v_aload_n (pc := 31) dX10_tell_31 0 rfl ?_
  refine m_getfin (pc := 32) (v := (y + 2)) hE dX10_tell_32 flX10_15 rfl (yd0 hy) rfl ?_
  refine v_iload_n (pc := 35) dX10_tell_35 3 rfl ?_
  refine m_iald (pc := 36) (v := (mem (y + 2) p2)) dX10_tell_36 (yd2 hy) o1.1 o1.2 ((aUp_rn (by omega)).trans ((aUp_rn (by omega)).trans (aUp_rn (by omega)))) ?_
  refine v_iast (pc := 37) dX10_tell_37 (yd9 hy) (by omega) (by omega) ?_
  refine v_aload_n (pc := 38) dX10_tell_38 0 rfl ?_
  refine m_getfin (pc := 39) (v := (y + 9)) hE dX10_tell_39 flX10_36 rfl (yd0 hy) rfl ?_
  refine v_iconst (pc := 42) dX10_tell_42 (by decide) ?_
  refine v_aload_n (pc := 43) dX10_tell_43 0 rfl ?_
  refine m_getfin (pc := 44) (v := (y + 3)) hE dX10_tell_44 flX10_18 rfl (yd0 hy) rfl ?_
  refine v_iload_n (pc := 47) dX10_tell_47 3 rfl ?_
  refine m_iald (pc := 48) (v := (mem (y + 3) p2)) dX10_tell_48 (yd3 hy) o1.1 o1.2 ((aUp_rn (by omega)).trans ((aUp_rn (by omega)).trans ((aUp_rn (by omega)).trans (aUp_rn (by omega))))) ?_
  refine v_iast (pc := 49) dX10_tell_49 (yd9 hy) (by omega) (by omega) ?_
  refine v_aload_n (pc := 50) dX10_tell_50 0 rfl ?_
  refine m_getfin (pc := 51) (v := (y + 9)) hE dX10_tell_51 flX10_36 rfl (yd0 hy) rfl ?_
  refine v_iconst (pc := 54) dX10_tell_54 (by decide) ?_
  refine v_iload_n (pc := 55) dX10_tell_55 2 rfl ?_
  refine v_iast (pc := 56) dX10_tell_56 (yd9 hy) (by omega) (by omega) ?_
  refine v_aload_n (pc := 57) dX10_tell_57 0 rfl ?_
  refine m_getfin (pc := 58) (v := (y + 9)) hE dX10_tell_58 flX10_36 rfl (yd0 hy) rfl ?_
  refine v_bipush (pc := 61) dX10_tell_61 (by decide) ?_
  refine v_iload_n (pc := 63) dX10_tell_63 1 rfl ?_
  refine v_iconst (pc := 64) dX10_tell_64 (by decide) ?_
  refine v_icmpne (pc := 65) (tgt := 72) dX10_tell_65 (by decide) (fun c1 => ?_) (fun c1 => ?_)
  · have h := h.1 c1
    refine v_aload_n (pc := 72) dX10_tell_72 0 rfl ?_
    refine m_getfin (pc := 73) (v := (y + 6)) hE dX10_tell_73 flX10_27 rfl (yd0 hy) rfl ?_
    refine v_iload_n (pc := 76) dX10_tell_76 1 rfl ?_
    obtain ⟨o2, h⟩ := h
    refine m_iald (pc := 77) (v := (mem (y + 6) p0)) dX10_tell_77 (yd6 hy) o2.1 o2.2 ((aUp_rn (by omega)).trans ((aUp_rn (by omega)).trans ((aUp_rn (by omega)).trans ((aUp_rn (by omega)).trans ((aUp_rn (by omega)).trans (aUp_rn (by omega))))))) ?_
    refine v_iast (pc := 78) dX10_tell_78 (yd9 hy) (by omega) (by omega) ?_
    refine v_aload_n (pc := 79) dX10_tell_79 0 rfl ?_
    refine m_getfin (pc := 80) (v := (y + 9)) hE dX10_tell_80 flX10_36 rfl (yd0 hy) rfl ?_
    refine v_bipush (pc := 83) dX10_tell_83 (by decide) ?_
    refine v_iload_n (pc := 85) dX10_tell_85 1 rfl ?_
    refine v_iconst (pc := 86) dX10_tell_86 (by decide) ?_
    refine v_icmpne (pc := 87) (tgt := 94) dX10_tell_87 (by decide) (fun c1 => ?_) (fun c1 => ?_)
    · have h := h.1 c1
      refine v_aload_n (pc := 94) dX10_tell_94 0 rfl ?_
      refine m_getfin (pc := 95) (v := (y + 7)) hE dX10_tell_95 flX10_30 rfl (yd0 hy) rfl ?_
      refine v_iload_n (pc := 98) dX10_tell_98 1 rfl ?_
      refine m_iald (pc := 99) (v := (mem (y + 7) p0)) dX10_tell_99 (yd7 hy) o2.1 o2.2 ((aUp_rn (by omega)).trans ((aUp_rn (by omega)).trans ((aUp_rn (by omega)).trans ((aUp_rn (by omega)).trans ((aUp_rn (by omega)).trans ((aUp_rn (by omega)).trans (aUp_rn (by omega)))))))) ?_
      refine v_iast (pc := 100) dX10_tell_100 (yd9 hy) (by omega) (by omega) ?_
      refine v_aload_n (pc := 101) dX10_tell_101 0 rfl ?_
      refine m_getfin (pc := 102) (v := (y + 9)) hE dX10_tell_102 flX10_36 rfl (yd0 hy) rfl ?_
      refine v_bipush (pc := 105) dX10_tell_105 (by decide) ?_
      refine v_aload_n (pc := 107) dX10_tell_107 0 rfl ?_
      refine m_getfin (pc := 108) (v := (y + 8)) hE dX10_tell_108 flX10_33 rfl (yd0 hy) rfl ?_
      refine v_iconst (pc := 111) dX10_tell_111 (by decide) ?_
      refine m_iald (pc := 112) (v := (mem (y + 8) 0)) dX10_tell_112 (yd8 hy) (by omega) (by omega) ((aUp_rn (by omega)).trans ((aUp_rn (by omega)).trans ((aUp_rn (by omega)).trans ((aUp_rn (by omega)).trans ((aUp_rn (by omega)).trans ((aUp_rn (by omega)).trans ((aUp_rn (by omega)).trans (aUp_rn (by omega))))))))) ?_
      refine v_iast (pc := 113) dX10_tell_113 (yd9 hy) (by omega) (by omega) ?_
      refine v_aload_n (pc := 114) dX10_tell_114 0 rfl ?_
      refine m_getfin (pc := 115) (v := (y + 9)) hE dX10_tell_115 flX10_36 rfl (yd0 hy) rfl ?_
      refine v_bipush (pc := 118) dX10_tell_118 (by decide) ?_
      refine v_aload_n (pc := 120) dX10_tell_120 0 rfl ?_
      refine m_getfin (pc := 121) (v := (y + 8)) hE dX10_tell_121 flX10_33 rfl (yd0 hy) rfl ?_
      refine v_iconst (pc := 124) dX10_tell_124 (by decide) ?_
      refine m_iald (pc := 125) (v := (mem (y + 8) 3)) dX10_tell_125 (yd8 hy) (by omega) (by omega) ((aUp_rn (by omega)).trans ((aUp_rn (by omega)).trans ((aUp_rn (by omega)).trans ((aUp_rn (by omega)).trans ((aUp_rn (by omega)).trans ((aUp_rn (by omega)).trans ((aUp_rn (by omega)).trans ((aUp_rn (by omega)).trans (aUp_rn (by omega)))))))))) ?_
      refine v_iast (pc := 126) dX10_tell_126 (yd9 hy) (by omega) (by omega) ?_
      exact m_retV (pc := 127) dX10_tell_127 rfl h
    · have h := h.2 c1
      refine v_iconst (pc := 90) dX10_tell_90 (by decide) ?_
      refine v_goto (pc := 91) (tgt := 100) dX10_tell_91 (by decide) ?_
      refine v_iast (pc := 100) dX10_tell_100 (yd9 hy) (by omega) (by omega) ?_
      refine v_aload_n (pc := 101) dX10_tell_101 0 rfl ?_
      refine m_getfin (pc := 102) (v := (y + 9)) hE dX10_tell_102 flX10_36 rfl (yd0 hy) rfl ?_
      refine v_bipush (pc := 105) dX10_tell_105 (by decide) ?_
      refine v_aload_n (pc := 107) dX10_tell_107 0 rfl ?_
      refine m_getfin (pc := 108) (v := (y + 8)) hE dX10_tell_108 flX10_33 rfl (yd0 hy) rfl ?_
      refine v_iconst (pc := 111) dX10_tell_111 (by decide) ?_
      refine m_iald (pc := 112) (v := (mem (y + 8) 0)) dX10_tell_112 (yd8 hy) (by omega) (by omega) ((aUp_rn (by omega)).trans ((aUp_rn (by omega)).trans ((aUp_rn (by omega)).trans ((aUp_rn (by omega)).trans ((aUp_rn (by omega)).trans ((aUp_rn (by omega)).trans ((aUp_rn (by omega)).trans (aUp_rn (by omega))))))))) ?_
      refine v_iast (pc := 113) dX10_tell_113 (yd9 hy) (by omega) (by omega) ?_
      refine v_aload_n (pc := 114) dX10_tell_114 0 rfl ?_
      refine m_getfin (pc := 115) (v := (y + 9)) hE dX10_tell_115 flX10_36 rfl (yd0 hy) rfl ?_
      refine v_bipush (pc := 118) dX10_tell_118 (by decide) ?_
      refine v_aload_n (pc := 120) dX10_tell_120 0 rfl ?_
      refine m_getfin (pc := 121) (v := (y + 8)) hE dX10_tell_121 flX10_33 rfl (yd0 hy) rfl ?_
      refine v_iconst (pc := 124) dX10_tell_124 (by decide) ?_
      refine m_iald (pc := 125) (v := (mem (y + 8) 3)) dX10_tell_125 (yd8 hy) (by omega) (by omega) ((aUp_rn (by omega)).trans ((aUp_rn (by omega)).trans ((aUp_rn (by omega)).trans ((aUp_rn (by omega)).trans ((aUp_rn (by omega)).trans ((aUp_rn (by omega)).trans ((aUp_rn (by omega)).trans ((aUp_rn (by omega)).trans (aUp_rn (by omega)))))))))) ?_
      refine v_iast (pc := 126) dX10_tell_126 (yd9 hy) (by omega) (by omega) ?_
      exact m_retV (pc := 127) dX10_tell_127 rfl h
  · have h := h.2 c1
    refine v_iconst (pc := 68) dX10_tell_68 (by decide) ?_
    refine v_goto (pc := 69) (tgt := 78) dX10_tell_69 (by decide) ?_
    refine v_iast (pc := 78) dX10_tell_78 (yd9 hy) (by omega) (by omega) ?_
    refine v_aload_n (pc := 79) dX10_tell_79 0 rfl ?_
    refine m_getfin (pc := 80) (v := (y + 9)) hE dX10_tell_80 flX10_36 rfl (yd0 hy) rfl ?_
    refine v_bipush (pc := 83) dX10_tell_83 (by decide) ?_
    refine v_iload_n (pc := 85) dX10_tell_85 1 rfl ?_
    refine v_iconst (pc := 86) dX10_tell_86 (by decide) ?_
    refine v_icmpne (pc := 87) (tgt := 94) dX10_tell_87 (by decide) (fun c1 => ?_) (fun c1 => ?_)
    · have h := h.1 c1
      refine v_aload_n (pc := 94) dX10_tell_94 0 rfl ?_
      refine m_getfin (pc := 95) (v := (y + 7)) hE dX10_tell_95 flX10_30 rfl (yd0 hy) rfl ?_
      refine v_iload_n (pc := 98) dX10_tell_98 1 rfl ?_
      obtain ⟨o3, h⟩ := h
      refine m_iald (pc := 99) (v := (mem (y + 7) p0)) dX10_tell_99 (yd7 hy) o3.1 o3.2 ((aUp_rn (by omega)).trans ((aUp_rn (by omega)).trans ((aUp_rn (by omega)).trans ((aUp_rn (by omega)).trans ((aUp_rn (by omega)).trans ((aUp_rn (by omega)).trans (aUp_rn (by omega)))))))) ?_
      refine v_iast (pc := 100) dX10_tell_100 (yd9 hy) (by omega) (by omega) ?_
      refine v_aload_n (pc := 101) dX10_tell_101 0 rfl ?_
      refine m_getfin (pc := 102) (v := (y + 9)) hE dX10_tell_102 flX10_36 rfl (yd0 hy) rfl ?_
      refine v_bipush (pc := 105) dX10_tell_105 (by decide) ?_
      refine v_aload_n (pc := 107) dX10_tell_107 0 rfl ?_
      refine m_getfin (pc := 108) (v := (y + 8)) hE dX10_tell_108 flX10_33 rfl (yd0 hy) rfl ?_
      refine v_iconst (pc := 111) dX10_tell_111 (by decide) ?_
      refine m_iald (pc := 112) (v := (mem (y + 8) 0)) dX10_tell_112 (yd8 hy) (by omega) (by omega) ((aUp_rn (by omega)).trans ((aUp_rn (by omega)).trans ((aUp_rn (by omega)).trans ((aUp_rn (by omega)).trans ((aUp_rn (by omega)).trans ((aUp_rn (by omega)).trans ((aUp_rn (by omega)).trans (aUp_rn (by omega))))))))) ?_
      refine v_iast (pc := 113) dX10_tell_113 (yd9 hy) (by omega) (by omega) ?_
      refine v_aload_n (pc := 114) dX10_tell_114 0 rfl ?_
      refine m_getfin (pc := 115) (v := (y + 9)) hE dX10_tell_115 flX10_36 rfl (yd0 hy) rfl ?_
      refine v_bipush (pc := 118) dX10_tell_118 (by decide) ?_
      refine v_aload_n (pc := 120) dX10_tell_120 0 rfl ?_
      refine m_getfin (pc := 121) (v := (y + 8)) hE dX10_tell_121 flX10_33 rfl (yd0 hy) rfl ?_
      refine v_iconst (pc := 124) dX10_tell_124 (by decide) ?_
      refine m_iald (pc := 125) (v := (mem (y + 8) 3)) dX10_tell_125 (yd8 hy) (by omega) (by omega) ((aUp_rn (by omega)).trans ((aUp_rn (by omega)).trans ((aUp_rn (by omega)).trans ((aUp_rn (by omega)).trans ((aUp_rn (by omega)).trans ((aUp_rn (by omega)).trans ((aUp_rn (by omega)).trans ((aUp_rn (by omega)).trans (aUp_rn (by omega)))))))))) ?_
      refine v_iast (pc := 126) dX10_tell_126 (yd9 hy) (by omega) (by omega) ?_
      exact m_retV (pc := 127) dX10_tell_127 rfl h
    · have h := h.2 c1
      refine v_iconst (pc := 90) dX10_tell_90 (by decide) ?_
      refine v_goto (pc := 91) (tgt := 100) dX10_tell_91 (by decide) ?_
      refine v_iast (pc := 100) dX10_tell_100 (yd9 hy) (by omega) (by omega) ?_
      refine v_aload_n (pc := 101) dX10_tell_101 0 rfl ?_
      refine m_getfin (pc := 102) (v := (y + 9)) hE dX10_tell_102 flX10_36 rfl (yd0 hy) rfl ?_
      refine v_bipush (pc := 105) dX10_tell_105 (by decide) ?_
      refine v_aload_n (pc := 107) dX10_tell_107 0 rfl ?_
      refine m_getfin (pc := 108) (v := (y + 8)) hE dX10_tell_108 flX10_33 rfl (yd0 hy) rfl ?_
      refine v_iconst (pc := 111) dX10_tell_111 (by decide) ?_
      refine m_iald (pc := 112) (v := (mem (y + 8) 0)) dX10_tell_112 (yd8 hy) (by omega) (by omega) ((aUp_rn (by omega)).trans ((aUp_rn (by omega)).trans ((aUp_rn (by omega)).trans ((aUp_rn (by omega)).trans ((aUp_rn (by omega)).trans ((aUp_rn (by omega)).trans ((aUp_rn (by omega)).trans (aUp_rn (by omega))))))))) ?_
      refine v_iast (pc := 113) dX10_tell_113 (yd9 hy) (by omega) (by omega) ?_
      refine v_aload_n (pc := 114) dX10_tell_114 0 rfl ?_
      refine m_getfin (pc := 115) (v := (y + 9)) hE dX10_tell_115 flX10_36 rfl (yd0 hy) rfl ?_
      refine v_bipush (pc := 118) dX10_tell_118 (by decide) ?_
      refine v_aload_n (pc := 120) dX10_tell_120 0 rfl ?_
      refine m_getfin (pc := 121) (v := (y + 8)) hE dX10_tell_121 flX10_33 rfl (yd0 hy) rfl ?_
      refine v_iconst (pc := 124) dX10_tell_124 (by decide) ?_
      refine m_iald (pc := 125) (v := (mem (y + 8) 3)) dX10_tell_125 (yd8 hy) (by omega) (by omega) ((aUp_rn (by omega)).trans ((aUp_rn (by omega)).trans ((aUp_rn (by omega)).trans ((aUp_rn (by omega)).trans ((aUp_rn (by omega)).trans ((aUp_rn (by omega)).trans ((aUp_rn (by omega)).trans ((aUp_rn (by omega)).trans (aUp_rn (by omega)))))))))) ?_
      refine v_iast (pc := 126) dX10_tell_126 (yd9 hy) (by omega) (by omega) ?_
      exact m_retV (pc := 127) dX10_tell_127 rfl h
theorem eX10_tell {E : EN} {k : Nat} {mem : Mm} {Q : Mm → Prop} {y p0 p1 p2 : Int} (hr_p0 : R32 p0) (hr_p1 : R32 p1) (hr_p2 : R32 p2) (h : VM E mX10_tell k mem 0 [(0, aR y), (1, aI p0), (2, aI p1), (3, aI p2)] [] (retV Q)) : CV E mX10_tell k mem [aR y, aI p0, aI p1, aI p2] Q := CV_of rfl (Nat.le_of_ble_eq_true rfl) h (aNs_c (aNr_R _) (aNs_c (aNr_I hr_p0) (aNs_c (aNr_I hr_p1) (aNs_c (aNr_I hr_p2) (fun _ q => nomatch q)))))

theorem dX10_movesOf_0 : decode cX10_movesOf 0 = .ok (.aload_n 0, 1) := by decide +kernel
theorem dX10_movesOf_1 : decode cX10_movesOf 1 = .ok (.getfield 69, 3) := by decide +kernel
theorem dX10_movesOf_4 : decode cX10_movesOf 4 = .ok (.ifnonnull 5, 3) := by decide +kernel
theorem dX10_movesOf_7 : decode cX10_movesOf 7 = .ok (.iconst 1, 1) := by decide +kernel
theorem dX10_movesOf_8 : decode cX10_movesOf 8 = .ok (.ireturn, 1) := by decide +kernel
theorem dX10_movesOf_9 : decode cX10_movesOf 9 = .ok (.aload_n 0, 1) := by decide +kernel
theorem dX10_movesOf_10 : decode cX10_movesOf 10 = .ok (.iload_n 1, 1) := by decide +kernel
theorem dX10_movesOf_11 : decode cX10_movesOf 11 = .ok (.aload_n 0, 1) := by decide +kernel
theorem dX10_movesOf_12 : decode cX10_movesOf 12 = .ok (.getfield 24, 3) := by decide +kernel
theorem dX10_movesOf_15 : decode cX10_movesOf 15 = .ok (.iload_n 1, 1) := by decide +kernel
theorem dX10_movesOf_16 : decode cX10_movesOf 16 = .ok (.iaload, 1) := by decide +kernel
theorem dX10_movesOf_17 : decode cX10_movesOf 17 = .ok (.aload_n 0, 1) := by decide +kernel
theorem dX10_movesOf_18 : decode cX10_movesOf 18 = .ok (.getfield 21, 3) := by decide +kernel
theorem dX10_movesOf_21 : decode cX10_movesOf 21 = .ok (.iload_n 1, 1) := by decide +kernel
theorem dX10_movesOf_22 : decode cX10_movesOf 22 = .ok (.iaload, 1) := by decide +kernel
theorem dX10_movesOf_23 : decode cX10_movesOf 23 = .ok (.invokevirtual 73, 3) := by decide +kernel
theorem dX10_movesOf_26 : decode cX10_movesOf 26 = .ok (.aload_n 0, 1) := by decide +kernel
theorem dX10_movesOf_27 : decode cX10_movesOf 27 = .ok (.getfield 69, 3) := by decide +kernel
theorem dX10_movesOf_30 : decode cX10_movesOf 30 = .ok (.iconst 0, 1) := by decide +kernel
theorem dX10_movesOf_31 : decode cX10_movesOf 31 = .ok (.aload_n 0, 1) := by decide +kernel
theorem dX10_movesOf_32 : decode cX10_movesOf 32 = .ok (.getfield 36, 3) := by decide +kernel
theorem dX10_movesOf_35 : decode cX10_movesOf 35 = .ok (.invokevirtual 76, 3) := by decide +kernel
theorem dX10_movesOf_38 : decode cX10_movesOf 38 = .ok (.istore_n 2, 1) := by decide +kernel
theorem dX10_movesOf_39 : decode cX10_movesOf 39 = .ok (.iload_n 2, 1) := by decide +kernel
theorem dX10_movesOf_40 : decode cX10_movesOf 40 = .ok (.ldc 82, 2) := by decide +kernel
theorem dX10_movesOf_42 : decode cX10_movesOf 42 = .ok (.if_icmp .ne 7, 3) := by decide +kernel
theorem dX10_movesOf_45 : decode cX10_movesOf 45 = .ok (.iconst 1, 1) := by decide +kernel
theorem dX10_movesOf_46 : decode cX10_movesOf 46 = .ok (.goto 13, 3) := by decide +kernel
theorem dX10_movesOf_49 : decode cX10_movesOf 49 = .ok (.iconst 0, 1) := by decide +kernel
theorem dX10_movesOf_50 : decode cX10_movesOf 50 = .ok (.bipush 9, 2) := by decide +kernel
theorem dX10_movesOf_52 : decode cX10_movesOf 52 = .ok (.iload_n 2, 1) := by decide +kernel
theorem dX10_movesOf_53 : decode cX10_movesOf 53 = .ok (.invokestatic 83, 3) := by decide +kernel
theorem dX10_movesOf_56 : decode cX10_movesOf 56 = .ok (.invokestatic 89, 3) := by decide +kernel
theorem dX10_movesOf_59 : decode cX10_movesOf 59 = .ok (.ireturn, 1) := by decide +kernel
set_option maxRecDepth 20000 in
theorem rX10_movesOf_0 {E : EN} (hE : Ep E) {k : Nat} {mem : Mm} {Q : Int → Mm → Prop} {y p0 : Int} (hy : isYd y)
    (h : ((0 ≤ (mem y 9) → (0 ≤ p0 ∧ p0 < 10) ∧ (R32 p0 → R32 (mem (y + 5) p0) → R32 (mem (y + 4) p0) → CV E mX10_tell k mem [aR y, aI p0, aI (mem (y + 5) p0), aI (mem (y + 4) p0)] (fun m2 => (isTx (m2 y 9)) ∧ (CI E mX9_last k m2 [aR (m2 y 9), aI 0, aR (y + 9)] (fun r5 m4 => ((¬ r5 = (-2147483648) → Q (max 0 (min 9 r5)) m4) ∧ (r5 = (-2147483648) → Q 1 m4))))))) ∧ ((mem y 9) < 0 → Q 1 mem))) :
    VM E mX10_movesOf (k + 1) mem 0 [(0, aR y), (1, aI p0)] [] (retI Q) := by
  refine v_aload_n (pc := 0) dX10_movesOf_0 0 rfl ?_
  refine m_getf (pc := 1) (t := 2) (v := (mem y 9)) dX10_movesOf_1 flX10_69 rfl (yd0 hy) rfl ?_
  refine v_ifnonnull (pc := 4) (tgt := 9) dX10_movesOf_4 (by decide) (fun c1 => ?_) (fun c1 => ?_)
  · have h := h.1 c1
    refine v_aload_n (pc := 9) dX10_movesOf_9 0 rfl ?_
    refine v_iload_n (pc := 10) dX10_movesOf_10 1 rfl ?_
    refine v_aload_n (pc := 11) dX10_movesOf_11 0 rfl ?_
    refine m_getfin (pc := 12) (v := (y + 5)) hE dX10_movesOf_12 flX10_24 rfl (yd0 hy) rfl ?_
    refine v_iload_n (pc := 15) dX10_movesOf_15 1 rfl ?_
    obtain ⟨o1, h⟩ := h
    refine m_iald (pc := 16) (v := (mem (y + 5) p0)) dX10_movesOf_16 (yd5 hy) o1.1 o1.2 rfl ?_
    refine v_aload_n (pc := 17) dX10_movesOf_17 0 rfl ?_
    refine m_getfin (pc := 18) (v := (y + 4)) hE dX10_movesOf_18 flX10_21 rfl (yd0 hy) rfl ?_
    refine v_iload_n (pc := 21) dX10_movesOf_21 1 rfl ?_
    refine m_iald (pc := 22) (v := (mem (y + 4) p0)) dX10_movesOf_22 (yd4 hy) o1.1 o1.2 rfl ?_
    refine m_invV (pc := 23) (mi' := mX10_tell) (rest := []) [aI p0, aI (mem (y + 5) p0), aI (mem (y + 4) p0)] dX10_movesOf_23 (yd0 hy) (by decide) rfl msX10_tell mvX10_tell lkX10_73 rfl (Nat.le_of_ble_eq_true rfl) (fun hn => CV_mono (h (aaI hn 1 rfl) (aaI hn 2 rfl) (aaI hn 3 rfl)) (fun m2 h => ?_))
    refine v_aload_n (pc := 26) dX10_movesOf_26 0 rfl ?_
    refine m_getf (pc := 27) (t := 2) (v := (m2 y 9)) dX10_movesOf_27 flX10_69 rfl (yd0 hy) rfl ?_
    refine v_iconst (pc := 30) dX10_movesOf_30 (by decide) ?_
    refine v_aload_n (pc := 31) dX10_movesOf_31 0 rfl ?_
    refine m_getfin (pc := 32) (v := (y + 9)) hE dX10_movesOf_32 flX10_36 rfl (yd0 hy) rfl ?_
    obtain ⟨o3, h⟩ := h
    refine m_invI (pc := 35) (mi' := mX9_last) (rest := []) [aI 0, aR (y + 9)] dX10_movesOf_35 (tx0 o3) (by decide) rfl msX9_last mvX9_last lkX10_76 rfl (Nat.le_of_ble_eq_true rfl) (fun hn => CI_mono (h) (fun r5 m4 h => ?_))
    refine v_istore_n (pc := 38) (al2 := [(2, aI r5), (0, aR y), (1, aI p0)]) dX10_movesOf_38 (by decide) rfl ?_
    refine v_iload_n (pc := 39) dX10_movesOf_39 0 rfl ?_
    refine v_ldc (pc := 40) (n := (-2147483648)) dX10_movesOf_40 cnX10_82 (by decide) ?_
    refine v_icmpne (pc := 42) (tgt := 49) dX10_movesOf_42 (by decide) (fun c1 => ?_) (fun c1 => ?_)
    · have h := h.1 c1
      refine v_iconst (pc := 49) dX10_movesOf_49 (by decide) ?_
      refine v_bipush (pc := 50) dX10_movesOf_50 (by decide) ?_
      refine v_iload_n (pc := 52) dX10_movesOf_52 0 rfl ?_
      refine m_mmin (pc := 53) dX10_movesOf_53 lmX10_83 sM_min iM cM_min (Nat.le_of_ble_eq_true rfl) ?_
      refine m_mmax (pc := 56) dX10_movesOf_56 lmX10_89 sM_max iM cM_max (Nat.le_of_ble_eq_true rfl) ?_
      exact m_retI (pc := 59) dX10_movesOf_59 rfl h
    · have h := h.2 c1
      refine v_iconst (pc := 45) dX10_movesOf_45 (by decide) ?_
      refine v_goto (pc := 46) (tgt := 59) dX10_movesOf_46 (by decide) ?_
      exact m_retI (pc := 59) dX10_movesOf_59 rfl h
  · have h := h.2 c1
    refine v_iconst (pc := 7) dX10_movesOf_7 (by decide) ?_
    exact m_retI (pc := 8) dX10_movesOf_8 rfl h
theorem eX10_movesOf {E : EN} {k : Nat} {mem : Mm} {Q : Int → Mm → Prop} {y p0 : Int} (hr_p0 : R32 p0) (h : VM E mX10_movesOf (k + 1) mem 0 [(0, aR y), (1, aI p0)] [] (retI Q)) : CI E mX10_movesOf (k + 1) mem [aR y, aI p0] Q := CI_of rfl (Nat.le_of_ble_eq_true rfl) h (aNs_c (aNr_R _) (aNs_c (aNr_I hr_p0) (fun _ q => nomatch q)))

theorem dX10_digsOf_0 : decode cX10_digsOf 0 = .ok (.aload_n 0, 1) := by decide +kernel
theorem dX10_digsOf_1 : decode cX10_digsOf 1 = .ok (.getfield 27, 3) := by decide +kernel
theorem dX10_digsOf_4 : decode cX10_digsOf 4 = .ok (.iload_n 1, 1) := by decide +kernel
theorem dX10_digsOf_5 : decode cX10_digsOf 5 = .ok (.iaload, 1) := by decide +kernel
theorem dX10_digsOf_6 : decode cX10_digsOf 6 = .ok (.iconst 1, 1) := by decide +kernel
theorem dX10_digsOf_7 : decode cX10_digsOf 7 = .ok (.if_icmp .ne 7, 3) := by decide +kernel
theorem dX10_digsOf_10 : decode cX10_digsOf 10 = .ok (.iconst 2, 1) := by decide +kernel
theorem dX10_digsOf_11 : decode cX10_digsOf 11 = .ok (.goto 4, 3) := by decide +kernel
theorem dX10_digsOf_14 : decode cX10_digsOf 14 = .ok (.iconst 4, 1) := by decide +kernel
theorem dX10_digsOf_15 : decode cX10_digsOf 15 = .ok (.istore_n 2, 1) := by decide +kernel
theorem dX10_digsOf_16 : decode cX10_digsOf 16 = .ok (.aload_n 0, 1) := by decide +kernel
theorem dX10_digsOf_17 : decode cX10_digsOf 17 = .ok (.getfield 69, 3) := by decide +kernel
theorem dX10_digsOf_20 : decode cX10_digsOf 20 = .ok (.ifnonnull 5, 3) := by decide +kernel
theorem dX10_digsOf_23 : decode cX10_digsOf 23 = .ok (.iload_n 2, 1) := by decide +kernel
theorem dX10_digsOf_24 : decode cX10_digsOf 24 = .ok (.ireturn, 1) := by decide +kernel
theorem dX10_digsOf_25 : decode cX10_digsOf 25 = .ok (.aload_n 0, 1) := by decide +kernel
theorem dX10_digsOf_26 : decode cX10_digsOf 26 = .ok (.iload_n 1, 1) := by decide +kernel
theorem dX10_digsOf_27 : decode cX10_digsOf 27 = .ok (.aload_n 0, 1) := by decide +kernel
theorem dX10_digsOf_28 : decode cX10_digsOf 28 = .ok (.getfield 24, 3) := by decide +kernel
theorem dX10_digsOf_31 : decode cX10_digsOf 31 = .ok (.iload_n 1, 1) := by decide +kernel
theorem dX10_digsOf_32 : decode cX10_digsOf 32 = .ok (.iaload, 1) := by decide +kernel
theorem dX10_digsOf_33 : decode cX10_digsOf 33 = .ok (.aload_n 0, 1) := by decide +kernel
theorem dX10_digsOf_34 : decode cX10_digsOf 34 = .ok (.getfield 21, 3) := by decide +kernel
theorem dX10_digsOf_37 : decode cX10_digsOf 37 = .ok (.iload_n 1, 1) := by decide +kernel
theorem dX10_digsOf_38 : decode cX10_digsOf 38 = .ok (.iaload, 1) := by decide +kernel
theorem dX10_digsOf_39 : decode cX10_digsOf 39 = .ok (.invokevirtual 73, 3) := by decide +kernel
theorem dX10_digsOf_42 : decode cX10_digsOf 42 = .ok (.aload_n 0, 1) := by decide +kernel
theorem dX10_digsOf_43 : decode cX10_digsOf 43 = .ok (.getfield 69, 3) := by decide +kernel
theorem dX10_digsOf_46 : decode cX10_digsOf 46 = .ok (.iconst 1, 1) := by decide +kernel
theorem dX10_digsOf_47 : decode cX10_digsOf 47 = .ok (.aload_n 0, 1) := by decide +kernel
theorem dX10_digsOf_48 : decode cX10_digsOf 48 = .ok (.getfield 36, 3) := by decide +kernel
theorem dX10_digsOf_51 : decode cX10_digsOf 51 = .ok (.invokevirtual 76, 3) := by decide +kernel
theorem dX10_digsOf_54 : decode cX10_digsOf 54 = .ok (.istore_n 3, 1) := by decide +kernel
theorem dX10_digsOf_55 : decode cX10_digsOf 55 = .ok (.iload_n 3, 1) := by decide +kernel
theorem dX10_digsOf_56 : decode cX10_digsOf 56 = .ok (.ldc 82, 2) := by decide +kernel
theorem dX10_digsOf_58 : decode cX10_digsOf 58 = .ok (.if_icmp .ne 7, 3) := by decide +kernel
theorem dX10_digsOf_61 : decode cX10_digsOf 61 = .ok (.iload_n 2, 1) := by decide +kernel
theorem dX10_digsOf_62 : decode cX10_digsOf 62 = .ok (.goto 13, 3) := by decide +kernel
theorem dX10_digsOf_65 : decode cX10_digsOf 65 = .ok (.iconst 1, 1) := by decide +kernel
theorem dX10_digsOf_66 : decode cX10_digsOf 66 = .ok (.bipush 99, 2) := by decide +kernel
theorem dX10_digsOf_68 : decode cX10_digsOf 68 = .ok (.iload_n 3, 1) := by decide +kernel
theorem dX10_digsOf_69 : decode cX10_digsOf 69 = .ok (.invokestatic 83, 3) := by decide +kernel
theorem dX10_digsOf_72 : decode cX10_digsOf 72 = .ok (.invokestatic 89, 3) := by decide +kernel
theorem dX10_digsOf_75 : decode cX10_digsOf 75 = .ok (.ireturn, 1) := by decide +kernel
set_option maxRecDepth 20000 in
theorem rX10_digsOf_0 {E : EN} (hE : Ep E) {k : Nat} {mem : Mm} {Q : Int → Mm → Prop} {y p0 : Int} (hy : isYd y)
    (h : (0 ≤ p0 ∧ p0 < 10) ∧ ((¬ (mem (y + 6) p0) = 1 → ((0 ≤ (mem y 9) → (R32 p0 → R32 (mem (y + 5) p0) → R32 (mem (y + 4) p0) → CV E mX10_tell k mem [aR y, aI p0, aI (mem (y + 5) p0), aI (mem (y + 4) p0)] (fun m2 => (isTx (m2 y 9)) ∧ (CI E mX9_last k m2 [aR (m2 y 9), aI 1, aR (y + 9)] (fun r5 m4 => ((¬ r5 = (-2147483648) → Q (max 1 (min 99 r5)) m4) ∧ (r5 = (-2147483648) → Q 4 m4))))))) ∧ ((mem y 9) < 0 → Q 4 mem))) ∧ ((mem (y + 6) p0) = 1 → ((0 ≤ (mem y 9) → (R32 p0 → R32 (mem (y + 5) p0) → R32 (mem (y + 4) p0) → CV E mX10_tell k mem [aR y, aI p0, aI (mem (y + 5) p0), aI (mem (y + 4) p0)] (fun m6 => (isTx (m6 y 9)) ∧ (CI E mX9_last k m6 [aR (m6 y 9), aI 1, aR (y + 9)] (fun r9 m8 => ((¬ r9 = (-2147483648) → Q (max 1 (min 99 r9)) m8) ∧ (r9 = (-2147483648) → Q 2 m8))))))) ∧ ((mem y 9) < 0 → Q 2 mem))))) :
    VM E mX10_digsOf (k + 1) mem 0 [(0, aR y), (1, aI p0)] [] (retI Q) := by
  refine v_aload_n (pc := 0) dX10_digsOf_0 0 rfl ?_
  refine m_getfin (pc := 1) (v := (y + 6)) hE dX10_digsOf_1 flX10_27 rfl (yd0 hy) rfl ?_
  refine v_iload_n (pc := 4) dX10_digsOf_4 1 rfl ?_
  obtain ⟨o1, h⟩ := h
  refine m_iald (pc := 5) (v := (mem (y + 6) p0)) dX10_digsOf_5 (yd6 hy) o1.1 o1.2 rfl ?_
  refine v_iconst (pc := 6) dX10_digsOf_6 (by decide) ?_
  refine v_icmpne (pc := 7) (tgt := 14) dX10_digsOf_7 (by decide) (fun c1 => ?_) (fun c1 => ?_)
  · have h := h.1 c1
    refine v_iconst (pc := 14) dX10_digsOf_14 (by decide) ?_
    refine v_istore_n (pc := 15) (al2 := [(2, aI 4), (0, aR y), (1, aI p0)]) dX10_digsOf_15 (by decide) rfl ?_
    refine v_aload_n (pc := 16) dX10_digsOf_16 1 rfl ?_
    refine m_getf (pc := 17) (t := 2) (v := (mem y 9)) dX10_digsOf_17 flX10_69 rfl (yd0 hy) rfl ?_
    refine v_ifnonnull (pc := 20) (tgt := 25) dX10_digsOf_20 (by decide) (fun c1 => ?_) (fun c1 => ?_)
    · have h := h.1 c1
      refine v_aload_n (pc := 25) dX10_digsOf_25 1 rfl ?_
      refine v_iload_n (pc := 26) dX10_digsOf_26 2 rfl ?_
      refine v_aload_n (pc := 27) dX10_digsOf_27 1 rfl ?_
      refine m_getfin (pc := 28) (v := (y + 5)) hE dX10_digsOf_28 flX10_24 rfl (yd0 hy) rfl ?_
      refine v_iload_n (pc := 31) dX10_digsOf_31 2 rfl ?_
      refine m_iald (pc := 32) (v := (mem (y + 5) p0)) dX10_digsOf_32 (yd5 hy) o1.1 o1.2 rfl ?_
      refine v_aload_n (pc := 33) dX10_digsOf_33 1 rfl ?_
      refine m_getfin (pc := 34) (v := (y + 4)) hE dX10_digsOf_34 flX10_21 rfl (yd0 hy) rfl ?_
      refine v_iload_n (pc := 37) dX10_digsOf_37 2 rfl ?_
      refine m_iald (pc := 38) (v := (mem (y + 4) p0)) dX10_digsOf_38 (yd4 hy) o1.1 o1.2 rfl ?_
      refine m_invV (pc := 39) (mi' := mX10_tell) (rest := []) [aI p0, aI (mem (y + 5) p0), aI (mem (y + 4) p0)] dX10_digsOf_39 (yd0 hy) (by decide) rfl msX10_tell mvX10_tell lkX10_73 rfl (Nat.le_of_ble_eq_true rfl) (fun hn => CV_mono (h (aaI hn 1 rfl) (aaI hn 2 rfl) (aaI hn 3 rfl)) (fun m2 h => ?_))
      refine v_aload_n (pc := 42) dX10_digsOf_42 1 rfl ?_
      refine m_getf (pc := 43) (t := 2) (v := (m2 y 9)) dX10_digsOf_43 flX10_69 rfl (yd0 hy) rfl ?_
      refine v_iconst (pc := 46) dX10_digsOf_46 (by decide) ?_
      refine v_aload_n (pc := 47) dX10_digsOf_47 1 rfl ?_
      refine m_getfin (pc := 48) (v := (y + 9)) hE dX10_digsOf_48 flX10_36 rfl (yd0 hy) rfl ?_
      obtain ⟨o3, h⟩ := h
      refine m_invI (pc := 51) (mi' := mX9_last) (rest := []) [aI 1, aR (y + 9)] dX10_digsOf_51 (tx0 o3) (by decide) rfl msX9_last mvX9_last lkX10_76 rfl (Nat.le_of_ble_eq_true rfl) (fun hn => CI_mono (h) (fun r5 m4 h => ?_))
      refine v_istore_n (pc := 54) (al2 := [(3, aI r5), (2, aI 4), (0, aR y), (1, aI p0)]) dX10_digsOf_54 (by decide) rfl ?_
      refine v_iload_n (pc := 55) dX10_digsOf_55 0 rfl ?_
      refine v_ldc (pc := 56) (n := (-2147483648)) dX10_digsOf_56 cnX10_82 (by decide) ?_
      refine v_icmpne (pc := 58) (tgt := 65) dX10_digsOf_58 (by decide) (fun c1 => ?_) (fun c1 => ?_)
      · have h := h.1 c1
        refine v_iconst (pc := 65) dX10_digsOf_65 (by decide) ?_
        refine v_bipush (pc := 66) dX10_digsOf_66 (by decide) ?_
        refine v_iload_n (pc := 68) dX10_digsOf_68 0 rfl ?_
        refine m_mmin (pc := 69) dX10_digsOf_69 lmX10_83 sM_min iM cM_min (Nat.le_of_ble_eq_true rfl) ?_
        refine m_mmax (pc := 72) dX10_digsOf_72 lmX10_89 sM_max iM cM_max (Nat.le_of_ble_eq_true rfl) ?_
        exact m_retI (pc := 75) dX10_digsOf_75 rfl h
      · have h := h.2 c1
        refine v_iload_n (pc := 61) dX10_digsOf_61 1 rfl ?_
        refine v_goto (pc := 62) (tgt := 75) dX10_digsOf_62 (by decide) ?_
        exact m_retI (pc := 75) dX10_digsOf_75 rfl h
    · have h := h.2 c1
      refine v_iload_n (pc := 23) dX10_digsOf_23 0 rfl ?_
      exact m_retI (pc := 24) dX10_digsOf_24 rfl h
  · have h := h.2 c1
    refine v_iconst (pc := 10) dX10_digsOf_10 (by decide) ?_
    refine v_goto (pc := 11) (tgt := 15) dX10_digsOf_11 (by decide) ?_
    refine v_istore_n (pc := 15) (al2 := [(2, aI 2), (0, aR y), (1, aI p0)]) dX10_digsOf_15 (by decide) rfl ?_
    refine v_aload_n (pc := 16) dX10_digsOf_16 1 rfl ?_
    refine m_getf (pc := 17) (t := 2) (v := (mem y 9)) dX10_digsOf_17 flX10_69 rfl (yd0 hy) rfl ?_
    refine v_ifnonnull (pc := 20) (tgt := 25) dX10_digsOf_20 (by decide) (fun c1 => ?_) (fun c1 => ?_)
    · have h := h.1 c1
      refine v_aload_n (pc := 25) dX10_digsOf_25 1 rfl ?_
      refine v_iload_n (pc := 26) dX10_digsOf_26 2 rfl ?_
      refine v_aload_n (pc := 27) dX10_digsOf_27 1 rfl ?_
      refine m_getfin (pc := 28) (v := (y + 5)) hE dX10_digsOf_28 flX10_24 rfl (yd0 hy) rfl ?_
      refine v_iload_n (pc := 31) dX10_digsOf_31 2 rfl ?_
      refine m_iald (pc := 32) (v := (mem (y + 5) p0)) dX10_digsOf_32 (yd5 hy) o1.1 o1.2 rfl ?_
      refine v_aload_n (pc := 33) dX10_digsOf_33 1 rfl ?_
      refine m_getfin (pc := 34) (v := (y + 4)) hE dX10_digsOf_34 flX10_21 rfl (yd0 hy) rfl ?_
      refine v_iload_n (pc := 37) dX10_digsOf_37 2 rfl ?_
      refine m_iald (pc := 38) (v := (mem (y + 4) p0)) dX10_digsOf_38 (yd4 hy) o1.1 o1.2 rfl ?_
      refine m_invV (pc := 39) (mi' := mX10_tell) (rest := []) [aI p0, aI (mem (y + 5) p0), aI (mem (y + 4) p0)] dX10_digsOf_39 (yd0 hy) (by decide) rfl msX10_tell mvX10_tell lkX10_73 rfl (Nat.le_of_ble_eq_true rfl) (fun hn => CV_mono (h (aaI hn 1 rfl) (aaI hn 2 rfl) (aaI hn 3 rfl)) (fun m6 h => ?_))
      refine v_aload_n (pc := 42) dX10_digsOf_42 1 rfl ?_
      refine m_getf (pc := 43) (t := 2) (v := (m6 y 9)) dX10_digsOf_43 flX10_69 rfl (yd0 hy) rfl ?_
      refine v_iconst (pc := 46) dX10_digsOf_46 (by decide) ?_
      refine v_aload_n (pc := 47) dX10_digsOf_47 1 rfl ?_
      refine m_getfin (pc := 48) (v := (y + 9)) hE dX10_digsOf_48 flX10_36 rfl (yd0 hy) rfl ?_
      obtain ⟨o7, h⟩ := h
      refine m_invI (pc := 51) (mi' := mX9_last) (rest := []) [aI 1, aR (y + 9)] dX10_digsOf_51 (tx0 o7) (by decide) rfl msX9_last mvX9_last lkX10_76 rfl (Nat.le_of_ble_eq_true rfl) (fun hn => CI_mono (h) (fun r9 m8 h => ?_))
      refine v_istore_n (pc := 54) (al2 := [(3, aI r9), (2, aI 2), (0, aR y), (1, aI p0)]) dX10_digsOf_54 (by decide) rfl ?_
      refine v_iload_n (pc := 55) dX10_digsOf_55 0 rfl ?_
      refine v_ldc (pc := 56) (n := (-2147483648)) dX10_digsOf_56 cnX10_82 (by decide) ?_
      refine v_icmpne (pc := 58) (tgt := 65) dX10_digsOf_58 (by decide) (fun c1 => ?_) (fun c1 => ?_)
      · have h := h.1 c1
        refine v_iconst (pc := 65) dX10_digsOf_65 (by decide) ?_
        refine v_bipush (pc := 66) dX10_digsOf_66 (by decide) ?_
        refine v_iload_n (pc := 68) dX10_digsOf_68 0 rfl ?_
        refine m_mmin (pc := 69) dX10_digsOf_69 lmX10_83 sM_min iM cM_min (Nat.le_of_ble_eq_true rfl) ?_
        refine m_mmax (pc := 72) dX10_digsOf_72 lmX10_89 sM_max iM cM_max (Nat.le_of_ble_eq_true rfl) ?_
        exact m_retI (pc := 75) dX10_digsOf_75 rfl h
      · have h := h.2 c1
        refine v_iload_n (pc := 61) dX10_digsOf_61 1 rfl ?_
        refine v_goto (pc := 62) (tgt := 75) dX10_digsOf_62 (by decide) ?_
        exact m_retI (pc := 75) dX10_digsOf_75 rfl h
    · have h := h.2 c1
      refine v_iload_n (pc := 23) dX10_digsOf_23 0 rfl ?_
      exact m_retI (pc := 24) dX10_digsOf_24 rfl h
theorem eX10_digsOf {E : EN} {k : Nat} {mem : Mm} {Q : Int → Mm → Prop} {y p0 : Int} (hr_p0 : R32 p0) (h : VM E mX10_digsOf (k + 1) mem 0 [(0, aR y), (1, aI p0)] [] (retI Q)) : CI E mX10_digsOf (k + 1) mem [aR y, aI p0] Q := CI_of rfl (Nat.le_of_ble_eq_true rfl) h (aNs_c (aNr_R _) (aNs_c (aNr_I hr_p0) (fun _ q => nomatch q)))

theorem dX10_mayGo_0 : decode cX10_mayGo 0 = .ok (.aload_n 0, 1) := by decide +kernel
theorem dX10_mayGo_1 : decode cX10_mayGo 1 = .ok (.getfield 69, 3) := by decide +kernel
theorem dX10_mayGo_4 : decode cX10_mayGo 4 = .ok (.ifnull 39, 3) := by decide +kernel
theorem dX10_mayGo_7 : decode cX10_mayGo 7 = .ok (.aload_n 0, 1) := by decide +kernel
theorem dX10_mayGo_8 : decode cX10_mayGo 8 = .ok (.getfield 69, 3) := by decide +kernel
theorem dX10_mayGo_11 : decode cX10_mayGo 11 = .ok (.iconst 2, 1) := by decide +kernel
theorem dX10_mayGo_12 : decode cX10_mayGo 12 = .ok (.invokevirtual 92, 3) := by decide +kernel
theorem dX10_mayGo_15 : decode cX10_mayGo 15 = .ok (.ifCond .eq 28, 3) := by decide +kernel
theorem dX10_mayGo_18 : decode cX10_mayGo 18 = .ok (.aload_n 0, 1) := by decide +kernel
theorem dX10_mayGo_19 : decode cX10_mayGo 19 = .ok (.iload_n 1, 1) := by decide +kernel
theorem dX10_mayGo_20 : decode cX10_mayGo 20 = .ok (.aload_n 0, 1) := by decide +kernel
theorem dX10_mayGo_21 : decode cX10_mayGo 21 = .ok (.getfield 24, 3) := by decide +kernel
theorem dX10_mayGo_24 : decode cX10_mayGo 24 = .ok (.iload_n 1, 1) := by decide +kernel
theorem dX10_mayGo_25 : decode cX10_mayGo 25 = .ok (.iaload, 1) := by decide +kernel
theorem dX10_mayGo_26 : decode cX10_mayGo 26 = .ok (.iload_n 2, 1) := by decide +kernel
theorem dX10_mayGo_27 : decode cX10_mayGo 27 = .ok (.invokevirtual 73, 3) := by decide +kernel
theorem dX10_mayGo_30 : decode cX10_mayGo 30 = .ok (.aload_n 0, 1) := by decide +kernel
theorem dX10_mayGo_31 : decode cX10_mayGo 31 = .ok (.getfield 69, 3) := by decide +kernel
theorem dX10_mayGo_34 : decode cX10_mayGo 34 = .ok (.iconst 2, 1) := by decide +kernel
theorem dX10_mayGo_35 : decode cX10_mayGo 35 = .ok (.aload_n 0, 1) := by decide +kernel
theorem dX10_mayGo_36 : decode cX10_mayGo 36 = .ok (.getfield 36, 3) := by decide +kernel
theorem dX10_mayGo_39 : decode cX10_mayGo 39 = .ok (.invokevirtual 95, 3) := by decide +kernel
theorem dX10_mayGo_42 : decode cX10_mayGo 42 = .ok (.ireturn, 1) := by decide +kernel
theorem dX10_mayGo_43 : decode cX10_mayGo 43 = .ok (.aload_n 0, 1) := by decide +kernel
theorem dX10_mayGo_44 : decode cX10_mayGo 44 = .ok (.getfield 9, 3) := by decide +kernel
theorem dX10_mayGo_47 : decode cX10_mayGo 47 = .ok (.iload_n 2, 1) := by decide +kernel
theorem dX10_mayGo_48 : decode cX10_mayGo 48 = .ok (.iaload, 1) := by decide +kernel
theorem dX10_mayGo_49 : decode cX10_mayGo 49 = .ok (.iconst 1, 1) := by decide +kernel
theorem dX10_mayGo_50 : decode cX10_mayGo 50 = .ok (.if_icmp .ne 21, 3) := by decide +kernel
theorem dX10_mayGo_53 : decode cX10_mayGo 53 = .ok (.aload_n 0, 1) := by decide +kernel
theorem dX10_mayGo_54 : decode cX10_mayGo 54 = .ok (.getfield 18, 3) := by decide +kernel
theorem dX10_mayGo_57 : decode cX10_mayGo 57 = .ok (.iload_n 2, 1) := by decide +kernel
theorem dX10_mayGo_58 : decode cX10_mayGo 58 = .ok (.iaload, 1) := by decide +kernel
theorem dX10_mayGo_59 : decode cX10_mayGo 59 = .ok (.iconst 1, 1) := by decide +kernel
theorem dX10_mayGo_60 : decode cX10_mayGo 60 = .ok (.if_icmp .ne 7, 3) := by decide +kernel
theorem dX10_mayGo_63 : decode cX10_mayGo 63 = .ok (.iconst 1, 1) := by decide +kernel
theorem dX10_mayGo_64 : decode cX10_mayGo 64 = .ok (.goto 22, 3) := by decide +kernel
theorem dX10_mayGo_67 : decode cX10_mayGo 67 = .ok (.iconst 0, 1) := by decide +kernel
theorem dX10_mayGo_68 : decode cX10_mayGo 68 = .ok (.goto 18, 3) := by decide +kernel
theorem dX10_mayGo_71 : decode cX10_mayGo 71 = .ok (.aload_n 0, 1) := by decide +kernel
theorem dX10_mayGo_72 : decode cX10_mayGo 72 = .ok (.getfield 9, 3) := by decide +kernel
theorem dX10_mayGo_75 : decode cX10_mayGo 75 = .ok (.iload_n 2, 1) := by decide +kernel
theorem dX10_mayGo_76 : decode cX10_mayGo 76 = .ok (.iaload, 1) := by decide +kernel
theorem dX10_mayGo_77 : decode cX10_mayGo 77 = .ok (.iconst 3, 1) := by decide +kernel
theorem dX10_mayGo_78 : decode cX10_mayGo 78 = .ok (.if_icmp .eq 7, 3) := by decide +kernel
theorem dX10_mayGo_81 : decode cX10_mayGo 81 = .ok (.iconst 1, 1) := by decide +kernel
theorem dX10_mayGo_82 : decode cX10_mayGo 82 = .ok (.goto 4, 3) := by decide +kernel
theorem dX10_mayGo_85 : decode cX10_mayGo 85 = .ok (.iconst 0, 1) := by decide +kernel
theorem dX10_mayGo_86 : decode cX10_mayGo 86 = .ok (.ireturn, 1) := by decide +kernel
set_option maxRecDepth 20000 in
theorem rX10_mayGo_0 {E : EN} (hE : Ep E) {k : Nat} {mem : Mm} {Q : Int → Mm → Prop} {y p0 p1 : Int} (hy : isYd y)
    (h : (((mem y 9) < 0 → (0 ≤ p1 ∧ p1 < 32) ∧ ((¬ (mem (y + 1) p1) = 1 → (((mem (y + 1) p1) = 3 → Q 0 mem) ∧ (¬ (mem (y + 1) p1) = 3 → Q 1 mem))) ∧ ((mem (y + 1) p1) = 1 → ((¬ (mem (y + 3) p1) = 1 → Q 0 mem) ∧ ((mem (y + 3) p1) = 1 → Q 1 mem))))) ∧ (0 ≤ (mem y 9) → (isTx (mem y 9)) ∧ (CI E mX9_has k mem [aR (mem y 9), aI 2] (fun r4 m3 => ((r4 = 0 → (0 ≤ p1 ∧ p1 < 32) ∧ ((¬ (m3 (y + 1) p1) = 1 → (((m3 (y + 1) p1) = 3 → Q 0 m3) ∧ (¬ (m3 (y + 1) p1) = 3 → Q 1 m3))) ∧ ((m3 (y + 1) p1) = 1 → ((¬ (m3 (y + 3) p1) = 1 → Q 0 m3) ∧ ((m3 (y + 3) p1) = 1 → Q 1 m3))))) ∧ (¬ r4 = 0 → (0 ≤ p0 ∧ p0 < 10) ∧ (R32 p0 → R32 (m3 (y + 5) p0) → R32 p1 → CV E mX10_tell k m3 [aR y, aI p0, aI (m3 (y + 5) p0), aI p1] (fun m7 => (isTx (m7 y 9)) ∧ (CI E mX9_holds k m7 [aR (m7 y 9), aI 2, aR (y + 9)] (fun r10 m9 => (r10 = 0 ∨ r10 = 1) ∧ Q r10 m9))))))))))) :
    VM E mX10_mayGo (k + 1) mem 0 [(0, aR y), (1, aI p0), (2, aI p1)] [] (retI Q) := by
  refine v_aload_n (pc := 0) dX10_mayGo_0 0 rfl ?_
  refine m_getf (pc := 1) (t := 2) (v := (mem y 9)) dX10_mayGo_1 flX10_69 rfl (yd0 hy) rfl ?_
  refine v_ifnull (pc := 4) (tgt := 43) dX10_mayGo_4 (by decide) (fun c1 => ?_) (fun c1 => ?_)
  · have h := h.1 c1
    refine v_aload_n (pc := 43) dX10_mayGo_43 0 rfl ?_
    refine m_getfin (pc := 44) (v := (y + 1)) hE dX10_mayGo_44 flX10_9 rfl (yd0 hy) rfl ?_
    refine v_iload_n (pc := 47) dX10_mayGo_47 2 rfl ?_
    obtain ⟨o1, h⟩ := h
    refine m_iald (pc := 48) (v := (mem (y + 1) p1)) dX10_mayGo_48 (yd1 hy) o1.1 o1.2 rfl ?_
    refine v_iconst (pc := 49) dX10_mayGo_49 (by decide) ?_
    refine v_icmpne (pc := 50) (tgt := 71) dX10_mayGo_50 (by decide) (fun c1 => ?_) (fun c1 => ?_)
    · have h := h.1 c1
      refine v_aload_n (pc := 71) dX10_mayGo_71 0 rfl ?_
      refine m_getfin (pc := 72) (v := (y + 1)) hE dX10_mayGo_72 flX10_9 rfl (yd0 hy) rfl ?_
      refine v_iload_n (pc := 75) dX10_mayGo_75 2 rfl ?_
      refine m_iald (pc := 76) (v := (mem (y + 1) p1)) dX10_mayGo_76 (yd1 hy) o1.1 o1.2 rfl ?_
      refine v_iconst (pc := 77) dX10_mayGo_77 (by decide) ?_
      refine v_icmpeq (pc := 78) (tgt := 85) dX10_mayGo_78 (by decide) (fun c1 => ?_) (fun c1 => ?_)
      · have h := h.1 c1
        refine v_iconst (pc := 85) dX10_mayGo_85 (by decide) ?_
        exact m_retZ (pc := 86) dX10_mayGo_86 rfl (by decide) h
      · have h := h.2 c1
        refine v_iconst (pc := 81) dX10_mayGo_81 (by decide) ?_
        refine v_goto (pc := 82) (tgt := 86) dX10_mayGo_82 (by decide) ?_
        exact m_retZ (pc := 86) dX10_mayGo_86 rfl (by decide) h
    · have h := h.2 c1
      refine v_aload_n (pc := 53) dX10_mayGo_53 0 rfl ?_
      refine m_getfin (pc := 54) (v := (y + 3)) hE dX10_mayGo_54 flX10_18 rfl (yd0 hy) rfl ?_
      refine v_iload_n (pc := 57) dX10_mayGo_57 2 rfl ?_
      refine m_iald (pc := 58) (v := (mem (y + 3) p1)) dX10_mayGo_58 (yd3 hy) o1.1 o1.2 rfl ?_
      refine v_iconst (pc := 59) dX10_mayGo_59 (by decide) ?_
      refine v_icmpne (pc := 60) (tgt := 67) dX10_mayGo_60 (by decide) (fun c1 => ?_) (fun c1 => ?_)
      · have h := h.1 c1
        refine v_iconst (pc := 67) dX10_mayGo_67 (by decide) ?_
        refine v_goto (pc := 68) (tgt := 86) dX10_mayGo_68 (by decide) ?_
        exact m_retZ (pc := 86) dX10_mayGo_86 rfl (by decide) h
      · have h := h.2 c1
        refine v_iconst (pc := 63) dX10_mayGo_63 (by decide) ?_
        refine v_goto (pc := 64) (tgt := 86) dX10_mayGo_64 (by decide) ?_
        exact m_retZ (pc := 86) dX10_mayGo_86 rfl (by decide) h
  · have h := h.2 c1
    refine v_aload_n (pc := 7) dX10_mayGo_7 0 rfl ?_
    refine m_getf (pc := 8) (t := 2) (v := (mem y 9)) dX10_mayGo_8 flX10_69 rfl (yd0 hy) rfl ?_
    refine v_iconst (pc := 11) dX10_mayGo_11 (by decide) ?_
    obtain ⟨o2, h⟩ := h
    refine m_invI (pc := 12) (mi' := mX9_has) (rest := []) [aI 2] dX10_mayGo_12 (tx0 o2) (by decide) rfl msX9_has mvX9_has lkX10_92 rfl (Nat.le_of_ble_eq_true rfl) (fun hn => CI_mono (h) (fun r4 m3 h => ?_))
    refine v_ifeq (pc := 15) (tgt := 43) dX10_mayGo_15 (by decide) (fun c1 => ?_) (fun c1 => ?_)
    · have h := h.1 c1
      refine v_aload_n (pc := 43) dX10_mayGo_43 0 rfl ?_
      refine m_getfin (pc := 44) (v := (y + 1)) hE dX10_mayGo_44 flX10_9 rfl (yd0 hy) rfl ?_
      refine v_iload_n (pc := 47) dX10_mayGo_47 2 rfl ?_
      obtain ⟨o5, h⟩ := h
      refine m_iald (pc := 48) (v := (m3 (y + 1) p1)) dX10_mayGo_48 (yd1 hy) o5.1 o5.2 rfl ?_
      refine v_iconst (pc := 49) dX10_mayGo_49 (by decide) ?_
      refine v_icmpne (pc := 50) (tgt := 71) dX10_mayGo_50 (by decide) (fun c1 => ?_) (fun c1 => ?_)
      · have h := h.1 c1
        refine v_aload_n (pc := 71) dX10_mayGo_71 0 rfl ?_
        refine m_getfin (pc := 72) (v := (y + 1)) hE dX10_mayGo_72 flX10_9 rfl (yd0 hy) rfl ?_
        refine v_iload_n (pc := 75) dX10_mayGo_75 2 rfl ?_
        refine m_iald (pc := 76) (v := (m3 (y + 1) p1)) dX10_mayGo_76 (yd1 hy) o5.1 o5.2 rfl ?_
        refine v_iconst (pc := 77) dX10_mayGo_77 (by decide) ?_
        refine v_icmpeq (pc := 78) (tgt := 85) dX10_mayGo_78 (by decide) (fun c1 => ?_) (fun c1 => ?_)
        · have h := h.1 c1
          refine v_iconst (pc := 85) dX10_mayGo_85 (by decide) ?_
          exact m_retZ (pc := 86) dX10_mayGo_86 rfl (by decide) h
        · have h := h.2 c1
          refine v_iconst (pc := 81) dX10_mayGo_81 (by decide) ?_
          refine v_goto (pc := 82) (tgt := 86) dX10_mayGo_82 (by decide) ?_
          exact m_retZ (pc := 86) dX10_mayGo_86 rfl (by decide) h
      · have h := h.2 c1
        refine v_aload_n (pc := 53) dX10_mayGo_53 0 rfl ?_
        refine m_getfin (pc := 54) (v := (y + 3)) hE dX10_mayGo_54 flX10_18 rfl (yd0 hy) rfl ?_
        refine v_iload_n (pc := 57) dX10_mayGo_57 2 rfl ?_
        refine m_iald (pc := 58) (v := (m3 (y + 3) p1)) dX10_mayGo_58 (yd3 hy) o5.1 o5.2 rfl ?_
        refine v_iconst (pc := 59) dX10_mayGo_59 (by decide) ?_
        refine v_icmpne (pc := 60) (tgt := 67) dX10_mayGo_60 (by decide) (fun c1 => ?_) (fun c1 => ?_)
        · have h := h.1 c1
          refine v_iconst (pc := 67) dX10_mayGo_67 (by decide) ?_
          refine v_goto (pc := 68) (tgt := 86) dX10_mayGo_68 (by decide) ?_
          exact m_retZ (pc := 86) dX10_mayGo_86 rfl (by decide) h
        · have h := h.2 c1
          refine v_iconst (pc := 63) dX10_mayGo_63 (by decide) ?_
          refine v_goto (pc := 64) (tgt := 86) dX10_mayGo_64 (by decide) ?_
          exact m_retZ (pc := 86) dX10_mayGo_86 rfl (by decide) h
    · have h := h.2 c1
      refine v_aload_n (pc := 18) dX10_mayGo_18 0 rfl ?_
      refine v_iload_n (pc := 19) dX10_mayGo_19 1 rfl ?_
      refine v_aload_n (pc := 20) dX10_mayGo_20 0 rfl ?_
      refine m_getfin (pc := 21) (v := (y + 5)) hE dX10_mayGo_21 flX10_24 rfl (yd0 hy) rfl ?_
      refine v_iload_n (pc := 24) dX10_mayGo_24 1 rfl ?_
      obtain ⟨o6, h⟩ := h
      refine m_iald (pc := 25) (v := (m3 (y + 5) p0)) dX10_mayGo_25 (yd5 hy) o6.1 o6.2 rfl ?_
      refine v_iload_n (pc := 26) dX10_mayGo_26 2 rfl ?_
      refine m_invV (pc := 27) (mi' := mX10_tell) (rest := []) [aI p0, aI (m3 (y + 5) p0), aI p1] dX10_mayGo_27 (yd0 hy) (by decide) rfl msX10_tell mvX10_tell lkX10_73 rfl (Nat.le_of_ble_eq_true rfl) (fun hn => CV_mono (h (aaI hn 1 rfl) (aaI hn 2 rfl) (aaI hn 3 rfl)) (fun m7 h => ?_))
      refine v_aload_n (pc := 30) dX10_mayGo_30 0 rfl ?_
      refine m_getf (pc := 31) (t := 2) (v := (m7 y 9)) dX10_mayGo_31 flX10_69 rfl (yd0 hy) rfl ?_
      refine v_iconst (pc := 34) dX10_mayGo_34 (by decide) ?_
      refine v_aload_n (pc := 35) dX10_mayGo_35 0 rfl ?_
      refine m_getfin (pc := 36) (v := (y + 9)) hE dX10_mayGo_36 flX10_36 rfl (yd0 hy) rfl ?_
      obtain ⟨o8, h⟩ := h
      refine m_invI (pc := 39) (mi' := mX9_holds) (rest := []) [aI 2, aR (y + 9)] dX10_mayGo_39 (tx0 o8) (by decide) rfl msX9_holds mvX9_holds lkX10_95 rfl (Nat.le_of_ble_eq_true rfl) (fun hn => CI_mono (h) (fun r10 m9 h => ?_))
      obtain ⟨o11, h⟩ := h
      exact m_retZ (pc := 42) dX10_mayGo_42 rfl o11 h
theorem eX10_mayGo {E : EN} {k : Nat} {mem : Mm} {Q : Int → Mm → Prop} {y p0 p1 : Int} (hr_p0 : R32 p0) (hr_p1 : R32 p1) (h : VM E mX10_mayGo (k + 1) mem 0 [(0, aR y), (1, aI p0), (2, aI p1)] [] (retI Q)) : CI E mX10_mayGo (k + 1) mem [aR y, aI p0, aI p1] Q := CI_of rfl (Nat.le_of_ble_eq_true rfl) h (aNs_c (aNr_R _) (aNs_c (aNr_I hr_p0) (aNs_c (aNr_I hr_p1) (fun _ q => nomatch q))))

theorem dX10_isBarred_0 : decode cX10_isBarred 0 = .ok (.aload_n 0, 1) := by decide +kernel
theorem dX10_isBarred_1 : decode cX10_isBarred 1 = .ok (.getfield 69, 3) := by decide +kernel
theorem dX10_isBarred_4 : decode cX10_isBarred 4 = .ok (.ifnonnull 5, 3) := by decide +kernel
theorem dX10_isBarred_7 : decode cX10_isBarred 7 = .ok (.iconst 0, 1) := by decide +kernel
theorem dX10_isBarred_8 : decode cX10_isBarred 8 = .ok (.ireturn, 1) := by decide +kernel
theorem dX10_isBarred_9 : decode cX10_isBarred 9 = .ok (.aload_n 0, 1) := by decide +kernel
theorem dX10_isBarred_10 : decode cX10_isBarred 10 = .ok (.iconst (-1), 1) := by decide +kernel
theorem dX10_isBarred_11 : decode cX10_isBarred 11 = .ok (.iload_n 1, 1) := by decide +kernel
theorem dX10_isBarred_12 : decode cX10_isBarred 12 = .ok (.iload_n 2, 1) := by decide +kernel
theorem dX10_isBarred_13 : decode cX10_isBarred 13 = .ok (.invokevirtual 73, 3) := by decide +kernel
theorem dX10_isBarred_16 : decode cX10_isBarred 16 = .ok (.aload_n 0, 1) := by decide +kernel
theorem dX10_isBarred_17 : decode cX10_isBarred 17 = .ok (.getfield 69, 3) := by decide +kernel
theorem dX10_isBarred_20 : decode cX10_isBarred 20 = .ok (.iconst 3, 1) := by decide +kernel
theorem dX10_isBarred_21 : decode cX10_isBarred 21 = .ok (.aload_n 0, 1) := by decide +kernel
theorem dX10_isBarred_22 : decode cX10_isBarred 22 = .ok (.getfield 36, 3) := by decide +kernel
theorem dX10_isBarred_25 : decode cX10_isBarred 25 = .ok (.invokevirtual 95, 3) := by decide +kernel
theorem dX10_isBarred_28 : decode cX10_isBarred 28 = .ok (.ireturn, 1) := by decide +kernel
set_option maxRecDepth 20000 in
theorem rX10_isBarred_0 {E : EN} (hE : Ep E) {k : Nat} {mem : Mm} {Q : Int → Mm → Prop} {y p0 p1 : Int} (hy : isYd y)
    (h : ((0 ≤ (mem y 9) → (R32 p0 → R32 p1 → CV E mX10_tell k mem [aR y, aI (-1), aI p0, aI p1] (fun m1 => (isTx (m1 y 9)) ∧ (CI E mX9_holds k m1 [aR (m1 y 9), aI 3, aR (y + 9)] (fun r4 m3 => (r4 = 0 ∨ r4 = 1) ∧ Q r4 m3))))) ∧ ((mem y 9) < 0 → Q 0 mem))) :
    VM E mX10_isBarred (k + 1) mem 0 [(0, aR y), (1, aI p0), (2, aI p1)] [] (retI Q) := by
  refine v_aload_n (pc := 0) dX10_isBarred_0 0 rfl ?_
  refine m_getf (pc := 1) (t := 2) (v := (mem y 9)) dX10_isBarred_1 flX10_69 rfl (yd0 hy) rfl ?_
  refine v_ifnonnull (pc := 4) (tgt := 9) dX10_isBarred_4 (by decide) (fun c1 => ?_) (fun c1 => ?_)
  · have h := h.1 c1
    refine v_aload_n (pc := 9) dX10_isBarred_9 0 rfl ?_
    refine v_iconst (pc := 10) dX10_isBarred_10 (by decide) ?_
    refine v_iload_n (pc := 11) dX10_isBarred_11 1 rfl ?_
    refine v_iload_n (pc := 12) dX10_isBarred_12 2 rfl ?_
    refine m_invV (pc := 13) (mi' := mX10_tell) (rest := []) [aI (-1), aI p0, aI p1] dX10_isBarred_13 (yd0 hy) (by decide) rfl msX10_tell mvX10_tell lkX10_73 rfl (Nat.le_of_ble_eq_true rfl) (fun hn => CV_mono (h (aaI hn 2 rfl) (aaI hn 3 rfl)) (fun m1 h => ?_))
    refine v_aload_n (pc := 16) dX10_isBarred_16 0 rfl ?_
    refine m_getf (pc := 17) (t := 2) (v := (m1 y 9)) dX10_isBarred_17 flX10_69 rfl (yd0 hy) rfl ?_
    refine v_iconst (pc := 20) dX10_isBarred_20 (by decide) ?_
    refine v_aload_n (pc := 21) dX10_isBarred_21 0 rfl ?_
    refine m_getfin (pc := 22) (v := (y + 9)) hE dX10_isBarred_22 flX10_36 rfl (yd0 hy) rfl ?_
    obtain ⟨o2, h⟩ := h
    refine m_invI (pc := 25) (mi' := mX9_holds) (rest := []) [aI 3, aR (y + 9)] dX10_isBarred_25 (tx0 o2) (by decide) rfl msX9_holds mvX9_holds lkX10_95 rfl (Nat.le_of_ble_eq_true rfl) (fun hn => CI_mono (h) (fun r4 m3 h => ?_))
    obtain ⟨o5, h⟩ := h
    exact m_retZ (pc := 28) dX10_isBarred_28 rfl o5 h
  · have h := h.2 c1
    refine v_iconst (pc := 7) dX10_isBarred_7 (by decide) ?_
    exact m_retZ (pc := 8) dX10_isBarred_8 rfl (by decide) h
theorem eX10_isBarred {E : EN} {k : Nat} {mem : Mm} {Q : Int → Mm → Prop} {y p0 p1 : Int} (hr_p0 : R32 p0) (hr_p1 : R32 p1) (h : VM E mX10_isBarred (k + 1) mem 0 [(0, aR y), (1, aI p0), (2, aI p1)] [] (retI Q)) : CI E mX10_isBarred (k + 1) mem [aR y, aI p0, aI p1] Q := CI_of rfl (Nat.le_of_ble_eq_true rfl) h (aNs_c (aNr_R _) (aNs_c (aNr_I hr_p0) (aNs_c (aNr_I hr_p1) (fun _ q => nomatch q))))

theorem dX10_isFreeGrass_0 : decode cX10_isFreeGrass 0 = .ok (.aload_n 0, 1) := by decide +kernel
theorem dX10_isFreeGrass_1 : decode cX10_isFreeGrass 1 = .ok (.getfield 9, 3) := by decide +kernel
theorem dX10_isFreeGrass_4 : decode cX10_isFreeGrass 4 = .ok (.iload_n 1, 1) := by decide +kernel
theorem dX10_isFreeGrass_5 : decode cX10_isFreeGrass 5 = .ok (.iaload, 1) := by decide +kernel
theorem dX10_isFreeGrass_6 : decode cX10_isFreeGrass 6 = .ok (.ifCond .ne 16, 3) := by decide +kernel
theorem dX10_isFreeGrass_9 : decode cX10_isFreeGrass 9 = .ok (.aload_n 0, 1) := by decide +kernel
theorem dX10_isFreeGrass_10 : decode cX10_isFreeGrass 10 = .ok (.iload_n 1, 1) := by decide +kernel
theorem dX10_isFreeGrass_11 : decode cX10_isFreeGrass 11 = .ok (.invokevirtual 49, 3) := by decide +kernel
theorem dX10_isFreeGrass_14 : decode cX10_isFreeGrass 14 = .ok (.iconst (-1), 1) := by decide +kernel
theorem dX10_isFreeGrass_15 : decode cX10_isFreeGrass 15 = .ok (.if_icmp .ne 7, 3) := by decide +kernel
theorem dX10_isFreeGrass_18 : decode cX10_isFreeGrass 18 = .ok (.iconst 1, 1) := by decide +kernel
theorem dX10_isFreeGrass_19 : decode cX10_isFreeGrass 19 = .ok (.goto 4, 3) := by decide +kernel
theorem dX10_isFreeGrass_22 : decode cX10_isFreeGrass 22 = .ok (.iconst 0, 1) := by decide +kernel
theorem dX10_isFreeGrass_23 : decode cX10_isFreeGrass 23 = .ok (.ireturn, 1) := by decide +kernel
set_option maxRecDepth 20000 in
theorem rX10_isFreeGrass_0 {E : EN} (hE : Ep E) {k : Nat} {mem : Mm} {Q : Int → Mm → Prop} {y p0 : Int} (hy : isYd y)
    (h : (0 ≤ p0 ∧ p0 < 32) ∧ ((¬ (mem (y + 1) p0) = 0 → Q 0 mem) ∧ ((mem (y + 1) p0) = 0 → (R32 p0 → CI E mX10_plotIn k mem [aR y, aI p0] (fun r3 m2 => ((¬ r3 = (-1) → Q 0 m2) ∧ (r3 = (-1) → Q 1 m2))))))) :
    VM E mX10_isFreeGrass (k + 1) mem 0 [(0, aR y), (1, aI p0)] [] (retI Q) := by
  refine v_aload_n (pc := 0) dX10_isFreeGrass_0 0 rfl ?_
  refine m_getfin (pc := 1) (v := (y + 1)) hE dX10_isFreeGrass_1 flX10_9 rfl (yd0 hy) rfl ?_
  refine v_iload_n (pc := 4) dX10_isFreeGrass_4 1 rfl ?_
  obtain ⟨o1, h⟩ := h
  refine m_iald (pc := 5) (v := (mem (y + 1) p0)) dX10_isFreeGrass_5 (yd1 hy) o1.1 o1.2 rfl ?_
  refine v_ifne (pc := 6) (tgt := 22) dX10_isFreeGrass_6 (by decide) (fun c1 => ?_) (fun c1 => ?_)
  · have h := h.1 c1
    refine v_iconst (pc := 22) dX10_isFreeGrass_22 (by decide) ?_
    exact m_retZ (pc := 23) dX10_isFreeGrass_23 rfl (by decide) h
  · have h := h.2 c1
    refine v_aload_n (pc := 9) dX10_isFreeGrass_9 0 rfl ?_
    refine v_iload_n (pc := 10) dX10_isFreeGrass_10 1 rfl ?_
    refine m_invI (pc := 11) (mi' := mX10_plotIn) (rest := []) [aI p0] dX10_isFreeGrass_11 (yd0 hy) (by decide) rfl msX10_plotIn mvX10_plotIn lkX10_49 rfl (Nat.le_of_ble_eq_true rfl) (fun hn => CI_mono (h (aaI hn 1 rfl)) (fun r3 m2 h => ?_))
    refine v_iconst (pc := 14) dX10_isFreeGrass_14 (by decide) ?_
    refine v_icmpne (pc := 15) (tgt := 22) dX10_isFreeGrass_15 (by decide) (fun c1 => ?_) (fun c1 => ?_)
    · have h := h.1 c1
      refine v_iconst (pc := 22) dX10_isFreeGrass_22 (by decide) ?_
      exact m_retZ (pc := 23) dX10_isFreeGrass_23 rfl (by decide) h
    · have h := h.2 c1
      refine v_iconst (pc := 18) dX10_isFreeGrass_18 (by decide) ?_
      refine v_goto (pc := 19) (tgt := 23) dX10_isFreeGrass_19 (by decide) ?_
      exact m_retZ (pc := 23) dX10_isFreeGrass_23 rfl (by decide) h
theorem eX10_isFreeGrass {E : EN} {k : Nat} {mem : Mm} {Q : Int → Mm → Prop} {y p0 : Int} (hr_p0 : R32 p0) (h : VM E mX10_isFreeGrass (k + 1) mem 0 [(0, aR y), (1, aI p0)] [] (retI Q)) : CI E mX10_isFreeGrass (k + 1) mem [aR y, aI p0] Q := CI_of rfl (Nat.le_of_ble_eq_true rfl) h (aNs_c (aNr_R _) (aNs_c (aNr_I hr_p0) (fun _ q => nomatch q)))

theorem dX10_isOpenTo_0 : decode cX10_isOpenTo 0 = .ok (.aload_n 0, 1) := by decide +kernel
theorem dX10_isOpenTo_1 : decode cX10_isOpenTo 1 = .ok (.iload_n 2, 1) := by decide +kernel
theorem dX10_isOpenTo_2 : decode cX10_isOpenTo 2 = .ok (.invokevirtual 99, 3) := by decide +kernel
theorem dX10_isOpenTo_5 : decode cX10_isOpenTo 5 = .ok (.ifCond .eq 16, 3) := by decide +kernel
theorem dX10_isOpenTo_8 : decode cX10_isOpenTo 8 = .ok (.aload_n 0, 1) := by decide +kernel
theorem dX10_isOpenTo_9 : decode cX10_isOpenTo 9 = .ok (.iload_n 1, 1) := by decide +kernel
theorem dX10_isOpenTo_10 : decode cX10_isOpenTo 10 = .ok (.iload_n 2, 1) := by decide +kernel
theorem dX10_isOpenTo_11 : decode cX10_isOpenTo 11 = .ok (.invokevirtual 102, 3) := by decide +kernel
theorem dX10_isOpenTo_14 : decode cX10_isOpenTo 14 = .ok (.ifCond .ne 7, 3) := by decide +kernel
theorem dX10_isOpenTo_17 : decode cX10_isOpenTo 17 = .ok (.iconst 1, 1) := by decide +kernel
theorem dX10_isOpenTo_18 : decode cX10_isOpenTo 18 = .ok (.goto 4, 3) := by decide +kernel
theorem dX10_isOpenTo_21 : decode cX10_isOpenTo 21 = .ok (.iconst 0, 1) := by decide +kernel
theorem dX10_isOpenTo_22 : decode cX10_isOpenTo 22 = .ok (.ireturn, 1) := by decide +kernel
set_option maxRecDepth 20000 in
theorem rX10_isOpenTo_0 {E : EN} (hE : Ep E) {k : Nat} {mem : Mm} {Q : Int → Mm → Prop} {y p0 p1 : Int} (hy : isYd y)
    (h : (R32 p1 → CI E mX10_isFreeGrass k mem [aR y, aI p1] (fun r2 m1 => ((r2 = 0 → Q 0 m1) ∧ (¬ r2 = 0 → (R32 p0 → R32 p1 → CI E mX10_isBarred k m1 [aR y, aI p0, aI p1] (fun r4 m3 => ((¬ r4 = 0 → Q 0 m3) ∧ (r4 = 0 → Q 1 m3))))))))) :
    VM E mX10_isOpenTo (k + 1) mem 0 [(0, aR y), (1, aI p0), (2, aI p1)] [] (retI Q) := by
  refine v_aload_n (pc := 0) dX10_isOpenTo_0 0 rfl ?_
  refine v_iload_n (pc := 1) dX10_isOpenTo_1 2 rfl ?_
  refine m_invI (pc := 2) (mi' := mX10_isFreeGrass) (rest := []) [aI p1] dX10_isOpenTo_2 (yd0 hy) (by decide) rfl msX10_isFreeGrass mvX10_isFreeGrass lkX10_99 rfl (Nat.le_of_ble_eq_true rfl) (fun hn => CI_mono (h (aaI hn 1 rfl)) (fun r2 m1 h => ?_))
  refine v_ifeq (pc := 5) (tgt := 21) dX10_isOpenTo_5 (by decide) (fun c1 => ?_) (fun c1 => ?_)
  · have h := h.1 c1
    refine v_iconst (pc := 21) dX10_isOpenTo_21 (by decide) ?_
    exact m_retZ (pc := 22) dX10_isOpenTo_22 rfl (by decide) h
  · have h := h.2 c1
    refine v_aload_n (pc := 8) dX10_isOpenTo_8 0 rfl ?_
    refine v_iload_n (pc := 9) dX10_isOpenTo_9 1 rfl ?_
    refine v_iload_n (pc := 10) dX10_isOpenTo_10 2 rfl ?_
    refine m_invI (pc := 11) (mi' := mX10_isBarred) (rest := []) [aI p0, aI p1] dX10_isOpenTo_11 (yd0 hy) (by decide) rfl msX10_isBarred mvX10_isBarred lkX10_102 rfl (Nat.le_of_ble_eq_true rfl) (fun hn => CI_mono (h (aaI hn 1 rfl) (aaI hn 2 rfl)) (fun r4 m3 h => ?_))
    refine v_ifne (pc := 14) (tgt := 21) dX10_isOpenTo_14 (by decide) (fun c1 => ?_) (fun c1 => ?_)
    · have h := h.1 c1
      refine v_iconst (pc := 21) dX10_isOpenTo_21 (by decide) ?_
      exact m_retZ (pc := 22) dX10_isOpenTo_22 rfl (by decide) h
    · have h := h.2 c1
      refine v_iconst (pc := 17) dX10_isOpenTo_17 (by decide) ?_
      refine v_goto (pc := 18) (tgt := 22) dX10_isOpenTo_18 (by decide) ?_
      exact m_retZ (pc := 22) dX10_isOpenTo_22 rfl (by decide) h
theorem eX10_isOpenTo {E : EN} {k : Nat} {mem : Mm} {Q : Int → Mm → Prop} {y p0 p1 : Int} (hr_p0 : R32 p0) (hr_p1 : R32 p1) (h : VM E mX10_isOpenTo (k + 1) mem 0 [(0, aR y), (1, aI p0), (2, aI p1)] [] (retI Q)) : CI E mX10_isOpenTo (k + 1) mem [aR y, aI p0, aI p1] Q := CI_of rfl (Nat.le_of_ble_eq_true rfl) h (aNs_c (aNr_R _) (aNs_c (aNr_I hr_p0) (aNs_c (aNr_I hr_p1) (fun _ q => nomatch q))))

theorem dX10_isAnyInWall_0 : decode cX10_isAnyInWall 0 = .ok (.iconst 0, 1) := by decide +kernel
theorem dX10_isAnyInWall_1 : decode cX10_isAnyInWall 1 = .ok (.istore_n 1, 1) := by decide +kernel
theorem dX10_isAnyInWall_2 : decode cX10_isAnyInWall 2 = .ok (.iload_n 1, 1) := by decide +kernel
theorem dX10_isAnyInWall_3 : decode cX10_isAnyInWall 3 = .ok (.aload_n 0, 1) := by decide +kernel
theorem dX10_isAnyInWall_4 : decode cX10_isAnyInWall 4 = .ok (.getfield 45, 3) := by decide +kernel
theorem dX10_isAnyInWall_7 : decode cX10_isAnyInWall 7 = .ok (.if_icmp .ge 32, 3) := by decide +kernel
theorem dX10_isAnyInWall_10 : decode cX10_isAnyInWall 10 = .ok (.iload_n 1, 1) := by decide +kernel
theorem dX10_isAnyInWall_11 : decode cX10_isAnyInWall 11 = .ok (.bipush 10, 2) := by decide +kernel
theorem dX10_isAnyInWall_13 : decode cX10_isAnyInWall 13 = .ok (.if_icmp .ge 26, 3) := by decide +kernel
theorem dX10_isAnyInWall_16 : decode cX10_isAnyInWall 16 = .ok (.aload_n 0, 1) := by decide +kernel
theorem dX10_isAnyInWall_17 : decode cX10_isAnyInWall 17 = .ok (.getfield 9, 3) := by decide +kernel
theorem dX10_isAnyInWall_20 : decode cX10_isAnyInWall 20 = .ok (.aload_n 0, 1) := by decide +kernel
theorem dX10_isAnyInWall_21 : decode cX10_isAnyInWall 21 = .ok (.getfield 21, 3) := by decide +kernel
theorem dX10_isAnyInWall_24 : decode cX10_isAnyInWall 24 = .ok (.iload_n 1, 1) := by decide +kernel
theorem dX10_isAnyInWall_25 : decode cX10_isAnyInWall 25 = .ok (.iaload, 1) := by decide +kernel
theorem dX10_isAnyInWall_26 : decode cX10_isAnyInWall 26 = .ok (.iaload, 1) := by decide +kernel
theorem dX10_isAnyInWall_27 : decode cX10_isAnyInWall 27 = .ok (.iconst 1, 1) := by decide +kernel
theorem dX10_isAnyInWall_28 : decode cX10_isAnyInWall 28 = .ok (.if_icmp .ne 5, 3) := by decide +kernel
theorem dX10_isAnyInWall_31 : decode cX10_isAnyInWall 31 = .ok (.iconst 1, 1) := by decide +kernel
theorem dX10_isAnyInWall_32 : decode cX10_isAnyInWall 32 = .ok (.ireturn, 1) := by decide +kernel
theorem dX10_isAnyInWall_33 : decode cX10_isAnyInWall 33 = .ok (.iinc 1 1, 3) := by decide +kernel
theorem dX10_isAnyInWall_36 : decode cX10_isAnyInWall 36 = .ok (.goto (-34), 3) := by decide +kernel
theorem dX10_isAnyInWall_39 : decode cX10_isAnyInWall 39 = .ok (.iconst 0, 1) := by decide +kernel
theorem dX10_isAnyInWall_40 : decode cX10_isAnyInWall 40 = .ok (.ireturn, 1) := by decide +kernel
set_option maxRecDepth 20000 in
theorem rX10_isAnyInWall_0 {E : EN} (hE : Ep E) {k : Nat} {mem : Mm} {Q : Int → Mm → Prop} {y : Int} (hy : isYd y)
    (h : VM E mX10_isAnyInWall k mem 2 [(0, aR y), (1, aI 0)] [] (retI Q)) :
    VM E mX10_isAnyInWall k mem 0 [(0, aR y)] [] (retI Q) := by
  refine v_iconst (pc := 0) dX10_isAnyInWall_0 (by decide) ?_
  refine v_istore_n (pc := 1) (al2 := [(1, aI 0), (0, aR y)]) dX10_isAnyInWall_1 (by decide) rfl ?_
  exact VG_sub (al' := [(0, aR y), (1, aI 0)]) [1, 0] rfl h
theorem eX10_isAnyInWall {E : EN} {k : Nat} {mem : Mm} {Q : Int → Mm → Prop} {y : Int}  (h : VM E mX10_isAnyInWall k mem 0 [(0, aR y)] [] (retI Q)) : CI E mX10_isAnyInWall k mem [aR y] Q := CI_of rfl (Nat.le_of_ble_eq_true rfl) h (aNs_c (aNr_R _) (fun _ q => nomatch q))
set_option maxRecDepth 20000 in
theorem rX10_isAnyInWall_2 {E : EN} (hE : Ep E) {k : Nat} {mem : Mm} {Q : Int → Mm → Prop} {y x1 : Int} (hy : isYd y)
    (h : (((mem y 10) ≤ x1 → Q 0 mem) ∧ (x1 < (mem y 10) → ((10 ≤ x1 → Q 0 mem) ∧ (x1 < 10 → (0 ≤ x1 ∧ x1 < 10) ∧ (0 ≤ (mem (y + 4) x1) ∧ (mem (y + 4) x1) < 32) ∧ ((¬ (mem (y + 1) (mem (y + 4) x1)) = 1 → (R32 (x1 + 1)) ∧ VM E mX10_isAnyInWall k mem 2 [(0, aR y), (1, aI (x1 + 1))] [] (retI Q)) ∧ ((mem (y + 1) (mem (y + 4) x1)) = 1 → Q 1 mem))))))) :
    VM E mX10_isAnyInWall k mem 2 [(0, aR y), (1, aI x1)] [] (retI Q) := by
  refine v_iload_n (pc := 2) dX10_isAnyInWall_2 1 rfl ?_
  refine v_aload_n (pc := 3) dX10_isAnyInWall_3 0 rfl ?_
  refine m_getf (pc := 4) (t := 0) (v := (mem y 10)) dX10_isAnyInWall_4 flX10_45 rfl (yd0 hy) rfl ?_
  refine v_icmpge (pc := 7) (tgt := 39) dX10_isAnyInWall_7 (by decide) (fun c1 => ?_) (fun c1 => ?_)
  · have h := h.1 c1
    refine v_iconst (pc := 39) dX10_isAnyInWall_39 (by decide) ?_
    exact m_retZ (pc := 40) dX10_isAnyInWall_40 rfl (by decide) h
  · have h := h.2 c1
    refine v_iload_n (pc := 10) dX10_isAnyInWall_10 1 rfl ?_
    refine v_bipush (pc := 11) dX10_isAnyInWall_11 (by decide) ?_
    refine v_icmpge (pc := 13) (tgt := 39) dX10_isAnyInWall_13 (by decide) (fun c1 => ?_) (fun c1 => ?_)
    · have h := h.1 c1
      refine v_iconst (pc := 39) dX10_isAnyInWall_39 (by decide) ?_
      exact m_retZ (pc := 40) dX10_isAnyInWall_40 rfl (by decide) h
    · have h := h.2 c1
      refine v_aload_n (pc := 16) dX10_isAnyInWall_16 0 rfl ?_
      refine m_getfin (pc := 17) (v := (y + 1)) hE dX10_isAnyInWall_17 flX10_9 rfl (yd0 hy) rfl ?_
      refine v_aload_n (pc := 20) dX10_isAnyInWall_20 0 rfl ?_
      refine m_getfin (pc := 21) (v := (y + 4)) hE dX10_isAnyInWall_21 flX10_21 rfl (yd0 hy) rfl ?_
      refine v_iload_n (pc := 24) dX10_isAnyInWall_24 1 rfl ?_
      obtain ⟨o1, h⟩ := h
      refine m_iald (pc := 25) (v := (mem (y + 4) x1)) dX10_isAnyInWall_25 (yd4 hy) o1.1 o1.2 rfl ?_
      obtain ⟨o2, h⟩ := h
      refine m_iald (pc := 26) (v := (mem (y + 1) (mem (y + 4) x1))) dX10_isAnyInWall_26 (yd1 hy) o2.1 o2.2 rfl ?_
      refine v_iconst (pc := 27) dX10_isAnyInWall_27 (by decide) ?_
      refine v_icmpne (pc := 28) (tgt := 33) dX10_isAnyInWall_28 (by decide) (fun c1 => ?_) (fun c1 => ?_)
      · have h := h.1 c1
        obtain ⟨o3, h⟩ := h
        refine m_iinc (pc := 33) (al2 := [(1, aI (x1 + 1)), (0, aR y)]) dX10_isAnyInWall_33 1 rfl (by decide) o3 rfl ?_
        refine v_goto (pc := 36) (tgt := 2) dX10_isAnyInWall_36 (by decide) ?_
        exact VG_sub (al' := [(0, aR y), (1, aI (x1 + 1))]) [1, 0] rfl h
      · have h := h.2 c1
        refine v_iconst (pc := 31) dX10_isAnyInWall_31 (by decide) ?_
        exact m_retZ (pc := 32) dX10_isAnyInWall_32 rfl (by decide) h

theorem dX10_areBeside_0 : decode cX10_areBeside 0 = .ok (.aload_n 0, 1) := by decide +kernel
theorem dX10_areBeside_1 : decode cX10_areBeside 1 = .ok (.getfield 21, 3) := by decide +kernel
theorem dX10_areBeside_4 : decode cX10_areBeside 4 = .ok (.iload_n 1, 1) := by decide +kernel
theorem dX10_areBeside_5 : decode cX10_areBeside 5 = .ok (.iaload, 1) := by decide +kernel
theorem dX10_areBeside_6 : decode cX10_areBeside 6 = .ok (.aload_n 0, 1) := by decide +kernel
theorem dX10_areBeside_7 : decode cX10_areBeside 7 = .ok (.getfield 21, 3) := by decide +kernel
theorem dX10_areBeside_10 : decode cX10_areBeside 10 = .ok (.iload_n 2, 1) := by decide +kernel
theorem dX10_areBeside_11 : decode cX10_areBeside 11 = .ok (.iaload, 1) := by decide +kernel
theorem dX10_areBeside_12 : decode cX10_areBeside 12 = .ok (.isub, 1) := by decide +kernel
theorem dX10_areBeside_13 : decode cX10_areBeside 13 = .ok (.bipush 32, 2) := by decide +kernel
theorem dX10_areBeside_15 : decode cX10_areBeside 15 = .ok (.invokestatic 105, 3) := by decide +kernel
theorem dX10_areBeside_18 : decode cX10_areBeside 18 = .ok (.istore_n 3, 1) := by decide +kernel
theorem dX10_areBeside_19 : decode cX10_areBeside 19 = .ok (.iload_n 3, 1) := by decide +kernel
theorem dX10_areBeside_20 : decode cX10_areBeside 20 = .ok (.iconst 1, 1) := by decide +kernel
theorem dX10_areBeside_21 : decode cX10_areBeside 21 = .ok (.if_icmp .eq 9, 3) := by decide +kernel
theorem dX10_areBeside_24 : decode cX10_areBeside 24 = .ok (.iload_n 3, 1) := by decide +kernel
theorem dX10_areBeside_25 : decode cX10_areBeside 25 = .ok (.bipush 31, 2) := by decide +kernel
theorem dX10_areBeside_27 : decode cX10_areBeside 27 = .ok (.if_icmp .ne 7, 3) := by decide +kernel
theorem dX10_areBeside_30 : decode cX10_areBeside 30 = .ok (.iconst 1, 1) := by decide +kernel
theorem dX10_areBeside_31 : decode cX10_areBeside 31 = .ok (.goto 4, 3) := by decide +kernel
theorem dX10_areBeside_34 : decode cX10_areBeside 34 = .ok (.iconst 0, 1) := by decide +kernel
theorem dX10_areBeside_35 : decode cX10_areBeside 35 = .ok (.ireturn, 1) := by decide +kernel
set_option maxRecDepth 20000 in
theorem rX10_areBeside_0 {E : EN} (hE : Ep E) {k : Nat} {mem : Mm} {Q : Int → Mm → Prop} {y p0 p1 : Int} (hy : isYd y)
    (h : (0 ≤ p0 ∧ p0 < 10) ∧ (0 ≤ p1 ∧ p1 < 10) ∧ (R32 ((mem (y + 4) p0) - (mem (y + 4) p1))) ∧ (R32 ((mem (y + 4) p0) - (mem (y + 4) p1)) → CI E mJ9_floorMod_7cf53 k mem [aI ((mem (y + 4) p0) - (mem (y + 4) p1)), aI 32] (fun r5 m4 => ((r5 = 1 → Q 1 m4) ∧ (¬ r5 = 1 → ((¬ r5 = 31 → Q 0 m4) ∧ (r5 = 31 → Q 1 m4))))))) :
    VM E mX10_areBeside (k + 1) mem 0 [(0, aR y), (1, aI p0), (2, aI p1)] [] (retI Q) := by
  refine v_aload_n (pc := 0) dX10_areBeside_0 0 rfl ?_
  refine m_getfin (pc := 1) (v := (y + 4)) hE dX10_areBeside_1 flX10_21 rfl (yd0 hy) rfl ?_
  refine v_iload_n (pc := 4) dX10_areBeside_4 1 rfl ?_
  obtain ⟨o1, h⟩ := h
  refine m_iald (pc := 5) (v := (mem (y + 4) p0)) dX10_areBeside_5 (yd4 hy) o1.1 o1.2 rfl ?_
  refine v_aload_n (pc := 6) dX10_areBeside_6 0 rfl ?_
  refine m_getfin (pc := 7) (v := (y + 4)) hE dX10_areBeside_7 flX10_21 rfl (yd0 hy) rfl ?_
  refine v_iload_n (pc := 10) dX10_areBeside_10 2 rfl ?_
  obtain ⟨o2, h⟩ := h
  refine m_iald (pc := 11) (v := (mem (y + 4) p1)) dX10_areBeside_11 (yd4 hy) o2.1 o2.2 rfl ?_
  obtain ⟨o3, h⟩ := h
  refine m_isub (pc := 12) dX10_areBeside_12 o3 ?_
  refine v_bipush (pc := 13) dX10_areBeside_13 (by decide) ?_
  refine m_invSI (pc := 15) (mi' := mJ9_floorMod_7cf53) (rest := []) [aI ((mem (y + 4) p0) - (mem (y + 4) p1)), aI 32] dX10_areBeside_15 msJ9_floorMod_7cf53 stJ9_floorMod_7cf53 lkX10_105 rfl (Nat.le_of_ble_eq_true rfl) (fun hn => CI_mono (h (aaI hn 0 rfl)) (fun r5 m4 h => ?_))
  refine v_istore_n (pc := 18) (al2 := [(3, aI r5), (0, aR y), (1, aI p0), (2, aI p1)]) dX10_areBeside_18 (by decide) rfl ?_
  refine v_iload_n (pc := 19) dX10_areBeside_19 0 rfl ?_
  refine v_iconst (pc := 20) dX10_areBeside_20 (by decide) ?_
  refine v_icmpeq (pc := 21) (tgt := 30) dX10_areBeside_21 (by decide) (fun c1 => ?_) (fun c1 => ?_)
  · have h := h.1 c1
    refine v_iconst (pc := 30) dX10_areBeside_30 (by decide) ?_
    refine v_goto (pc := 31) (tgt := 35) dX10_areBeside_31 (by decide) ?_
    exact m_retZ (pc := 35) dX10_areBeside_35 rfl (by decide) h
  · have h := h.2 c1
    refine v_iload_n (pc := 24) dX10_areBeside_24 0 rfl ?_
    refine v_bipush (pc := 25) dX10_areBeside_25 (by decide) ?_
    refine v_icmpne (pc := 27) (tgt := 34) dX10_areBeside_27 (by decide) (fun c1 => ?_) (fun c1 => ?_)
    · have h := h.1 c1
      refine v_iconst (pc := 34) dX10_areBeside_34 (by decide) ?_
      exact m_retZ (pc := 35) dX10_areBeside_35 rfl (by decide) h
    · have h := h.2 c1
      refine v_iconst (pc := 30) dX10_areBeside_30 (by decide) ?_
      refine v_goto (pc := 31) (tgt := 35) dX10_areBeside_31 (by decide) ?_
      exact m_retZ (pc := 35) dX10_areBeside_35 rfl (by decide) h
theorem eX10_areBeside {E : EN} {k : Nat} {mem : Mm} {Q : Int → Mm → Prop} {y p0 p1 : Int} (hr_p0 : R32 p0) (hr_p1 : R32 p1) (h : VM E mX10_areBeside (k + 1) mem 0 [(0, aR y), (1, aI p0), (2, aI p1)] [] (retI Q)) : CI E mX10_areBeside (k + 1) mem [aR y, aI p0, aI p1] Q := CI_of rfl (Nat.le_of_ble_eq_true rfl) h (aNs_c (aNr_R _) (aNs_c (aNr_I hr_p0) (aNs_c (aNr_I hr_p1) (fun _ q => nomatch q))))

theorem dX10_add_0 : decode cX10_add 0 = .ok (.aload_n 0, 1) := by decide +kernel
theorem dX10_add_1 : decode cX10_add 1 = .ok (.getfield 45, 3) := by decide +kernel
theorem dX10_add_4 : decode cX10_add 4 = .ok (.bipush 10, 2) := by decide +kernel
theorem dX10_add_6 : decode cX10_add 6 = .ok (.if_icmp .ge 53, 3) := by decide +kernel
theorem dX10_add_9 : decode cX10_add 9 = .ok (.aload_n 0, 1) := by decide +kernel
theorem dX10_add_10 : decode cX10_add 10 = .ok (.getfield 21, 3) := by decide +kernel
theorem dX10_add_13 : decode cX10_add 13 = .ok (.aload_n 0, 1) := by decide +kernel
theorem dX10_add_14 : decode cX10_add 14 = .ok (.getfield 45, 3) := by decide +kernel
theorem dX10_add_17 : decode cX10_add 17 = .ok (.iload_n 2, 1) := by decide +kernel
theorem dX10_add_18 : decode cX10_add 18 = .ok (.iastore, 1) := by decide +kernel
theorem dX10_add_19 : decode cX10_add 19 = .ok (.aload_n 0, 1) := by decide +kernel
theorem dX10_add_20 : decode cX10_add 20 = .ok (.getfield 24, 3) := by decide +kernel
theorem dX10_add_23 : decode cX10_add 23 = .ok (.aload_n 0, 1) := by decide +kernel
theorem dX10_add_24 : decode cX10_add 24 = .ok (.getfield 45, 3) := by decide +kernel
theorem dX10_add_27 : decode cX10_add 27 = .ok (.iload_n 1, 1) := by decide +kernel
theorem dX10_add_28 : decode cX10_add 28 = .ok (.iastore, 1) := by decide +kernel
theorem dX10_add_29 : decode cX10_add 29 = .ok (.aload_n 0, 1) := by decide +kernel
theorem dX10_add_30 : decode cX10_add 30 = .ok (.getfield 27, 3) := by decide +kernel
theorem dX10_add_33 : decode cX10_add 33 = .ok (.aload_n 0, 1) := by decide +kernel
theorem dX10_add_34 : decode cX10_add 34 = .ok (.getfield 45, 3) := by decide +kernel
theorem dX10_add_37 : decode cX10_add 37 = .ok (.iload_n 3, 1) := by decide +kernel
theorem dX10_add_38 : decode cX10_add 38 = .ok (.iastore, 1) := by decide +kernel
theorem dX10_add_39 : decode cX10_add 39 = .ok (.aload_n 0, 1) := by decide +kernel
theorem dX10_add_40 : decode cX10_add 40 = .ok (.getfield 30, 3) := by decide +kernel
theorem dX10_add_43 : decode cX10_add 43 = .ok (.aload_n 0, 1) := by decide +kernel
theorem dX10_add_44 : decode cX10_add 44 = .ok (.getfield 45, 3) := by decide +kernel
theorem dX10_add_47 : decode cX10_add 47 = .ok (.iconst 0, 1) := by decide +kernel
theorem dX10_add_48 : decode cX10_add 48 = .ok (.iastore, 1) := by decide +kernel
theorem dX10_add_49 : decode cX10_add 49 = .ok (.aload_n 0, 1) := by decide +kernel
theorem dX10_add_50 : decode cX10_add 50 = .ok (.dup, 1) := by decide +kernel
theorem dX10_add_51 : decode cX10_add 51 = .ok (.getfield 45, 3) := by decide +kernel
theorem dX10_add_54 : decode cX10_add 54 = .ok (.iconst 1, 1) := by decide +kernel
theorem dX10_add_55 : decode cX10_add 55 = .ok (.iadd, 1) := by decide +kernel
theorem dX10_add_56 : decode cX10_add 56 = .ok (.putfield 45, 3) := by decide +kernel
theorem dX10_add_59 : decode cX10_add 59 = .ok (.return_, 1) := by decide +kernel
set_option maxRecDepth 20000 in
theorem rX10_add_0 {E : EN} (hE : Ep E) {k : Nat} {mem : Mm} {Q : Mm → Prop} {y p0 p1 p2 : Int} (hy : isYd y)
    (h : ((10 ≤ (mem y 10) → Q mem) ∧ ((mem y 10) < 10 → (0 ≤ (mem y 10) ∧ (mem y 10) < 10) ∧ (R32 ((mem y 10) + 1)) ∧ Q (aUp (aUp (aUp (aUp (aUp mem (y + 4) (mem y 10) p1) (y + 5) (mem y 10) p0) (y + 6) (mem y 10) p2) (y + 7) (mem y 10) 0) y 10 ((mem y 10) + 1))))) :
    VM E mX10_add k mem 0 [(0, aR y), (1, aI p0), (2, aI p1), (3, aI p2)] [] (retV Q) := by
  refine v_aload_n (pc := 0) dX10_add_0 0 rfl ?_
  refine m_getf (pc := 1) (t := 0) (v := (mem y 10)) dX10_add_1 flX10_45 rfl (yd0 hy) rfl ?_
  refine v_bipush (pc := 4) dX10_add_4 (by decide) ?_
  refine v_icmpge (pc := 6) (tgt := 59) dX10_add_6 (by decide) (fun c1 => ?_) (fun c1 => ?_)
  · have h := h.1 c1
    exact m_retV (pc := 59) dX10_add_59 rfl h
  · have h := h.2 c1
    refine v_aload_n (pc := 9) dX10_add_9 0 rfl ?_
    refine m_getfin (pc := 10) (v := (y + 4)) hE dX10_add_10 flX10_21 rfl (yd0 hy) rfl ?_
    refine v_aload_n (pc := 13) dX10_add_13 0 rfl ?_
    refine m_getf (pc := 14) (t := 0) (v := (mem y 10)) dX10_add_14 flX10_45 rfl (yd0 hy) rfl ?_
    refine v_iload_n (pc := 17) dX10_add_17 2 rfl ?_
    obtain ⟨o1, h⟩ := h
    refine v_iast (pc := 18) dX10_add_18 (yd4 hy) o1.1 o1.2 ?_
    refine v_aload_n (pc := 19) dX10_add_19 0 rfl ?_
    refine m_getfin (pc := 20) (v := (y + 5)) hE dX10_add_20 flX10_24 rfl (yd0 hy) rfl ?_
    refine v_aload_n (pc := 23) dX10_add_23 0 rfl ?_
    refine m_getf (pc := 24) (t := 0) (v := (mem y 10)) dX10_add_24 flX10_45 rfl (yd0 hy) (aUp_rn (by omega)) ?_
    refine v_iload_n (pc := 27) dX10_add_27 1 rfl ?_
    refine v_iast (pc := 28) dX10_add_28 (yd5 hy) o1.1 o1.2 ?_
    refine v_aload_n (pc := 29) dX10_add_29 0 rfl ?_
    refine m_getfin (pc := 30) (v := (y + 6)) hE dX10_add_30 flX10_27 rfl (yd0 hy) rfl ?_
    refine v_aload_n (pc := 33) dX10_add_33 0 rfl ?_
    refine m_getf (pc := 34) (t := 0) (v := (mem y 10)) dX10_add_34 flX10_45 rfl (yd0 hy) ((aUp_rn (by omega)).trans (aUp_rn (by omega))) ?_
    refine v_iload_n (pc := 37) dX10_add_37 3 rfl ?_
    refine v_iast (pc := 38) dX10_add_38 (yd6 hy) o1.1 o1.2 ?_
    refine v_aload_n (pc := 39) dX10_add_39 0 rfl ?_
    refine m_getfin (pc := 40) (v := (y + 7)) hE dX10_add_40 flX10_30 rfl (yd0 hy) rfl ?_
    refine v_aload_n (pc := 43) dX10_add_43 0 rfl ?_
    refine m_getf (pc := 44) (t := 0) (v := (mem y 10)) dX10_add_44 flX10_45 rfl (yd0 hy) ((aUp_rn (by omega)).trans ((aUp_rn (by omega)).trans (aUp_rn (by omega)))) ?_
    refine v_iconst (pc := 47) dX10_add_47 (by decide) ?_
    refine v_iast (pc := 48) dX10_add_48 (yd7 hy) o1.1 o1.2 ?_
    refine v_aload_n (pc := 49) dX10_add_49 0 rfl ?_
    refine v_dup (pc := 50) dX10_add_50 rfl ?_
    refine m_getf (pc := 51) (t := 0) (v := (mem y 10)) dX10_add_51 flX10_45 rfl (yd0 hy) ((aUp_rn (by omega)).trans ((aUp_rn (by omega)).trans ((aUp_rn (by omega)).trans (aUp_rn (by omega))))) ?_
    refine v_iconst (pc := 54) dX10_add_54 (by decide) ?_
    obtain ⟨o2, h⟩ := h
    refine m_iadd (pc := 55) dX10_add_55 o2 ?_
    refine v_putf (pc := 56) dX10_add_56 flX10_45 ⟨_, _, rfl, Or.inl rfl⟩ rfl (by decide) (fun q => nomatch q) (Or.inl fun _ => rfl) (yd0 hy) ?_
    exact m_retV (pc := 59) dX10_add_59 rfl h
theorem eX10_add {E : EN} {k : Nat} {mem : Mm} {Q : Mm → Prop} {y p0 p1 p2 : Int} (hr_p0 : R32 p0) (hr_p1 : R32 p1) (hr_p2 : R32 p2) (h : VM E mX10_add k mem 0 [(0, aR y), (1, aI p0), (2, aI p1), (3, aI p2)] [] (retV Q)) : CV E mX10_add k mem [aR y, aI p0, aI p1, aI p2] Q := CV_of rfl (Nat.le_of_ble_eq_true rfl) h (aNs_c (aNr_R _) (aNs_c (aNr_I hr_p0) (aNs_c (aNr_I hr_p1) (aNs_c (aNr_I hr_p2) (fun _ q => nomatch q)))))

theorem dX10_remove_0 : decode cX10_remove 0 = .ok (.iload_n 1, 1) := by decide +kernel
theorem dX10_remove_1 : decode cX10_remove 1 = .ok (.iconst 1, 1) := by decide +kernel
theorem dX10_remove_2 : decode cX10_remove 2 = .ok (.iadd, 1) := by decide +kernel
theorem dX10_remove_3 : decode cX10_remove 3 = .ok (.istore_n 2, 1) := by decide +kernel
theorem dX10_remove_4 : decode cX10_remove 4 = .ok (.iload_n 2, 1) := by decide +kernel
theorem dX10_remove_5 : decode cX10_remove 5 = .ok (.ifCond .le 79, 3) := by decide +kernel
theorem dX10_remove_8 : decode cX10_remove 8 = .ok (.iload_n 2, 1) := by decide +kernel
theorem dX10_remove_9 : decode cX10_remove 9 = .ok (.aload_n 0, 1) := by decide +kernel
theorem dX10_remove_10 : decode cX10_remove 10 = .ok (.getfield 45, 3) := by decide +kernel
theorem dX10_remove_13 : decode cX10_remove 13 = .ok (.if_icmp .ge 71, 3) := by decide +kernel
theorem dX10_remove_16 : decode cX10_remove 16 = .ok (.iload_n 2, 1) := by decide +kernel
theorem dX10_remove_17 : decode cX10_remove 17 = .ok (.bipush 10, 2) := by decide +kernel
theorem dX10_remove_19 : decode cX10_remove 19 = .ok (.if_icmp .ge 65, 3) := by decide +kernel
theorem dX10_remove_22 : decode cX10_remove 22 = .ok (.aload_n 0, 1) := by decide +kernel
theorem dX10_remove_23 : decode cX10_remove 23 = .ok (.getfield 21, 3) := by decide +kernel
theorem dX10_remove_26 : decode cX10_remove 26 = .ok (.iload_n 2, 1) := by decide +kernel
theorem dX10_remove_27 : decode cX10_remove 27 = .ok (.iconst 1, 1) := by decide +kernel
theorem dX10_remove_28 : decode cX10_remove 28 = .ok (.isub, 1) := by decide +kernel
theorem dX10_remove_29 : decode cX10_remove 29 = .ok (.aload_n 0, 1) := by decide +kernel
theorem dX10_remove_30 : decode cX10_remove 30 = .ok (.getfield 21, 3) := by decide +kernel
theorem dX10_remove_33 : decode cX10_remove 33 = .ok (.iload_n 2, 1) := by decide +kernel
theorem dX10_remove_34 : decode cX10_remove 34 = .ok (.iaload, 1) := by decide +kernel
theorem dX10_remove_35 : decode cX10_remove 35 = .ok (.iastore, 1) := by decide +kernel
theorem dX10_remove_36 : decode cX10_remove 36 = .ok (.aload_n 0, 1) := by decide +kernel
theorem dX10_remove_37 : decode cX10_remove 37 = .ok (.getfield 24, 3) := by decide +kernel
theorem dX10_remove_40 : decode cX10_remove 40 = .ok (.iload_n 2, 1) := by decide +kernel
theorem dX10_remove_41 : decode cX10_remove 41 = .ok (.iconst 1, 1) := by decide +kernel
theorem dX10_remove_42 : decode cX10_remove 42 = .ok (.isub, 1) := by decide +kernel
theorem dX10_remove_43 : decode cX10_remove 43 = .ok (.aload_n 0, 1) := by decide +kernel
theorem dX10_remove_44 : decode cX10_remove 44 = .ok (.getfield 24, 3) := by decide +kernel
theorem dX10_remove_47 : decode cX10_remove 47 = .ok (.iload_n 2, 1) := by decide +kernel
theorem dX10_remove_48 : decode cX10_remove 48 = .ok (.iaload, 1) := by decide +kernel
theorem dX10_remove_49 : decode cX10_remove 49 = .ok (.iastore, 1) := by decide +kernel
theorem dX10_remove_50 : decode cX10_remove 50 = .ok (.aload_n 0, 1) := by decide +kernel
theorem dX10_remove_51 : decode cX10_remove 51 = .ok (.getfield 27, 3) := by decide +kernel
theorem dX10_remove_54 : decode cX10_remove 54 = .ok (.iload_n 2, 1) := by decide +kernel
theorem dX10_remove_55 : decode cX10_remove 55 = .ok (.iconst 1, 1) := by decide +kernel
theorem dX10_remove_56 : decode cX10_remove 56 = .ok (.isub, 1) := by decide +kernel
theorem dX10_remove_57 : decode cX10_remove 57 = .ok (.aload_n 0, 1) := by decide +kernel
theorem dX10_remove_58 : decode cX10_remove 58 = .ok (.getfield 27, 3) := by decide +kernel
theorem dX10_remove_61 : decode cX10_remove 61 = .ok (.iload_n 2, 1) := by decide +kernel
theorem dX10_remove_62 : decode cX10_remove 62 = .ok (.iaload, 1) := by decide +kernel
theorem dX10_remove_63 : decode cX10_remove 63 = .ok (.iastore, 1) := by decide +kernel
theorem dX10_remove_64 : decode cX10_remove 64 = .ok (.aload_n 0, 1) := by decide +kernel
theorem dX10_remove_65 : decode cX10_remove 65 = .ok (.getfield 30, 3) := by decide +kernel
theorem dX10_remove_68 : decode cX10_remove 68 = .ok (.iload_n 2, 1) := by decide +kernel
theorem dX10_remove_69 : decode cX10_remove 69 = .ok (.iconst 1, 1) := by decide +kernel
theorem dX10_remove_70 : decode cX10_remove 70 = .ok (.isub, 1) := by decide +kernel
theorem dX10_remove_71 : decode cX10_remove 71 = .ok (.aload_n 0, 1) := by decide +kernel
theorem dX10_remove_72 : decode cX10_remove 72 = .ok (.getfield 30, 3) := by decide +kernel
theorem dX10_remove_75 : decode cX10_remove 75 = .ok (.iload_n 2, 1) := by decide +kernel
theorem dX10_remove_76 : decode cX10_remove 76 = .ok (.iaload, 1) := by decide +kernel
theorem dX10_remove_77 : decode cX10_remove 77 = .ok (.iastore, 1) := by decide +kernel
theorem dX10_remove_78 : decode cX10_remove 78 = .ok (.iinc 2 1, 3) := by decide +kernel
theorem dX10_remove_81 : decode cX10_remove 81 = .ok (.goto (-77), 3) := by decide +kernel
theorem dX10_remove_84 : decode cX10_remove 84 = .ok (.aload_n 0, 1) := by decide +kernel
theorem dX10_remove_85 : decode cX10_remove 85 = .ok (.dup, 1) := by decide +kernel
theorem dX10_remove_86 : decode cX10_remove 86 = .ok (.getfield 45, 3) := by decide +kernel
theorem dX10_remove_89 : decode cX10_remove 89 = .ok (.iconst 1, 1) := by decide +kernel
theorem dX10_remove_90 : decode cX10_remove 90 = .ok (.isub, 1) := by decide +kernel
theorem dX10_remove_91 : decode cX10_remove 91 = .ok (.putfield 45, 3) := by decide +kernel
theorem dX10_remove_94 : decode cX10_remove 94 = .ok (.return_, 1) := by decide +kernel
set_option maxRecDepth 20000 in
theorem rX10_remove_0 {E : EN} (hE : Ep E) {k : Nat} {mem : Mm} {Q : Mm → Prop} {y p0 : Int} (hy : isYd y)
    (h : (R32 (p0 + 1)) ∧ VM E mX10_remove k mem 4 [(0, aR y), (2, aI (p0 + 1))] [] (retV Q)) :
    VM E mX10_remove k mem 0 [(0, aR y), (1, aI p0)] [] (retV Q) := by
  refine v_iload_n (pc := 0) dX10_remove_0 1 rfl ?_
  refine v_iconst (pc := 1) dX10_remove_1 (by decide) ?_
  obtain ⟨o1, h⟩ := h
  refine m_iadd (pc := 2) dX10_remove_2 o1 ?_
  refine v_istore_n (pc := 3) (al2 := [(2, aI (p0 + 1)), (0, aR y), (1, aI p0)]) dX10_remove_3 (by decide) rfl ?_
  exact VG_sub (al' := [(0, aR y), (2, aI (p0 + 1))]) [1, 0] rfl h
theorem eX10_remove {E : EN} {k : Nat} {mem : Mm} {Q : Mm → Prop} {y p0 : Int} (hr_p0 : R32 p0) (h : VM E mX10_remove k mem 0 [(0, aR y), (1, aI p0)] [] (retV Q)) : CV E mX10_remove k mem [aR y, aI p0] Q := CV_of rfl (Nat.le_of_ble_eq_true rfl) h (aNs_c (aNr_R _) (aNs_c (aNr_I hr_p0) (fun _ q => nomatch q)))
set_option maxRecDepth 20000 in
theorem rX10_remove_4 {E : EN} (hE : Ep E) {k : Nat} {mem : Mm} {Q : Mm → Prop} {y p0 x2 : Int} (hy : isYd y)
    (h : ((x2 ≤ 0 → (R32 ((mem y 10) - 1)) ∧ Q (aUp mem y 10 ((mem y 10) - 1))) ∧ (0 < x2 → (((mem y 10) ≤ x2 → (R32 ((mem y 10) - 1)) ∧ Q (aUp mem y 10 ((mem y 10) - 1))) ∧ (x2 < (mem y 10) → ((10 ≤ x2 → (R32 ((mem y 10) - 1)) ∧ Q (aUp mem y 10 ((mem y 10) - 1))) ∧ (x2 < 10 → (R32 (x2 - 1)) ∧ (0 ≤ x2 ∧ x2 < 10) ∧ (0 ≤ (x2 - 1) ∧ (x2 - 1) < 10) ∧ (R32 (x2 + 1)) ∧ VM E mX10_remove k (aUp (aUp (aUp (aUp mem (y + 4) (x2 - 1) (mem (y + 4) x2)) (y + 5) (x2 - 1) (mem (y + 5) x2)) (y + 6) (x2 - 1) (mem (y + 6) x2)) (y + 7) (x2 - 1) (mem (y + 7) x2)) 4 [(0, aR y), (2, aI (x2 + 1))] [] (retV Q)))))))) :
    VM E mX10_remove k mem 4 [(0, aR y), (2, aI x2)] [] (retV Q) := by
  refine v_iload_n (pc := 4) dX10_remove_4 1 rfl ?_
  refine v_ifle (pc := 5) (tgt := 84) dX10_remove_5 (by decide) (fun c1 => ?_) (fun c1 => ?_)
  · have h := h.1 c1
    refine v_aload_n (pc := 84) dX10_remove_84 0 rfl ?_
    refine v_dup (pc := 85) dX10_remove_85 rfl ?_
    refine m_getf (pc := 86) (t := 0) (v := (mem y 10)) dX10_remove_86 flX10_45 rfl (yd0 hy) rfl ?_
    refine v_iconst (pc := 89) dX10_remove_89 (by decide) ?_
    obtain ⟨o1, h⟩ := h
    refine m_isub (pc := 90) dX10_remove_90 o1 ?_
    refine v_putf (pc := 91) dX10_remove_91 flX10_45 ⟨_, _, rfl, Or.inl rfl⟩ rfl (by decide) (fun q => nomatch q) (Or.inl fun _ => rfl) (yd0 hy) ?_
    exact m_retV (pc := 94) dX10_remove_94 rfl h
  · have h := h.2 c1
    refine v_iload_n (pc := 8) dX10_remove_8 1 rfl ?_
    refine v_aload_n (pc := 9) dX10_remove_9 0 rfl ?_
    refine m_getf (pc := 10) (t := 0) (v := (mem y 10)) dX10_remove_10 flX10_45 rfl (yd0 hy) rfl ?_
    refine v_icmpge (pc := 13) (tgt := 84) dX10_remove_13 (by decide) (fun c1 => ?_) (fun c1 => ?_)
    · have h := h.1 c1
      refine v_aload_n (pc := 84) dX10_remove_84 0 rfl ?_
      refine v_dup (pc := 85) dX10_remove_85 rfl ?_
      refine m_getf (pc := 86) (t := 0) (v := (mem y 10)) dX10_remove_86 flX10_45 rfl (yd0 hy) rfl ?_
      refine v_iconst (pc := 89) dX10_remove_89 (by decide) ?_
      obtain ⟨o2, h⟩ := h
      refine m_isub (pc := 90) dX10_remove_90 o2 ?_
      refine v_putf (pc := 91) dX10_remove_91 flX10_45 ⟨_, _, rfl, Or.inl rfl⟩ rfl (by decide) (fun q => nomatch q) (Or.inl fun _ => rfl) (yd0 hy) ?_
      exact m_retV (pc := 94) dX10_remove_94 rfl h
    · have h := h.2 c1
      refine v_iload_n (pc := 16) dX10_remove_16 1 rfl ?_
      refine v_bipush (pc := 17) dX10_remove_17 (by decide) ?_
      refine v_icmpge (pc := 19) (tgt := 84) dX10_remove_19 (by decide) (fun c1 => ?_) (fun c1 => ?_)
      · have h := h.1 c1
        refine v_aload_n (pc := 84) dX10_remove_84 0 rfl ?_
        refine v_dup (pc := 85) dX10_remove_85 rfl ?_
        refine m_getf (pc := 86) (t := 0) (v := (mem y 10)) dX10_remove_86 flX10_45 rfl (yd0 hy) rfl ?_
        refine v_iconst (pc := 89) dX10_remove_89 (by decide) ?_
        obtain ⟨o3, h⟩ := h
        refine m_isub (pc := 90) dX10_remove_90 o3 ?_
        refine v_putf (pc := 91) dX10_remove_91 flX10_45 ⟨_, _, rfl, Or.inl rfl⟩ rfl (by decide) (fun q => nomatch q) (Or.inl fun _ => rfl) (yd0 hy) ?_
        exact m_retV (pc := 94) dX10_remove_94 rfl h
      · have h := h.2 c1
        refine v_aload_n (pc := 22) dX10_remove_22 0 rfl ?_
        refine m_getfin (pc := 23) (v := (y + 4)) hE dX10_remove_23 flX10_21 rfl (yd0 hy) rfl ?_
        refine v_iload_n (pc := 26) dX10_remove_26 1 rfl ?_
        refine v_iconst (pc := 27) dX10_remove_27 (by decide) ?_
        obtain ⟨o4, h⟩ := h
        refine m_isub (pc := 28) dX10_remove_28 o4 ?_
        refine v_aload_n (pc := 29) dX10_remove_29 0 rfl ?_
        refine m_getfin (pc := 30) (v := (y + 4)) hE dX10_remove_30 flX10_21 rfl (yd0 hy) rfl ?_
        refine v_iload_n (pc := 33) dX10_remove_33 1 rfl ?_
        obtain ⟨o5, h⟩ := h
        refine m_iald (pc := 34) (v := (mem (y + 4) x2)) dX10_remove_34 (yd4 hy) o5.1 o5.2 rfl ?_
        obtain ⟨o6, h⟩ := h
        refine v_iast (pc := 35) dX10_remove_35 (yd4 hy) o6.1 o6.2 ?_
        refine v_aload_n (pc := 36) dX10_remove_36 0 rfl ?_
        refine m_getfin (pc := 37) (v := (y + 5)) hE dX10_remove_37 flX10_24 rfl (yd0 hy) rfl ?_
        refine v_iload_n (pc := 40) dX10_remove_40 1 rfl ?_
        refine v_iconst (pc := 41) dX10_remove_41 (by decide) ?_
        refine m_isub (pc := 42) dX10_remove_42 o4 ?_
        refine v_aload_n (pc := 43) dX10_remove_43 0 rfl ?_
        refine m_getfin (pc := 44) (v := (y + 5)) hE dX10_remove_44 flX10_24 rfl (yd0 hy) rfl ?_
        refine v_iload_n (pc := 47) dX10_remove_47 1 rfl ?_
        refine m_iald (pc := 48) (v := (mem (y + 5) x2)) dX10_remove_48 (yd5 hy) o5.1 o5.2 (aUp_rn (by omega)) ?_
        refine v_iast (pc := 49) dX10_remove_49 (yd5 hy) o6.1 o6.2 ?_
        refine v_aload_n (pc := 50) dX10_remove_50 0 rfl ?_
        refine m_getfin (pc := 51) (v := (y + 6)) hE dX10_remove_51 flX10_27 rfl (yd0 hy) rfl ?_
        refine v_iload_n (pc := 54) dX10_remove_54 1 rfl ?_
        refine v_iconst (pc := 55) dX10_remove_55 (by decide) ?_
        refine m_isub (pc := 56) dX10_remove_56 o4 ?_
        refine v_aload_n (pc := 57) dX10_remove_57 0 rfl ?_
        refine m_getfin (pc := 58) (v := (y + 6)) hE dX10_remove_58 flX10_27 rfl (yd0 hy) rfl ?_
        refine v_iload_n (pc := 61) dX10_remove_61 1 rfl ?_
        refine m_iald (pc := 62) (v := (mem (y + 6) x2)) dX10_remove_62 (yd6 hy) o5.1 o5.2 ((aUp_rn (by omega)).trans (aUp_rn (by omega))) ?_
        refine v_iast (pc := 63) dX10_remove_63 (yd6 hy) o6.1 o6.2 ?_
        refine v_aload_n (pc := 64) dX10_remove_64 0 rfl ?_
        refine m_getfin (pc := 65) (v := (y + 7)) hE dX10_remove_65 flX10_30 rfl (yd0 hy) rfl ?_
        refine v_iload_n (pc := 68) dX10_remove_68 1 rfl ?_
        refine v_iconst (pc := 69) dX10_remove_69 (by decide) ?_
        refine m_isub (pc := 70) dX10_remove_70 o4 ?_
        refine v_aload_n (pc := 71) dX10_remove_71 0 rfl ?_
        refine m_getfin (pc := 72) (v := (y + 7)) hE dX10_remove_72 flX10_30 rfl (yd0 hy) rfl ?_
        refine v_iload_n (pc := 75) dX10_remove_75 1 rfl ?_
        refine m_iald (pc := 76) (v := (mem (y + 7) x2)) dX10_remove_76 (yd7 hy) o5.1 o5.2 ((aUp_rn (by omega)).trans ((aUp_rn (by omega)).trans (aUp_rn (by omega)))) ?_
        refine v_iast (pc := 77) dX10_remove_77 (yd7 hy) o6.1 o6.2 ?_
        obtain ⟨o7, h⟩ := h
        refine m_iinc (pc := 78) (al2 := [(2, aI (x2 + 1)), (0, aR y)]) dX10_remove_78 1 rfl (by decide) o7 rfl ?_
        refine v_goto (pc := 81) (tgt := 4) dX10_remove_81 (by decide) ?_
        exact VG_sub (al' := [(0, aR y), (2, aI (x2 + 1))]) [1, 0] rfl h

theorem dX10_turnYear_0 : decode cX10_turnYear 0 = .ok (.aload_n 0, 1) := by decide +kernel
theorem dX10_turnYear_1 : decode cX10_turnYear 1 = .ok (.iconst 0, 1) := by decide +kernel
theorem dX10_turnYear_2 : decode cX10_turnYear 2 = .ok (.putfield 108, 3) := by decide +kernel
theorem dX10_turnYear_5 : decode cX10_turnYear 5 = .ok (.aload_n 0, 1) := by decide +kernel
theorem dX10_turnYear_6 : decode cX10_turnYear 6 = .ok (.iconst 0, 1) := by decide +kernel
theorem dX10_turnYear_7 : decode cX10_turnYear 7 = .ok (.putfield 111, 3) := by decide +kernel
theorem dX10_turnYear_10 : decode cX10_turnYear 10 = .ok (.iconst 0, 1) := by decide +kernel
theorem dX10_turnYear_11 : decode cX10_turnYear 11 = .ok (.istore_n 1, 1) := by decide +kernel
theorem dX10_turnYear_12 : decode cX10_turnYear 12 = .ok (.iload_n 1, 1) := by decide +kernel
theorem dX10_turnYear_13 : decode cX10_turnYear 13 = .ok (.aload_n 0, 1) := by decide +kernel
theorem dX10_turnYear_14 : decode cX10_turnYear 14 = .ok (.getfield 45, 3) := by decide +kernel
theorem dX10_turnYear_17 : decode cX10_turnYear 17 = .ok (.if_icmp .ge 98, 3) := by decide +kernel
theorem dX10_turnYear_20 : decode cX10_turnYear 20 = .ok (.iload_n 1, 1) := by decide +kernel
theorem dX10_turnYear_21 : decode cX10_turnYear 21 = .ok (.bipush 10, 2) := by decide +kernel
theorem dX10_turnYear_23 : decode cX10_turnYear 23 = .ok (.if_icmp .ge 92, 3) := by decide +kernel
theorem dX10_turnYear_26 : decode cX10_turnYear 26 = .ok (.aload_n 0, 1) := by decide +kernel
theorem dX10_turnYear_27 : decode cX10_turnYear 27 = .ok (.iload_n 1, 1) := by decide +kernel
theorem dX10_turnYear_28 : decode cX10_turnYear 28 = .ok (.invokevirtual 114, 3) := by decide +kernel
theorem dX10_turnYear_31 : decode cX10_turnYear 31 = .ok (.istore_n 2, 1) := by decide +kernel
theorem dX10_turnYear_32 : decode cX10_turnYear 32 = .ok (.iconst 0, 1) := by decide +kernel
theorem dX10_turnYear_33 : decode cX10_turnYear 33 = .ok (.istore_n 3, 1) := by decide +kernel
theorem dX10_turnYear_34 : decode cX10_turnYear 34 = .ok (.iload_n 3, 1) := by decide +kernel
theorem dX10_turnYear_35 : decode cX10_turnYear 35 = .ok (.iload_n 2, 1) := by decide +kernel
theorem dX10_turnYear_36 : decode cX10_turnYear 36 = .ok (.if_icmp .ge 73, 3) := by decide +kernel
theorem dX10_turnYear_39 : decode cX10_turnYear 39 = .ok (.aload_n 0, 1) := by decide +kernel
theorem dX10_turnYear_40 : decode cX10_turnYear 40 = .ok (.getfield 21, 3) := by decide +kernel
theorem dX10_turnYear_43 : decode cX10_turnYear 43 = .ok (.iload_n 1, 1) := by decide +kernel
theorem dX10_turnYear_44 : decode cX10_turnYear 44 = .ok (.iaload, 1) := by decide +kernel
theorem dX10_turnYear_45 : decode cX10_turnYear 45 = .ok (.iconst 1, 1) := by decide +kernel
theorem dX10_turnYear_46 : decode cX10_turnYear 46 = .ok (.iadd, 1) := by decide +kernel
theorem dX10_turnYear_47 : decode cX10_turnYear 47 = .ok (.bipush 32, 2) := by decide +kernel
theorem dX10_turnYear_49 : decode cX10_turnYear 49 = .ok (.irem, 1) := by decide +kernel
theorem dX10_turnYear_50 : decode cX10_turnYear 50 = .ok (.istore 4, 2) := by decide +kernel
theorem dX10_turnYear_52 : decode cX10_turnYear 52 = .ok (.aload_n 0, 1) := by decide +kernel
theorem dX10_turnYear_53 : decode cX10_turnYear 53 = .ok (.iload 4, 2) := by decide +kernel
theorem dX10_turnYear_55 : decode cX10_turnYear 55 = .ok (.invokevirtual 49, 3) := by decide +kernel
theorem dX10_turnYear_58 : decode cX10_turnYear 58 = .ok (.iconst (-1), 1) := by decide +kernel
theorem dX10_turnYear_59 : decode cX10_turnYear 59 = .ok (.if_icmp .ne 13, 3) := by decide +kernel
theorem dX10_turnYear_62 : decode cX10_turnYear 62 = .ok (.aload_n 0, 1) := by decide +kernel
theorem dX10_turnYear_63 : decode cX10_turnYear 63 = .ok (.iload_n 1, 1) := by decide +kernel
theorem dX10_turnYear_64 : decode cX10_turnYear 64 = .ok (.iload 4, 2) := by decide +kernel
theorem dX10_turnYear_66 : decode cX10_turnYear 66 = .ok (.invokevirtual 117, 3) := by decide +kernel
theorem dX10_turnYear_69 : decode cX10_turnYear 69 = .ok (.ifCond .ne 16, 3) := by decide +kernel
theorem dX10_turnYear_72 : decode cX10_turnYear 72 = .ok (.aload_n 0, 1) := by decide +kernel
theorem dX10_turnYear_73 : decode cX10_turnYear 73 = .ok (.dup, 1) := by decide +kernel
theorem dX10_turnYear_74 : decode cX10_turnYear 74 = .ok (.getfield 111, 3) := by decide +kernel
theorem dX10_turnYear_77 : decode cX10_turnYear 77 = .ok (.iconst 1, 1) := by decide +kernel
theorem dX10_turnYear_78 : decode cX10_turnYear 78 = .ok (.iadd, 1) := by decide +kernel
theorem dX10_turnYear_79 : decode cX10_turnYear 79 = .ok (.putfield 111, 3) := by decide +kernel
theorem dX10_turnYear_82 : decode cX10_turnYear 82 = .ok (.goto 27, 3) := by decide +kernel
theorem dX10_turnYear_85 : decode cX10_turnYear 85 = .ok (.aload_n 0, 1) := by decide +kernel
theorem dX10_turnYear_86 : decode cX10_turnYear 86 = .ok (.getfield 21, 3) := by decide +kernel
theorem dX10_turnYear_89 : decode cX10_turnYear 89 = .ok (.iload_n 1, 1) := by decide +kernel
theorem dX10_turnYear_90 : decode cX10_turnYear 90 = .ok (.iload 4, 2) := by decide +kernel
theorem dX10_turnYear_92 : decode cX10_turnYear 92 = .ok (.iastore, 1) := by decide +kernel
theorem dX10_turnYear_93 : decode cX10_turnYear 93 = .ok (.aload_n 0, 1) := by decide +kernel
theorem dX10_turnYear_94 : decode cX10_turnYear 94 = .ok (.dup, 1) := by decide +kernel
theorem dX10_turnYear_95 : decode cX10_turnYear 95 = .ok (.getfield 108, 3) := by decide +kernel
theorem dX10_turnYear_98 : decode cX10_turnYear 98 = .ok (.iconst 1, 1) := by decide +kernel
theorem dX10_turnYear_99 : decode cX10_turnYear 99 = .ok (.iadd, 1) := by decide +kernel
theorem dX10_turnYear_100 : decode cX10_turnYear 100 = .ok (.putfield 108, 3) := by decide +kernel
theorem dX10_turnYear_103 : decode cX10_turnYear 103 = .ok (.iinc 3 1, 3) := by decide +kernel
theorem dX10_turnYear_106 : decode cX10_turnYear 106 = .ok (.goto (-72), 3) := by decide +kernel
theorem dX10_turnYear_109 : decode cX10_turnYear 109 = .ok (.iinc 1 1, 3) := by decide +kernel
theorem dX10_turnYear_112 : decode cX10_turnYear 112 = .ok (.goto (-100), 3) := by decide +kernel
theorem dX10_turnYear_115 : decode cX10_turnYear 115 = .ok (.aload_n 0, 1) := by decide +kernel
theorem dX10_turnYear_116 : decode cX10_turnYear 116 = .ok (.invokevirtual 120, 3) := by decide +kernel
theorem dX10_turnYear_119 : decode cX10_turnYear 119 = .ok (.return_, 1) := by decide +kernel
set_option maxRecDepth 20000 in
theorem rX10_turnYear_0 {E : EN} (hE : Ep E) {k : Nat} {mem : Mm} {Q : Mm → Prop} {y : Int} (hy : isYd y)
    (h : VM E mX10_turnYear (k + 1) (aUp (aUp mem y 11 0) y 12 0) 12 [(0, aR y), (1, aI 0)] [] (retV Q)) :
    VM E mX10_turnYear (k + 1) mem 0 [(0, aR y)] [] (retV Q) := by
  refine v_aload_n (pc := 0) dX10_turnYear_0 0 rfl ?_
  refine v_iconst (pc := 1) dX10_turnYear_1 (by decide) ?_
  refine v_putf (pc := 2) dX10_turnYear_2 flX10_108 ⟨_, _, rfl, Or.inl rfl⟩ rfl (by decide) (fun q => nomatch q) (Or.inl fun _ => rfl) (yd0 hy) ?_
  refine v_aload_n (pc := 5) dX10_turnYear_5 0 rfl ?_
  refine v_iconst (pc := 6) dX10_turnYear_6 (by decide) ?_
  refine v_putf (pc := 7) dX10_turnYear_7 flX10_111 ⟨_, _, rfl, Or.inl rfl⟩ rfl (by decide) (fun q => nomatch q) (Or.inl fun _ => rfl) (yd0 hy) ?_
  refine v_iconst (pc := 10) dX10_turnYear_10 (by decide) ?_
  refine v_istore_n (pc := 11) (al2 := [(1, aI 0), (0, aR y)]) dX10_turnYear_11 (by decide) rfl ?_
  exact VG_sub (al' := [(0, aR y), (1, aI 0)]) [1, 0] rfl h
theorem eX10_turnYear {E : EN} {k : Nat} {mem : Mm} {Q : Mm → Prop} {y : Int}  (h : VM E mX10_turnYear (k + 1) mem 0 [(0, aR y)] [] (retV Q)) : CV E mX10_turnYear (k + 1) mem [aR y] Q := CV_of rfl (Nat.le_of_ble_eq_true rfl) h (aNs_c (aNr_R _) (fun _ q => nomatch q))
set_option maxRecDepth 20000 in
theorem rX10_turnYear_12 {E : EN} (hE : Ep E) {k : Nat} {mem : Mm} {Q : Mm → Prop} {y x1 : Int} (hy : isYd y)
    (h : (((mem y 10) ≤ x1 → (CV E mX10_age k mem [aR y] (fun m1 => Q m1))) ∧ (x1 < (mem y 10) → ((10 ≤ x1 → (CV E mX10_age k mem [aR y] (fun m2 => Q m2))) ∧ (x1 < 10 → (R32 x1 → CI E mX10_movesOf k mem [aR y, aI x1] (fun r4 m3 => VM E mX10_turnYear (k + 1) m3 34 [(0, aR y), (1, aI x1), (2, aI r4), (3, aI 0)] [] (retV Q)))))))) :
    VM E mX10_turnYear (k + 1) mem 12 [(0, aR y), (1, aI x1)] [] (retV Q) := by
  refine v_iload_n (pc := 12) dX10_turnYear_12 1 rfl ?_
  refine v_aload_n (pc := 13) dX10_turnYear_13 0 rfl ?_
  refine m_getf (pc := 14) (t := 0) (v := (mem y 10)) dX10_turnYear_14 flX10_45 rfl (yd0 hy) rfl ?_
  refine v_icmpge (pc := 17) (tgt := 115) dX10_turnYear_17 (by decide) (fun c1 => ?_) (fun c1 => ?_)
  · have h := h.1 c1
    refine v_aload_n (pc := 115) dX10_turnYear_115 0 rfl ?_
    refine m_invV (pc := 116) (mi' := mX10_age) (rest := []) [] dX10_turnYear_116 (yd0 hy) (by decide) rfl msX10_age mvX10_age lkX10_120 rfl (Nat.le_of_ble_eq_true rfl) (fun hn => CV_mono (h) (fun m1 h => ?_))
    exact m_retV (pc := 119) dX10_turnYear_119 rfl h
  · have h := h.2 c1
    refine v_iload_n (pc := 20) dX10_turnYear_20 1 rfl ?_
    refine v_bipush (pc := 21) dX10_turnYear_21 (by decide) ?_
    refine v_icmpge (pc := 23) (tgt := 115) dX10_turnYear_23 (by decide) (fun c1 => ?_) (fun c1 => ?_)
    · have h := h.1 c1
      refine v_aload_n (pc := 115) dX10_turnYear_115 0 rfl ?_
      refine m_invV (pc := 116) (mi' := mX10_age) (rest := []) [] dX10_turnYear_116 (yd0 hy) (by decide) rfl msX10_age mvX10_age lkX10_120 rfl (Nat.le_of_ble_eq_true rfl) (fun hn => CV_mono (h) (fun m2 h => ?_))
      exact m_retV (pc := 119) dX10_turnYear_119 rfl h
    · have h := h.2 c1
      refine v_aload_n (pc := 26) dX10_turnYear_26 0 rfl ?_
      refine v_iload_n (pc := 27) dX10_turnYear_27 1 rfl ?_
      refine m_invI (pc := 28) (mi' := mX10_movesOf) (rest := []) [aI x1] dX10_turnYear_28 (yd0 hy) (by decide) rfl msX10_movesOf mvX10_movesOf lkX10_114 rfl (Nat.le_of_ble_eq_true rfl) (fun hn => CI_mono (h (aaI hn 1 rfl)) (fun r4 m3 h => ?_))
      refine v_istore_n (pc := 31) (al2 := [(2, aI r4), (0, aR y), (1, aI x1)]) dX10_turnYear_31 (by decide) rfl ?_
      refine v_iconst (pc := 32) dX10_turnYear_32 (by decide) ?_
      refine v_istore_n (pc := 33) (al2 := [(3, aI 0), (2, aI r4), (0, aR y), (1, aI x1)]) dX10_turnYear_33 (by decide) rfl ?_
      exact VG_sub (al' := [(0, aR y), (1, aI x1), (2, aI r4), (3, aI 0)]) [2, 3, 1, 0] rfl h
set_option maxRecDepth 20000 in
theorem rX10_turnYear_34 {E : EN} (hE : Ep E) {k : Nat} {mem : Mm} {Q : Mm → Prop} {y x1 x2 x3 : Int} (hy : isYd y)
    (h : ((x2 ≤ x3 → (R32 (x1 + 1)) ∧ VM E mX10_turnYear (k + 1) mem 12 [(0, aR y), (1, aI (x1 + 1))] [] (retV Q)) ∧ (x3 < x2 → (0 ≤ x1 ∧ x1 < 10) ∧ (R32 ((mem (y + 4) x1) + 1)) ∧ (R32 (Int.tmod ((mem (y + 4) x1) + 1) 32) → CI E mX10_plotIn k mem [aR y, aI (Int.tmod ((mem (y + 4) x1) + 1) 32)] (fun r5 m4 => ((¬ r5 = (-1) → (R32 ((m4 y 12) + 1)) ∧ (R32 (x1 + 1)) ∧ VM E mX10_turnYear (k + 1) (aUp m4 y 12 ((m4 y 12) + 1)) 12 [(0, aR y), (1, aI (x1 + 1))] [] (retV Q)) ∧ (r5 = (-1) → (R32 x1 → R32 (Int.tmod ((mem (y + 4) x1) + 1) 32) → CI E mX10_mayGo k m4 [aR y, aI x1, aI (Int.tmod ((mem (y + 4) x1) + 1) 32)] (fun r9 m8 => ((¬ r9 = 0 → (R32 ((m8 y 11) + 1)) ∧ (R32 (x3 + 1)) ∧ VM E mX10_turnYear (k + 1) (aUp (aUp m8 (y + 4) x1 (Int.tmod ((mem (y + 4) x1) + 1) 32)) y 11 ((m8 y 11) + 1)) 34 [(0, aR y), (1, aI x1), (2, aI x2), (3, aI (x3 + 1))] [] (retV Q)) ∧ (r9 = 0 → (R32 ((m8 y 12) + 1)) ∧ (R32 (x1 + 1)) ∧ VM E mX10_turnYear (k + 1) (aUp m8 y 12 ((m8 y 12) + 1)) 12 [(0, aR y), (1, aI (x1 + 1))] [] (retV Q)))))))))))) :
    VM E mX10_turnYear (k + 1) mem 34 [(0, aR y), (1, aI x1), (2, aI x2), (3, aI x3)] [] (retV Q) := by
  refine v_iload_n (pc := 34) dX10_turnYear_34 3 rfl ?_
  refine v_iload_n (pc := 35) dX10_turnYear_35 2 rfl ?_
  refine v_icmpge (pc := 36) (tgt := 109) dX10_turnYear_36 (by decide) (fun c1 => ?_) (fun c1 => ?_)
  · have h := h.1 c1
    obtain ⟨o1, h⟩ := h
    refine m_iinc (pc := 109) (al2 := [(1, aI (x1 + 1)), (0, aR y), (2, aI x2), (3, aI x3)]) dX10_turnYear_109 1 rfl (by decide) o1 rfl ?_
    refine v_goto (pc := 112) (tgt := 12) dX10_turnYear_112 (by decide) ?_
    exact VG_sub (al' := [(0, aR y), (1, aI (x1 + 1))]) [1, 0] rfl h
  · have h := h.2 c1
    refine v_aload_n (pc := 39) dX10_turnYear_39 0 rfl ?_
    refine m_getfin (pc := 40) (v := (y + 4)) hE dX10_turnYear_40 flX10_21 rfl (yd0 hy) rfl ?_
    refine v_iload_n (pc := 43) dX10_turnYear_43 1 rfl ?_
    obtain ⟨o2, h⟩ := h
    refine m_iald (pc := 44) (v := (mem (y + 4) x1)) dX10_turnYear_44 (yd4 hy) o2.1 o2.2 rfl ?_
    refine v_iconst (pc := 45) dX10_turnYear_45 (by decide) ?_
    obtain ⟨o3, h⟩ := h
    refine m_iadd (pc := 46) dX10_turnYear_46 o3 ?_
    refine v_bipush (pc := 47) dX10_turnYear_47 (by decide) ?_
    refine v_irem (pc := 49) dX10_turnYear_49 (by decide) ?_
    refine v_istore (pc := 50) (al2 := [(4, aI (Int.tmod ((mem (y + 4) x1) + 1) 32)), (0, aR y), (1, aI x1), (2, aI x2), (3, aI x3)]) dX10_turnYear_50 (by decide) rfl ?_
    refine v_aload_n (pc := 52) dX10_turnYear_52 1 rfl ?_
    refine v_iload (pc := 53) dX10_turnYear_53 0 rfl ?_
    refine m_invI (pc := 55) (mi' := mX10_plotIn) (rest := []) [aI (Int.tmod ((mem (y + 4) x1) + 1) 32)] dX10_turnYear_55 (yd0 hy) (by decide) rfl msX10_plotIn mvX10_plotIn lkX10_49 rfl (Nat.le_of_ble_eq_true rfl) (fun hn => CI_mono (h (aaI hn 1 rfl)) (fun r5 m4 h => ?_))
    refine v_iconst (pc := 58) dX10_turnYear_58 (by decide) ?_
    refine v_icmpne (pc := 59) (tgt := 72) dX10_turnYear_59 (by decide) (fun c1 => ?_) (fun c1 => ?_)
    · have h := h.1 c1
      refine v_aload_n (pc := 72) dX10_turnYear_72 1 rfl ?_
      refine v_dup (pc := 73) dX10_turnYear_73 rfl ?_
      refine m_getf (pc := 74) (t := 0) (v := (m4 y 12)) dX10_turnYear_74 flX10_111 rfl (yd0 hy) rfl ?_
      refine v_iconst (pc := 77) dX10_turnYear_77 (by decide) ?_
      obtain ⟨o6, h⟩ := h
      refine m_iadd (pc := 78) dX10_turnYear_78 o6 ?_
      refine v_putf (pc := 79) dX10_turnYear_79 flX10_111 ⟨_, _, rfl, Or.inl rfl⟩ rfl (by decide) (fun q => nomatch q) (Or.inl fun _ => rfl) (yd0 hy) ?_
      refine v_goto (pc := 82) (tgt := 109) dX10_turnYear_82 (by decide) ?_
      obtain ⟨o7, h⟩ := h
      refine m_iinc (pc := 109) (al2 := [(1, aI (x1 + 1)), (4, aI (Int.tmod ((mem (y + 4) x1) + 1) 32)), (0, aR y), (2, aI x2), (3, aI x3)]) dX10_turnYear_109 2 rfl (by decide) o7 rfl ?_
      refine v_goto (pc := 112) (tgt := 12) dX10_turnYear_112 (by decide) ?_
      exact VG_sub (al' := [(0, aR y), (1, aI (x1 + 1))]) [2, 0] rfl h
    · have h := h.2 c1
      refine v_aload_n (pc := 62) dX10_turnYear_62 1 rfl ?_
      refine v_iload_n (pc := 63) dX10_turnYear_63 2 rfl ?_
      refine v_iload (pc := 64) dX10_turnYear_64 0 rfl ?_
      refine m_invI (pc := 66) (mi' := mX10_mayGo) (rest := []) [aI x1, aI (Int.tmod ((mem (y + 4) x1) + 1) 32)] dX10_turnYear_66 (yd0 hy) (by decide) rfl msX10_mayGo mvX10_mayGo lkX10_117 rfl (Nat.le_of_ble_eq_true rfl) (fun hn => CI_mono (h (aaI hn 1 rfl) (aaI hn 2 rfl)) (fun r9 m8 h => ?_))
      refine v_ifne (pc := 69) (tgt := 85) dX10_turnYear_69 (by decide) (fun c1 => ?_) (fun c1 => ?_)
      · have h := h.1 c1
        refine v_aload_n (pc := 85) dX10_turnYear_85 1 rfl ?_
        refine m_getfin (pc := 86) (v := (y + 4)) hE dX10_turnYear_86 flX10_21 rfl (yd0 hy) rfl ?_
        refine v_iload_n (pc := 89) dX10_turnYear_89 2 rfl ?_
        refine v_iload (pc := 90) dX10_turnYear_90 0 rfl ?_
        refine v_iast (pc := 92) dX10_turnYear_92 (yd4 hy) o2.1 o2.2 ?_
        refine v_aload_n (pc := 93) dX10_turnYear_93 1 rfl ?_
        refine v_dup (pc := 94) dX10_turnYear_94 rfl ?_
        refine m_getf (pc := 95) (t := 0) (v := (m8 y 11)) dX10_turnYear_95 flX10_108 rfl (yd0 hy) (aUp_rn (by omega)) ?_
        refine v_iconst (pc := 98) dX10_turnYear_98 (by decide) ?_
        obtain ⟨o10, h⟩ := h
        refine m_iadd (pc := 99) dX10_turnYear_99 o10 ?_
        refine v_putf (pc := 100) dX10_turnYear_100 flX10_108 ⟨_, _, rfl, Or.inl rfl⟩ rfl (by decide) (fun q => nomatch q) (Or.inl fun _ => rfl) (yd0 hy) ?_
        obtain ⟨o11, h⟩ := h
        refine m_iinc (pc := 103) (al2 := [(3, aI (x3 + 1)), (4, aI (Int.tmod ((mem (y + 4) x1) + 1) 32)), (0, aR y), (1, aI x1), (2, aI x2)]) dX10_turnYear_103 4 rfl (by decide) o11 rfl ?_
        refine v_goto (pc := 106) (tgt := 34) dX10_turnYear_106 (by decide) ?_
        exact VG_sub (al' := [(0, aR y), (1, aI x1), (2, aI x2), (3, aI (x3 + 1))]) [2, 3, 4, 0] rfl h
      · have h := h.2 c1
        refine v_aload_n (pc := 72) dX10_turnYear_72 1 rfl ?_
        refine v_dup (pc := 73) dX10_turnYear_73 rfl ?_
        refine m_getf (pc := 74) (t := 0) (v := (m8 y 12)) dX10_turnYear_74 flX10_111 rfl (yd0 hy) rfl ?_
        refine v_iconst (pc := 77) dX10_turnYear_77 (by decide) ?_
        obtain ⟨o12, h⟩ := h
        refine m_iadd (pc := 78) dX10_turnYear_78 o12 ?_
        refine v_putf (pc := 79) dX10_turnYear_79 flX10_111 ⟨_, _, rfl, Or.inl rfl⟩ rfl (by decide) (fun q => nomatch q) (Or.inl fun _ => rfl) (yd0 hy) ?_
        refine v_goto (pc := 82) (tgt := 109) dX10_turnYear_82 (by decide) ?_
        obtain ⟨o13, h⟩ := h
        refine m_iinc (pc := 109) (al2 := [(1, aI (x1 + 1)), (4, aI (Int.tmod ((mem (y + 4) x1) + 1) 32)), (0, aR y), (2, aI x2), (3, aI x3)]) dX10_turnYear_109 2 rfl (by decide) o13 rfl ?_
        refine v_goto (pc := 112) (tgt := 12) dX10_turnYear_112 (by decide) ?_
        exact VG_sub (al' := [(0, aR y), (1, aI (x1 + 1))]) [2, 0] rfl h

theorem dX10_age_0 : decode cX10_age 0 = .ok (.iconst 0, 1) := by decide +kernel
theorem dX10_age_1 : decode cX10_age 1 = .ok (.istore_n 1, 1) := by decide +kernel
theorem dX10_age_2 : decode cX10_age 2 = .ok (.iload_n 1, 1) := by decide +kernel
theorem dX10_age_3 : decode cX10_age 3 = .ok (.aload_n 0, 1) := by decide +kernel
theorem dX10_age_4 : decode cX10_age 4 = .ok (.getfield 45, 3) := by decide +kernel
theorem dX10_age_7 : decode cX10_age 7 = .ok (.if_icmp .ge 35, 3) := by decide +kernel
theorem dX10_age_10 : decode cX10_age 10 = .ok (.iload_n 1, 1) := by decide +kernel
theorem dX10_age_11 : decode cX10_age 11 = .ok (.bipush 10, 2) := by decide +kernel
theorem dX10_age_13 : decode cX10_age 13 = .ok (.if_icmp .ge 29, 3) := by decide +kernel
theorem dX10_age_16 : decode cX10_age 16 = .ok (.aload_n 0, 1) := by decide +kernel
theorem dX10_age_17 : decode cX10_age 17 = .ok (.getfield 30, 3) := by decide +kernel
theorem dX10_age_20 : decode cX10_age 20 = .ok (.iload_n 1, 1) := by decide +kernel
theorem dX10_age_21 : decode cX10_age 21 = .ok (.sipush 999, 3) := by decide +kernel
theorem dX10_age_24 : decode cX10_age 24 = .ok (.aload_n 0, 1) := by decide +kernel
theorem dX10_age_25 : decode cX10_age 25 = .ok (.getfield 30, 3) := by decide +kernel
theorem dX10_age_28 : decode cX10_age 28 = .ok (.iload_n 1, 1) := by decide +kernel
theorem dX10_age_29 : decode cX10_age 29 = .ok (.iaload, 1) := by decide +kernel
theorem dX10_age_30 : decode cX10_age 30 = .ok (.iconst 1, 1) := by decide +kernel
theorem dX10_age_31 : decode cX10_age 31 = .ok (.iadd, 1) := by decide +kernel
theorem dX10_age_32 : decode cX10_age 32 = .ok (.invokestatic 83, 3) := by decide +kernel
theorem dX10_age_35 : decode cX10_age 35 = .ok (.iastore, 1) := by decide +kernel
theorem dX10_age_36 : decode cX10_age 36 = .ok (.iinc 1 1, 3) := by decide +kernel
theorem dX10_age_39 : decode cX10_age 39 = .ok (.goto (-37), 3) := by decide +kernel
theorem dX10_age_42 : decode cX10_age 42 = .ok (.aload_n 0, 1) := by decide +kernel
theorem dX10_age_43 : decode cX10_age 43 = .ok (.getfield 33, 3) := by decide +kernel
theorem dX10_age_46 : decode cX10_age 46 = .ok (.iconst 0, 1) := by decide +kernel
theorem dX10_age_47 : decode cX10_age 47 = .ok (.dup2, 1) := by decide +kernel
theorem dX10_age_48 : decode cX10_age 48 = .ok (.iaload, 1) := by decide +kernel
theorem dX10_age_49 : decode cX10_age 49 = .ok (.iconst 1, 1) := by decide +kernel
theorem dX10_age_50 : decode cX10_age 50 = .ok (.iadd, 1) := by decide +kernel
theorem dX10_age_51 : decode cX10_age 51 = .ok (.iastore, 1) := by decide +kernel
theorem dX10_age_52 : decode cX10_age 52 = .ok (.return_, 1) := by decide +kernel
set_option maxRecDepth 20000 in
theorem rX10_age_0 {E : EN} (hE : Ep E) {k : Nat} {mem : Mm} {Q : Mm → Prop} {y : Int} (hy : isYd y)
    (h : VM E mX10_age (k + 1) mem 2 [(0, aR y), (1, aI 0)] [] (retV Q)) :
    VM E mX10_age (k + 1) mem 0 [(0, aR y)] [] (retV Q) := by
  refine v_iconst (pc := 0) dX10_age_0 (by decide) ?_
  refine v_istore_n (pc := 1) (al2 := [(1, aI 0), (0, aR y)]) dX10_age_1 (by decide) rfl ?_
  exact VG_sub (al' := [(0, aR y), (1, aI 0)]) [1, 0] rfl h
theorem eX10_age {E : EN} {k : Nat} {mem : Mm} {Q : Mm → Prop} {y : Int}  (h : VM E mX10_age (k + 1) mem 0 [(0, aR y)] [] (retV Q)) : CV E mX10_age (k + 1) mem [aR y] Q := CV_of rfl (Nat.le_of_ble_eq_true rfl) h (aNs_c (aNr_R _) (fun _ q => nomatch q))
set_option maxRecDepth 20000 in
theorem rX10_age_2 {E : EN} (hE : Ep E) {k : Nat} {mem : Mm} {Q : Mm → Prop} {y x1 : Int} (hy : isYd y)
    (h : (((mem y 10) ≤ x1 → (R32 ((mem (y + 8) 0) + 1)) ∧ Q (aUp mem (y + 8) 0 ((mem (y + 8) 0) + 1))) ∧ (x1 < (mem y 10) → ((10 ≤ x1 → (R32 ((mem (y + 8) 0) + 1)) ∧ Q (aUp mem (y + 8) 0 ((mem (y + 8) 0) + 1))) ∧ (x1 < 10 → (0 ≤ x1 ∧ x1 < 10) ∧ (R32 ((mem (y + 7) x1) + 1)) ∧ (R32 (x1 + 1)) ∧ VM E mX10_age (k + 1) (aUp mem (y + 7) x1 (min 999 ((mem (y + 7) x1) + 1))) 2 [(0, aR y), (1, aI (x1 + 1))] [] (retV Q)))))) :
    VM E mX10_age (k + 1) mem 2 [(0, aR y), (1, aI x1)] [] (retV Q) := by
  refine v_iload_n (pc := 2) dX10_age_2 1 rfl ?_
  refine v_aload_n (pc := 3) dX10_age_3 0 rfl ?_
  refine m_getf (pc := 4) (t := 0) (v := (mem y 10)) dX10_age_4 flX10_45 rfl (yd0 hy) rfl ?_
  refine v_icmpge (pc := 7) (tgt := 42) dX10_age_7 (by decide) (fun c1 => ?_) (fun c1 => ?_)
  · have h := h.1 c1
    refine v_aload_n (pc := 42) dX10_age_42 0 rfl ?_
    refine m_getfin (pc := 43) (v := (y + 8)) hE dX10_age_43 flX10_33 rfl (yd0 hy) rfl ?_
    refine v_iconst (pc := 46) dX10_age_46 (by decide) ?_
    refine v_dup2 (pc := 47) dX10_age_47 rfl rfl ?_
    refine m_iald (pc := 48) (v := (mem (y + 8) 0)) dX10_age_48 (yd8 hy) (by omega) (by omega) rfl ?_
    refine v_iconst (pc := 49) dX10_age_49 (by decide) ?_
    obtain ⟨o1, h⟩ := h
    refine m_iadd (pc := 50) dX10_age_50 o1 ?_
    refine v_iast (pc := 51) dX10_age_51 (yd8 hy) (by omega) (by omega) ?_
    exact m_retV (pc := 52) dX10_age_52 rfl h
  · have h := h.2 c1
    refine v_iload_n (pc := 10) dX10_age_10 1 rfl ?_
    refine v_bipush (pc := 11) dX10_age_11 (by decide) ?_
    refine v_icmpge (pc := 13) (tgt := 42) dX10_age_13 (by decide) (fun c1 => ?_) (fun c1 => ?_)
    · have h := h.1 c1
      refine v_aload_n (pc := 42) dX10_age_42 0 rfl ?_
      refine m_getfin (pc := 43) (v := (y + 8)) hE dX10_age_43 flX10_33 rfl (yd0 hy) rfl ?_
      refine v_iconst (pc := 46) dX10_age_46 (by decide) ?_
      refine v_dup2 (pc := 47) dX10_age_47 rfl rfl ?_
      refine m_iald (pc := 48) (v := (mem (y + 8) 0)) dX10_age_48 (yd8 hy) (by omega) (by omega) rfl ?_
      refine v_iconst (pc := 49) dX10_age_49 (by decide) ?_
      obtain ⟨o2, h⟩ := h
      refine m_iadd (pc := 50) dX10_age_50 o2 ?_
      refine v_iast (pc := 51) dX10_age_51 (yd8 hy) (by omega) (by omega) ?_
      exact m_retV (pc := 52) dX10_age_52 rfl h
    · have h := h.2 c1
      refine v_aload_n (pc := 16) dX10_age_16 0 rfl ?_
      refine m_getfin (pc := 17) (v := (y + 7)) hE dX10_age_17 flX10_30 rfl (yd0 hy) rfl ?_
      refine v_iload_n (pc := 20) dX10_age_20 1 rfl ?_
      refine v_sipush (pc := 21) dX10_age_21 (by decide) ?_
      refine v_aload_n (pc := 24) dX10_age_24 0 rfl ?_
      refine m_getfin (pc := 25) (v := (y + 7)) hE dX10_age_25 flX10_30 rfl (yd0 hy) rfl ?_
      refine v_iload_n (pc := 28) dX10_age_28 1 rfl ?_
      obtain ⟨o3, h⟩ := h
      refine m_iald (pc := 29) (v := (mem (y + 7) x1)) dX10_age_29 (yd7 hy) o3.1 o3.2 rfl ?_
      refine v_iconst (pc := 30) dX10_age_30 (by decide) ?_
      obtain ⟨o4, h⟩ := h
      refine m_iadd (pc := 31) dX10_age_31 o4 ?_
      refine m_mmin (pc := 32) dX10_age_32 lmX10_83 sM_min iM cM_min (Nat.le_of_ble_eq_true rfl) ?_
      refine v_iast (pc := 35) dX10_age_35 (yd7 hy) o3.1 o3.2 ?_
      obtain ⟨o5, h⟩ := h
      refine m_iinc (pc := 36) (al2 := [(1, aI (x1 + 1)), (0, aR y)]) dX10_age_36 1 rfl (by decide) o5 rfl ?_
      refine v_goto (pc := 39) (tgt := 2) dX10_age_39 (by decide) ?_
      exact VG_sub (al' := [(0, aR y), (1, aI (x1 + 1))]) [1, 0] rfl h
