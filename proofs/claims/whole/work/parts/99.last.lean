theorem dX10_plotIn_0 : decode cX10_plotIn 0 = .ok (.iconst 0, 1) := by decide +kernel
theorem dX10_plotIn_1 : decode cX10_plotIn 1 = .ok (.istore_n 2, 1) := by decide +kernel
theorem dX10_plotIn_2 : decode cX10_plotIn 2 = .ok (.iload_n 2, 1) := by decide +kernel
theorem dX10_plotIn_3 : decode cX10_plotIn 3 = .ok (.aload_n 0, 1) := by decide +kernel
theorem dX10_plotIn_4 : decode cX10_plotIn 4 = .ok (.getfield 45, 3) := by decide +kernel
theorem dX10_plotIn_7 : decode cX10_plotIn 7 = .ok (.if_icmp .ge 27, 3) := by decide +kernel
theorem dX10_plotIn_10 : decode cX10_plotIn 10 = .ok (.iload_n 2, 1) := by decide +kernel
theorem dX10_plotIn_11 : decode cX10_plotIn 11 = .ok (.bipush 10, 2) := by decide +kernel
theorem dX10_plotIn_13 : decode cX10_plotIn 13 = .ok (.if_icmp .ge 21, 3) := by decide +kernel
theorem dX10_plotIn_16 : decode cX10_plotIn 16 = .ok (.aload_n 0, 1) := by decide +kernel
theorem dX10_plotIn_17 : decode cX10_plotIn 17 = .ok (.getfield 21, 3) := by decide +kernel
theorem dX10_plotIn_20 : decode cX10_plotIn 20 = .ok (.iload_n 2, 1) := by decide +kernel
theorem dX10_plotIn_21 : decode cX10_plotIn 21 = .ok (.iaload, 1) := by decide +kernel
theorem dX10_plotIn_22 : decode cX10_plotIn 22 = .ok (.iload_n 1, 1) := by decide +kernel
theorem dX10_plotIn_23 : decode cX10_plotIn 23 = .ok (.if_icmp .ne 5, 3) := by decide +kernel
theorem dX10_plotIn_26 : decode cX10_plotIn 26 = .ok (.iload_n 2, 1) := by decide +kernel
theorem dX10_plotIn_27 : decode cX10_plotIn 27 = .ok (.ireturn, 1) := by decide +kernel
theorem dX10_plotIn_28 : decode cX10_plotIn 28 = .ok (.iinc 2 1, 3) := by decide +kernel
theorem dX10_plotIn_31 : decode cX10_plotIn 31 = .ok (.goto (-29), 3) := by decide +kernel
theorem dX10_plotIn_34 : decode cX10_plotIn 34 = .ok (.iconst (-1), 1) := by decide +kernel
theorem dX10_plotIn_35 : decode cX10_plotIn 35 = .ok (.ireturn, 1) := by decide +kernel
set_option maxRecDepth 20000 in
theorem rX10_plotIn_0 {E : EN} (hE : Ep E) {k : Nat} {mem : Mm} {Q : Int → Mm → Prop} {y p0 : Int} (hy : isYd y)
    (h : VM E mX10_plotIn k mem 2 [(0, aR y), (1, aI p0), (2, aI 0)] [] (retI Q)) :
    VM E mX10_plotIn k mem 0 [(0, aR y), (1, aI p0)] [] (retI Q) := by
  refine v_iconst (pc := 0) dX10_plotIn_0 (by decide) ?_
  refine v_istore_n (pc := 1) (al2 := [(2, aI 0), (0, aR y), (1, aI p0)]) dX10_plotIn_1 (by decide) rfl ?_
  exact VG_sub (al' := [(0, aR y), (1, aI p0), (2, aI 0)]) [1, 2, 0] rfl h
theorem eX10_plotIn {E : EN} {k : Nat} {mem : Mm} {Q : Int → Mm → Prop} {y p0 : Int} (hr_p0 : R32 p0) (h : VM E mX10_plotIn k mem 0 [(0, aR y), (1, aI p0)] [] (retI Q)) : CI E mX10_plotIn k mem [aR y, aI p0] Q := CI_of rfl (by decide) h (aNs_c (aNr_R _) (aNs_c (aNr_I hr_p0) (fun _ q => nomatch q)))
set_option maxRecDepth 20000 in
theorem rX10_plotIn_2 {E : EN} (hE : Ep E) {k : Nat} {mem : Mm} {Q : Int → Mm → Prop} {y p0 x2 : Int} (hy : isYd y)
    (h : (((mem y 10) ≤ x2 → Q (-1) mem) ∧ (x2 < (mem y 10) → ((10 ≤ x2 → Q (-1) mem) ∧ (x2 < 10 → (0 ≤ x2 ∧ x2 < 10) ∧ ((¬ (mem (y + 4) x2) = p0 → (R32 (x2 + 1)) ∧ VM E mX10_plotIn k mem 2 [(0, aR y), (1, aI p0), (2, aI (x2 + 1))] [] (retI Q)) ∧ ((mem (y + 4) x2) = p0 → Q x2 mem))))))) :
    VM E mX10_plotIn k mem 2 [(0, aR y), (1, aI p0), (2, aI x2)] [] (retI Q) := by
  refine v_iload_n (pc := 2) dX10_plotIn_2 2 rfl ?_
  refine v_aload_n (pc := 3) dX10_plotIn_3 0 rfl ?_
  refine m_getf (pc := 4) (t := 0) (v := (mem y 10)) dX10_plotIn_4 flX10_45 rfl (yd0 hy) rfl ?_
  refine v_icmpge (pc := 7) (tgt := 34) dX10_plotIn_7 (by decide) (fun c1 => ?_) (fun c1 => ?_)
  · have h := h.1 c1
    refine v_iconst (pc := 34) dX10_plotIn_34 (by decide) ?_
    exact m_retI (pc := 35) dX10_plotIn_35 rfl h
  · have h := h.2 c1
    refine v_iload_n (pc := 10) dX10_plotIn_10 2 rfl ?_
    refine v_bipush (pc := 11) dX10_plotIn_11 (by decide) ?_
    refine v_icmpge (pc := 13) (tgt := 34) dX10_plotIn_13 (by decide) (fun c1 => ?_) (fun c1 => ?_)
    · have h := h.1 c1
      refine v_iconst (pc := 34) dX10_plotIn_34 (by decide) ?_
      exact m_retI (pc := 35) dX10_plotIn_35 rfl h
    · have h := h.2 c1
      refine v_aload_n (pc := 16) dX10_plotIn_16 0 rfl ?_
      refine m_getfin (pc := 17) (v := (y + 4)) hE dX10_plotIn_17 flX10_21 rfl (yd0 hy) rfl ?_
      refine v_iload_n (pc := 20) dX10_plotIn_20 2 rfl ?_
      obtain ⟨o1, h⟩ := h
      refine m_iald (pc := 21) (v := (mem (y + 4) x2)) dX10_plotIn_21 (yd4 hy) o1.1 o1.2 rfl ?_
      refine v_iload_n (pc := 22) dX10_plotIn_22 1 rfl ?_
      refine v_icmpne (pc := 23) (tgt := 28) dX10_plotIn_23 (by decide) (fun c1 => ?_) (fun c1 => ?_)
      · have h := h.1 c1
        obtain ⟨o2, h⟩ := h
        refine m_iinc (pc := 28) (al2 := [(2, aI (x2 + 1)), (0, aR y), (1, aI p0)]) dX10_plotIn_28 2 rfl (by decide) o2 rfl ?_
        refine v_goto (pc := 31) (tgt := 2) dX10_plotIn_31 (by decide) ?_
        exact VG_sub (al' := [(0, aR y), (1, aI p0), (2, aI (x2 + 1))]) [1, 2, 0] rfl h
      · have h := h.2 c1
        refine v_iload_n (pc := 26) dX10_plotIn_26 2 rfl ?_
        exact m_retI (pc := 27) dX10_plotIn_27 rfl h

theorem dX10_hasPlot_0 : decode cX10_hasPlot 0 = .ok (.iload_n 1, 1) := by decide +kernel
theorem dX10_hasPlot_1 : decode cX10_hasPlot 1 = .ok (.ifCond .lt 21, 3) := by decide +kernel
theorem dX10_hasPlot_4 : decode cX10_hasPlot 4 = .ok (.iload_n 1, 1) := by decide +kernel
theorem dX10_hasPlot_5 : decode cX10_hasPlot 5 = .ok (.aload_n 0, 1) := by decide +kernel
theorem dX10_hasPlot_6 : decode cX10_hasPlot 6 = .ok (.getfield 45, 3) := by decide +kernel
theorem dX10_hasPlot_9 : decode cX10_hasPlot 9 = .ok (.if_icmp .ge 13, 3) := by decide +kernel
theorem dX10_hasPlot_12 : decode cX10_hasPlot 12 = .ok (.iload_n 1, 1) := by decide +kernel
theorem dX10_hasPlot_13 : decode cX10_hasPlot 13 = .ok (.bipush 10, 2) := by decide +kernel
theorem dX10_hasPlot_15 : decode cX10_hasPlot 15 = .ok (.if_icmp .ge 7, 3) := by decide +kernel
theorem dX10_hasPlot_18 : decode cX10_hasPlot 18 = .ok (.iconst 1, 1) := by decide +kernel
theorem dX10_hasPlot_19 : decode cX10_hasPlot 19 = .ok (.goto 4, 3) := by decide +kernel
theorem dX10_hasPlot_22 : decode cX10_hasPlot 22 = .ok (.iconst 0, 1) := by decide +kernel
theorem dX10_hasPlot_23 : decode cX10_hasPlot 23 = .ok (.ireturn, 1) := by decide +kernel
set_option maxRecDepth 20000 in
theorem rX10_hasPlot_0 {E : EN} (hE : Ep E) {k : Nat} {mem : Mm} {Q : Int → Mm → Prop} {y p0 : Int} (hy : isYd y)
    (h : ((p0 < 0 → Q 0 mem) ∧ (0 ≤ p0 → (((mem y 10) ≤ p0 → Q 0 mem) ∧ (p0 < (mem y 10) → ((10 ≤ p0 → Q 0 mem) ∧ (p0 < 10 → Q 1 mem))))))) :
    VM E mX10_hasPlot k mem 0 [(0, aR y), (1, aI p0)] [] (retI Q) := by
  refine v_iload_n (pc := 0) dX10_hasPlot_0 1 rfl ?_
  refine v_iflt (pc := 1) (tgt := 22) dX10_hasPlot_1 (by decide) (fun c1 => ?_) (fun c1 => ?_)
  · have h := h.1 c1
    refine v_iconst (pc := 22) dX10_hasPlot_22 (by decide) ?_
    exact m_retZ (pc := 23) dX10_hasPlot_23 rfl (by decide) h
  · have h := h.2 c1
    refine v_iload_n (pc := 4) dX10_hasPlot_4 1 rfl ?_
    refine v_aload_n (pc := 5) dX10_hasPlot_5 0 rfl ?_
    refine m_getf (pc := 6) (t := 0) (v := (mem y 10)) dX10_hasPlot_6 flX10_45 rfl (yd0 hy) rfl ?_
    refine v_icmpge (pc := 9) (tgt := 22) dX10_hasPlot_9 (by decide) (fun c1 => ?_) (fun c1 => ?_)
    · have h := h.1 c1
      refine v_iconst (pc := 22) dX10_hasPlot_22 (by decide) ?_
      exact m_retZ (pc := 23) dX10_hasPlot_23 rfl (by decide) h
    · have h := h.2 c1
      refine v_iload_n (pc := 12) dX10_hasPlot_12 1 rfl ?_
      refine v_bipush (pc := 13) dX10_hasPlot_13 (by decide) ?_
      refine v_icmpge (pc := 15) (tgt := 22) dX10_hasPlot_15 (by decide) (fun c1 => ?_) (fun c1 => ?_)
      · have h := h.1 c1
        refine v_iconst (pc := 22) dX10_hasPlot_22 (by decide) ?_
        exact m_retZ (pc := 23) dX10_hasPlot_23 rfl (by decide) h
      · have h := h.2 c1
        refine v_iconst (pc := 18) dX10_hasPlot_18 (by decide) ?_
        refine v_goto (pc := 19) (tgt := 23) dX10_hasPlot_19 (by decide) ?_
        exact m_retZ (pc := 23) dX10_hasPlot_23 rfl (by decide) h
theorem eX10_hasPlot {E : EN} {k : Nat} {mem : Mm} {Q : Int → Mm → Prop} {y p0 : Int} (hr_p0 : R32 p0) (h : VM E mX10_hasPlot k mem 0 [(0, aR y), (1, aI p0)] [] (retI Q)) : CI E mX10_hasPlot k mem [aR y, aI p0] Q := CI_of rfl (by decide) h (aNs_c (aNr_R _) (aNs_c (aNr_I hr_p0) (fun _ q => nomatch q)))

theorem dX10_tell_0 : decode cX10_tell 0 = .ok (.aload_n 0, 1) := by decide +kernel
theorem dX10_tell_1 : decode cX10_tell 1 = .ok (.getfield 36, 3) := by decide +kernel
theorem dX10_tell_4 : decode cX10_tell 4 = .ok (.iconst 0, 1) := by decide +kernel
theorem dX10_tell_5 : decode cX10_tell 5 = .ok (.iload_n 1, 1) := by decide +kernel
theorem dX10_tell_6 : decode cX10_tell 6 = .ok (.iastore, 1) := by decide +kernel
theorem dX10_tell_7 : decode cX10_tell 7 = .ok (.aload_n 0, 1) := by decide +kernel
theorem dX10_tell_8 : decode cX10_tell 8 = .ok (.getfield 36, 3) := by decide +kernel
theorem dX10_tell_11 : decode cX10_tell 11 = .ok (.iconst 1, 1) := by decide +kernel
theorem dX10_tell_12 : decode cX10_tell 12 = .ok (.iload_n 3, 1) := by decide +kernel
theorem dX10_tell_13 : decode cX10_tell 13 = .ok (.iastore, 1) := by decide +kernel
theorem dX10_tell_14 : decode cX10_tell 14 = .ok (.aload_n 0, 1) := by decide +kernel
theorem dX10_tell_15 : decode cX10_tell 15 = .ok (.getfield 36, 3) := by decide +kernel
theorem dX10_tell_18 : decode cX10_tell 18 = .ok (.iconst 2, 1) := by decide +kernel
theorem dX10_tell_19 : decode cX10_tell 19 = .ok (.aload_n 0, 1) := by decide +kernel
theorem dX10_tell_20 : decode cX10_tell 20 = .ok (.getfield 9, 3) := by decide +kernel
theorem dX10_tell_23 : decode cX10_tell 23 = .ok (.iload_n 3, 1) := by decide +kernel
theorem dX10_tell_24 : decode cX10_tell 24 = .ok (.iaload, 1) := by decide +kernel
theorem dX10_tell_25 : decode cX10_tell 25 = .ok (.iastore, 1) := by decide +kernel
theorem dX10_tell_26 : decode cX10_tell 26 = .ok (.aload_n 0, 1) := by decide +kernel
theorem dX10_tell_27 : decode cX10_tell 27 = .ok (.getfield 36, 3) := by decide +kernel
theorem dX10_tell_30 : decode cX10_tell 30 = .ok (.iconst 3, 1) := by decide +kernel
theorem dX10_tell_31 : decode cX10_tell 31 = .ok (.aload_n 0, 1) := by decide +kernel
theorem dX10_tell_32 : decode cX10_tell 32 = .ok (.getfield 15, 3) := by decide +kernel
theorem dX10_tell_35 : decode cX10_tell 35 = .ok (.iload_n 3, 1) := by decide +kernel
theorem dX10_tell_36 : decode cX10_tell 36 = .ok (.iaload, 1) := by decide +kernel
theorem dX10_tell_37 : decode cX10_tell 37 = .ok (.iastore, 1) := by decide +kernel
theorem dX10_tell_38 : decode cX10_tell 38 = .ok (.aload_n 0, 1) := by decide +kernel
theorem dX10_tell_39 : decode cX10_tell 39 = .ok (.getfield 36, 3) := by decide +kernel
theorem dX10_tell_42 : decode cX10_tell 42 = .ok (.iconst 4, 1) := by decide +kernel
theorem dX10_tell_43 : decode cX10_tell 43 = .ok (.aload_n 0, 1) := by decide +kernel
theorem dX10_tell_44 : decode cX10_tell 44 = .ok (.getfield 18, 3) := by decide +kernel
theorem dX10_tell_47 : decode cX10_tell 47 = .ok (.iload_n 3, 1) := by decide +kernel
theorem dX10_tell_48 : decode cX10_tell 48 = .ok (.iaload, 1) := by decide +kernel
theorem dX10_tell_49 : decode cX10_tell 49 = .ok (.iastore, 1) := by decide +kernel
theorem dX10_tell_50 : decode cX10_tell 50 = .ok (.aload_n 0, 1) := by decide +kernel
theorem dX10_tell_51 : decode cX10_tell 51 = .ok (.getfield 36, 3) := by decide +kernel
theorem dX10_tell_54 : decode cX10_tell 54 = .ok (.iconst 5, 1) := by decide +kernel
theorem dX10_tell_55 : decode cX10_tell 55 = .ok (.iload_n 2, 1) := by decide +kernel
theorem dX10_tell_56 : decode cX10_tell 56 = .ok (.iastore, 1) := by decide +kernel
theorem dX10_tell_57 : decode cX10_tell 57 = .ok (.aload_n 0, 1) := by decide +kernel
theorem dX10_tell_58 : decode cX10_tell 58 = .ok (.getfield 36, 3) := by decide +kernel
theorem dX10_tell_61 : decode cX10_tell 61 = .ok (.bipush 6, 2) := by decide +kernel
theorem dX10_tell_63 : decode cX10_tell 63 = .ok (.iload_n 1, 1) := by decide +kernel
theorem dX10_tell_64 : decode cX10_tell 64 = .ok (.iconst (-1), 1) := by decide +kernel
theorem dX10_tell_65 : decode cX10_tell 65 = .ok (.if_icmp .ne 7, 3) := by decide +kernel
theorem dX10_tell_68 : decode cX10_tell 68 = .ok (.iconst (-1), 1) := by decide +kernel
theorem dX10_tell_69 : decode cX10_tell 69 = .ok (.goto 9, 3) := by decide +kernel
theorem dX10_tell_72 : decode cX10_tell 72 = .ok (.aload_n 0, 1) := by decide +kernel
theorem dX10_tell_73 : decode cX10_tell 73 = .ok (.getfield 27, 3) := by decide +kernel
theorem dX10_tell_76 : decode cX10_tell 76 = .ok (.iload_n 1, 1) := by decide +kernel
theorem dX10_tell_77 : decode cX10_tell 77 = .ok (.iaload, 1) := by decide +kernel
theorem dX10_tell_78 : decode cX10_tell 78 = .ok (.iastore, 1) := by decide +kernel
theorem dX10_tell_79 : decode cX10_tell 79 = .ok (.aload_n 0, 1) := by decide +kernel
theorem dX10_tell_80 : decode cX10_tell 80 = .ok (.getfield 36, 3) := by decide +kernel
theorem dX10_tell_83 : decode cX10_tell 83 = .ok (.bipush 7, 2) := by decide +kernel
theorem dX10_tell_85 : decode cX10_tell 85 = .ok (.iload_n 1, 1) := by decide +kernel
theorem dX10_tell_86 : decode cX10_tell 86 = .ok (.iconst (-1), 1) := by decide +kernel
theorem dX10_tell_87 : decode cX10_tell 87 = .ok (.if_icmp .ne 7, 3) := by decide +kernel
theorem dX10_tell_90 : decode cX10_tell 90 = .ok (.iconst 0, 1) := by decide +kernel
theorem dX10_tell_91 : decode cX10_tell 91 = .ok (.goto 9, 3) := by decide +kernel
theorem dX10_tell_94 : decode cX10_tell 94 = .ok (.aload_n 0, 1) := by decide +kernel
theorem dX10_tell_95 : decode cX10_tell 95 = .ok (.getfield 30, 3) := by decide +kernel
theorem dX10_tell_98 : decode cX10_tell 98 = .ok (.iload_n 1, 1) := by decide +kernel
theorem dX10_tell_99 : decode cX10_tell 99 = .ok (.iaload, 1) := by decide +kernel
theorem dX10_tell_100 : decode cX10_tell 100 = .ok (.iastore, 1) := by decide +kernel
theorem dX10_tell_101 : decode cX10_tell 101 = .ok (.aload_n 0, 1) := by decide +kernel
theorem dX10_tell_102 : decode cX10_tell 102 = .ok (.getfield 36, 3) := by decide +kernel
theorem dX10_tell_105 : decode cX10_tell 105 = .ok (.bipush 8, 2) := by decide +kernel
theorem dX10_tell_107 : decode cX10_tell 107 = .ok (.aload_n 0, 1) := by decide +kernel
theorem dX10_tell_108 : decode cX10_tell 108 = .ok (.getfield 33, 3) := by decide +kernel
theorem dX10_tell_111 : decode cX10_tell 111 = .ok (.iconst 0, 1) := by decide +kernel
theorem dX10_tell_112 : decode cX10_tell 112 = .ok (.iaload, 1) := by decide +kernel
theorem dX10_tell_113 : decode cX10_tell 113 = .ok (.iastore, 1) := by decide +kernel
theorem dX10_tell_114 : decode cX10_tell 114 = .ok (.aload_n 0, 1) := by decide +kernel
theorem dX10_tell_115 : decode cX10_tell 115 = .ok (.getfield 36, 3) := by decide +kernel
theorem dX10_tell_118 : decode cX10_tell 118 = .ok (.bipush 9, 2) := by decide +kernel
theorem dX10_tell_120 : decode cX10_tell 120 = .ok (.aload_n 0, 1) := by decide +kernel
theorem dX10_tell_121 : decode cX10_tell 121 = .ok (.getfield 33, 3) := by decide +kernel
theorem dX10_tell_124 : decode cX10_tell 124 = .ok (.iconst 3, 1) := by decide +kernel
theorem dX10_tell_125 : decode cX10_tell 125 = .ok (.iaload, 1) := by decide +kernel
theorem dX10_tell_126 : decode cX10_tell 126 = .ok (.iastore, 1) := by decide +kernel
theorem dX10_tell_127 : decode cX10_tell 127 = .ok (.return_, 1) := by decide +kernel
set_option maxRecDepth 20000 in
theorem rX10_tell_0 {E : EN} (hE : Ep E) {k : Nat} {mem : Mm} {Q : Mm → Prop} {y p0 p1 p2 : Int} (hy : isYd y)
    (h : (0 ≤ p2 ∧ p2 < 32) ∧ ((¬ p0 = (-1) → (0 ≤ p0 ∧ p0 < 10) ∧ ((¬ p0 = (-1) → Q (aUp (aUp (aUp (aUp (aUp (aUp (aUp (aUp (aUp (aUp mem (y + 9) 0 p0) (y + 9) 1 p2) (y + 9) 2 (mem (y + 1) p2)) (y + 9) 3 (mem (y + 2) p2)) (y + 9) 4 (mem (y + 3) p2)) (y + 9) 5 p1) (y + 9) 6 (mem (y + 6) p0)) (y + 9) 7 (mem (y + 7) p0)) (y + 9) 8 (mem (y + 8) 0)) (y + 9) 9 (mem (y + 8) 3))) ∧ (p0 = (-1) → Q (aUp (aUp (aUp (aUp (aUp (aUp (aUp (aUp (aUp (aUp mem (y + 9) 0 p0) (y + 9) 1 p2) (y + 9) 2 (mem (y + 1) p2)) (y + 9) 3 (mem (y + 2) p2)) (y + 9) 4 (mem (y + 3) p2)) (y + 9) 5 p1) (y + 9) 6 (mem (y + 6) p0)) (y + 9) 7 0) (y + 9) 8 (mem (y + 8) 0)) (y + 9) 9 (mem (y + 8) 3))))) ∧ (p0 = (-1) → ((¬ p0 = (-1) → (0 ≤ p0 ∧ p0 < 10) ∧ Q (aUp (aUp (aUp (aUp (aUp (aUp (aUp (aUp (aUp (aUp mem (y + 9) 0 p0) (y + 9) 1 p2) (y + 9) 2 (mem (y + 1) p2)) (y + 9) 3 (mem (y + 2) p2)) (y + 9) 4 (mem (y + 3) p2)) (y + 9) 5 p1) (y + 9) 6 (-1)) (y + 9) 7 (mem (y + 7) p0)) (y + 9) 8 (mem (y + 8) 0)) (y + 9) 9 (mem (y + 8) 3))) ∧ (p0 = (-1) → Q (aUp (aUp (aUp (aUp (aUp (aUp (aUp (aUp (aUp (aUp mem (y + 9) 0 p0) (y + 9) 1 p2) (y + 9) 2 (mem (y + 1) p2)) (y + 9) 3 (mem (y + 2) p2)) (y + 9) 4 (mem (y + 3) p2)) (y + 9) 5 p1) (y + 9) 6 (-1)) (y + 9) 7 0) (y + 9) 8 (mem (y + 8) 0)) (y + 9) 9 (mem (y + 8) 3))))))) :
    VM E mX10_tell k mem 0 [(0, aR y), (1, aI p0), (2, aI p1), (3, aI p2)] [] (retV Q) := by
  refine v_aload_n (pc := 0) dX10_tell_0 0 rfl ?_
  refine m_getfin (pc := 1) (v := (y + 9)) hE dX10_tell_1 flX10_36 rfl (yd0 hy) rfl ?_
  refine v_iconst (pc := 4) dX10_tell_4 (by decide) ?_
  refine v_iload_n (pc := 5) dX10_tell_5 1 rfl ?_
  refine v_iast (pc := 6) dX10_tell_6 (yd9 hy) (by omega) (by omega) ?_
  refine v_aload_n (pc := 7) dX10_tell_7 0 rfl ?_
  refine m_getfin (pc := 8) (v := (y + 9)) hE dX10_tell_8 flX10_36 rfl (yd0 hy) rfl ?_
  refine v_iconst (pc := 11) dX10_tell_11 (by decide) ?_
  refine v_iload_n (pc := 12) dX10_tell_12 3 rfl ?_
  refine v_iast (pc := 13) dX10_tell_13 (yd9 hy) (by omega) (by omega) ?_
  refine v_aload_n (pc := 14) dX10_tell_14 0 rfl ?_
  refine m_getfin (pc := 15) (v := (y + 9)) hE dX10_tell_15 flX10_36 rfl (yd0 hy) rfl ?_
  refine v_iconst (pc := 18) dX10_tell_18 (by decide) ?_
  refine v_aload_n (pc := 19) dX10_tell_19 0 rfl ?_
  refine m_getfin (pc := 20) (v := (y + 1)) hE dX10_tell_20 flX10_9 rfl (yd0 hy) rfl ?_
  refine v_iload_n (pc := 23) dX10_tell_23 3 rfl ?_
  obtain ⟨o1, h⟩ := h
  refine m_iald (pc := 24) (v := (mem (y + 1) p2)) dX10_tell_24 (yd1 hy) o1.1 o1.2 ((aUp_rn (by omega)).trans (aUp_rn (by omega))) ?_
  refine v_iast (pc := 25) dX10_tell_25 (yd9 hy) (by omega) (by omega) ?_
  refine v_aload_n (pc := 26) dX10_tell_26 0 rfl ?_
  refine m_getfin (pc := 27) (v := (y + 9)) hE dX10_tell_27 flX10_36 rfl (yd0 hy) rfl ?_
  refine v_iconst (pc := 30) dX10_tell_30 (by decide) ?_
  refine v_aload_n (pc := 31) dX10_tell_31 0 rfl ?_
  refine m_getfin (pc := 32) (v := (y + 2)) hE dX10_tell_32 flX10_15 rfl (yd0 hy) rfl ?_
  refine v_iload_n (pc := 35) dX10_tell_35 3 rfl ?_
  refine m_iald (pc := 36) (v := (mem (y + 2) p2)) dX10_tell_36 (yd2 hy) o1.1 o1.2 ((aUp_rn (by omega)).trans ((aUp_rn (by omega)).trans (aUp_rn (by omega)))) ?_
  refine v_iast (pc := 37) dX10_tell_37 (yd9 hy) (by omega) (by omega) ?_
  refine v_aload_n (pc := 38) dX10_tell_38 0 rfl ?_
  refine m_getfin (pc := 39) (v := (y + 9)) hE dX10_tell_39 flX10_36 rfl (yd0 hy) rfl ?_
  refine v_iconst (pc := 42) dX10_tell_42 (by decide) ?_
  refine v_aload_n (pc := 43) dX10_tell_43 0 rfl ?_
  refine m_getfin (pc := 44) (v := (y + 3)) hE dX10_tell_44 flX10_18 rfl (yd0 hy) rfl ?_
  refine v_iload_n (pc := 47) dX10_tell_47 3 rfl ?_
  refine m_iald (pc := 48) (v := (mem (y + 3) p2)) dX10_tell_48 (yd3 hy) o1.1 o1.2 ((aUp_rn (by omega)).trans ((aUp_rn (by omega)).trans ((aUp_rn (by omega)).trans (aUp_rn (by omega))))) ?_
  refine v_iast (pc := 49) dX10_tell_49 (yd9 hy) (by omega) (by omega) ?_
  refine v_aload_n (pc := 50) dX10_tell_50 0 rfl ?_
  refine m_getfin (pc := 51) (v := (y + 9)) hE dX10_tell_51 flX10_36 rfl (yd0 hy) rfl ?_
  refine v_iconst (pc := 54) dX10_tell_54 (by decide) ?_
  refine v_iload_n (pc := 55) dX10_tell_55 2 rfl ?_
  refine v_iast (pc := 56) dX10_tell_56 (yd9 hy) (by omega) (by omega) ?_
  refine v_aload_n (pc := 57) dX10_tell_57 0 rfl ?_
  refine m_getfin (pc := 58) (v := (y + 9)) hE dX10_tell_58 flX10_36 rfl (yd0 hy) rfl ?_
  refine v_bipush (pc := 61) dX10_tell_61 (by decide) ?_
  refine v_iload_n (pc := 63) dX10_tell_63 1 rfl ?_
  refine v_iconst (pc := 64) dX10_tell_64 (by decide) ?_
  refine v_icmpne (pc := 65) (tgt := 72) dX10_tell_65 (by decide) (fun c1 => ?_) (fun c1 => ?_)
  · have h := h.1 c1
    refine v_aload_n (pc := 72) dX10_tell_72 0 rfl ?_
    refine m_getfin (pc := 73) (v := (y + 6)) hE dX10_tell_73 flX10_27 rfl (yd0 hy) rfl ?_
    refine v_iload_n (pc := 76) dX10_tell_76 1 rfl ?_
    obtain ⟨o2, h⟩ := h
    refine m_iald (pc := 77) (v := (mem (y + 6) p0)) dX10_tell_77 (yd6 hy) o2.1 o2.2 ((aUp_rn (by omega)).trans ((aUp_rn (by omega)).trans ((aUp_rn (by omega)).trans ((aUp_rn (by omega)).trans ((aUp_rn (by omega)).trans (aUp_rn (by omega))))))) ?_
    refine v_iast (pc := 78) dX10_tell_78 (yd9 hy) (by omega) (by omega) ?_
    refine v_aload_n (pc := 79) dX10_tell_79 0 rfl ?_
    refine m_getfin (pc := 80) (v := (y + 9)) hE dX10_tell_80 flX10_36 rfl (yd0 hy) rfl ?_
    refine v_bipush (pc := 83) dX10_tell_83 (by decide) ?_
    refine v_iload_n (pc := 85) dX10_tell_85 1 rfl ?_
    refine v_iconst (pc := 86) dX10_tell_86 (by decide) ?_
    refine v_icmpne (pc := 87) (tgt := 94) dX10_tell_87 (by decide) (fun c1 => ?_) (fun c1 => ?_)
    · have h := h.1 c1
      refine v_aload_n (pc := 94) dX10_tell_94 0 rfl ?_
      refine m_getfin (pc := 95) (v := (y + 7)) hE dX10_tell_95 flX10_30 rfl (yd0 hy) rfl ?_
      refine v_iload_n (pc := 98) dX10_tell_98 1 rfl ?_
      refine m_iald (pc := 99) (v := (mem (y + 7) p0)) dX10_tell_99 (yd7 hy) o2.1 o2.2 ((aUp_rn (by omega)).trans ((aUp_rn (by omega)).trans ((aUp_rn (by omega)).trans ((aUp_rn (by omega)).trans ((aUp_rn (by omega)).trans ((aUp_rn (by omega)).trans (aUp_rn (by omega)))))))) ?_
      refine v_iast (pc := 100) dX10_tell_100 (yd9 hy) (by omega) (by omega) ?_
      refine v_aload_n (pc := 101) dX10_tell_101 0 rfl ?_
      refine m_getfin (pc := 102) (v := (y + 9)) hE dX10_tell_102 flX10_36 rfl (yd0 hy) rfl ?_
      refine v_bipush (pc := 105) dX10_tell_105 (by decide) ?_
      refine v_aload_n (pc := 107) dX10_tell_107 0 rfl ?_
      refine m_getfin (pc := 108) (v := (y + 8)) hE dX10_tell_108 flX10_33 rfl (yd0 hy) rfl ?_
      refine v_iconst (pc := 111) dX10_tell_111 (by decide) ?_
      refine m_iald (pc := 112) (v := (mem (y + 8) 0)) dX10_tell_112 (yd8 hy) (by omega) (by omega) ((aUp_rn (by omega)).trans ((aUp_rn (by omega)).trans ((aUp_rn (by omega)).trans ((aUp_rn (by omega)).trans ((aUp_rn (by omega)).trans ((aUp_rn (by omega)).trans ((aUp_rn (by omega)).trans (aUp_rn (by omega))))))))) ?_
      refine v_iast (pc := 113) dX10_tell_113 (yd9 hy) (by omega) (by omega) ?_
      refine v_aload_n (pc := 114) dX10_tell_114 0 rfl ?_
      refine m_getfin (pc := 115) (v := (y + 9)) hE dX10_tell_115 flX10_36 rfl (yd0 hy) rfl ?_
      refine v_bipush (pc := 118) dX10_tell_118 (by decide) ?_
      refine v_aload_n (pc := 120) dX10_tell_120 0 rfl ?_
      refine m_getfin (pc := 121) (v := (y + 8)) hE dX10_tell_121 flX10_33 rfl (yd0 hy) rfl ?_
      refine v_iconst (pc := 124) dX10_tell_124 (by decide) ?_
      refine m_iald (pc := 125) (v := (mem (y + 8) 3)) dX10_tell_125 (yd8 hy) (by omega) (by omega) ((aUp_rn (by omega)).trans ((aUp_rn (by omega)).trans ((aUp_rn (by omega)).trans ((aUp_rn (by omega)).trans ((aUp_rn (by omega)).trans ((aUp_rn (by omega)).trans ((aUp_rn (by omega)).trans ((aUp_rn (by omega)).trans (aUp_rn (by omega)))))))))) ?_
      refine v_iast (pc := 126) dX10_tell_126 (yd9 hy) (by omega) (by omega) ?_
      exact m_retV (pc := 127) dX10_tell_127 rfl h
    · have h := h.2 c1
      refine v_iconst (pc := 90) dX10_tell_90 (by decide) ?_
      refine v_goto (pc := 91) (tgt := 100) dX10_tell_91 (by decide) ?_
      refine v_iast (pc := 100) dX10_tell_100 (yd9 hy) (by omega) (by omega) ?_
      refine v_aload_n (pc := 101) dX10_tell_101 0 rfl ?_
      refine m_getfin (pc := 102) (v := (y + 9)) hE dX10_tell_102 flX10_36 rfl (yd0 hy) rfl ?_
      refine v_bipush (pc := 105) dX10_tell_105 (by decide) ?_
      refine v_aload_n (pc := 107) dX10_tell_107 0 rfl ?_
      refine m_getfin (pc := 108) (v := (y + 8)) hE dX10_tell_108 flX10_33 rfl (yd0 hy) rfl ?_
      refine v_iconst (pc := 111) dX10_tell_111 (by decide) ?_
      refine m_iald (pc := 112) (v := (mem (y + 8) 0)) dX10_tell_112 (yd8 hy) (by omega) (by omega) ((aUp_rn (by omega)).trans ((aUp_rn (by omega)).trans ((aUp_rn (by omega)).trans ((aUp_rn (by omega)).trans ((aUp_rn (by omega)).trans ((aUp_rn (by omega)).trans ((aUp_rn (by omega)).trans (aUp_rn (by omega))))))))) ?_
      refine v_iast (pc := 113) dX10_tell_113 (yd9 hy) (by omega) (by omega) ?_
      refine v_aload_n (pc := 114) dX10_tell_114 0 rfl ?_
      refine m_getfin (pc := 115) (v := (y + 9)) hE dX10_tell_115 flX10_36 rfl (yd0 hy) rfl ?_
      refine v_bipush (pc := 118) dX10_tell_118 (by decide) ?_
      refine v_aload_n (pc := 120) dX10_tell_120 0 rfl ?_
      refine m_getfin (pc := 121) (v := (y + 8)) hE dX10_tell_121 flX10_33 rfl (yd0 hy) rfl ?_
      refine v_iconst (pc := 124) dX10_tell_124 (by decide) ?_
      refine m_iald (pc := 125) (v := (mem (y + 8) 3)) dX10_tell_125 (yd8 hy) (by omega) (by omega) ((aUp_rn (by omega)).trans ((aUp_rn (by omega)).trans ((aUp_rn (by omega)).trans ((aUp_rn (by omega)).trans ((aUp_rn (by omega)).trans ((aUp_rn (by omega)).trans ((aUp_rn (by omega)).trans ((aUp_rn (by omega)).trans (aUp_rn (by omega)))))))))) ?_
      refine v_iast (pc := 126) dX10_tell_126 (yd9 hy) (by omega) (by omega) ?_
      exact m_retV (pc := 127) dX10_tell_127 rfl h
  · have h := h.2 c1
    refine v_iconst (pc := 68) dX10_tell_68 (by decide) ?_
    refine v_goto (pc := 69) (tgt := 78) dX10_tell_69 (by decide) ?_
    refine v_iast (pc := 78) dX10_tell_78 (yd9 hy) (by omega) (by omega) ?_
    refine v_aload_n (pc := 79) dX10_tell_79 0 rfl ?_
    refine m_getfin (pc := 80) (v := (y + 9)) hE dX10_tell_80 flX10_36 rfl (yd0 hy) rfl ?_
    refine v_bipush (pc := 83) dX10_tell_83 (by decide) ?_
    refine v_iload_n (pc := 85) dX10_tell_85 1 rfl ?_
    refine v_iconst (pc := 86) dX10_tell_86 (by decide) ?_
    refine v_icmpne (pc := 87) (tgt := 94) dX10_tell_87 (by decide) (fun c1 => ?_) (fun c1 => ?_)
    · have h := h.1 c1
      refine v_aload_n (pc := 94) dX10_tell_94 0 rfl ?_
      refine m_getfin (pc := 95) (v := (y + 7)) hE dX10_tell_95 flX10_30 rfl (yd0 hy) rfl ?_
      refine v_iload_n (pc := 98) dX10_tell_98 1 rfl ?_
      obtain ⟨o3, h⟩ := h
      refine m_iald (pc := 99) (v := (mem (y + 7) p0)) dX10_tell_99 (yd7 hy) o3.1 o3.2 ((aUp_rn (by omega)).trans ((aUp_rn (by omega)).trans ((aUp_rn (by omega)).trans ((aUp_rn (by omega)).trans ((aUp_rn (by omega)).trans ((aUp_rn (by omega)).trans (aUp_rn (by omega)))))))) ?_
      refine v_iast (pc := 100) dX10_tell_100 (yd9 hy) (by omega) (by omega) ?_
      refine v_aload_n (pc := 101) dX10_tell_101 0 rfl ?_
      refine m_getfin (pc := 102) (v := (y + 9)) hE dX10_tell_102 flX10_36 rfl (yd0 hy) rfl ?_
      refine v_bipush (pc := 105) dX10_tell_105 (by decide) ?_
      refine v_aload_n (pc := 107) dX10_tell_107 0 rfl ?_
      refine m_getfin (pc := 108) (v := (y + 8)) hE dX10_tell_108 flX10_33 rfl (yd0 hy) rfl ?_
      refine v_iconst (pc := 111) dX10_tell_111 (by decide) ?_
      refine m_iald (pc := 112) (v := (mem (y + 8) 0)) dX10_tell_112 (yd8 hy) (by omega) (by omega) ((aUp_rn (by omega)).trans ((aUp_rn (by omega)).trans ((aUp_rn (by omega)).trans ((aUp_rn (by omega)).trans ((aUp_rn (by omega)).trans ((aUp_rn (by omega)).trans ((aUp_rn (by omega)).trans (aUp_rn (by omega))))))))) ?_
      refine v_iast (pc := 113) dX10_tell_113 (yd9 hy) (by omega) (by omega) ?_
      refine v_aload_n (pc := 114) dX10_tell_114 0 rfl ?_
      refine m_getfin (pc := 115) (v := (y + 9)) hE dX10_tell_115 flX10_36 rfl (yd0 hy) rfl ?_
      refine v_bipush (pc := 118) dX10_tell_118 (by decide) ?_
      refine v_aload_n (pc := 120) dX10_tell_120 0 rfl ?_
      refine m_getfin (pc := 121) (v := (y + 8)) hE dX10_tell_121 flX10_33 rfl (yd0 hy) rfl ?_
      refine v_iconst (pc := 124) dX10_tell_124 (by decide) ?_
      refine m_iald (pc := 125) (v := (mem (y + 8) 3)) dX10_tell_125 (yd8 hy) (by omega) (by omega) ((aUp_rn (by omega)).trans ((aUp_rn (by omega)).trans ((aUp_rn (by omega)).trans ((aUp_rn (by omega)).trans ((aUp_rn (by omega)).trans ((aUp_rn (by omega)).trans ((aUp_rn (by omega)).trans ((aUp_rn (by omega)).trans (aUp_rn (by omega)))))))))) ?_
      refine v_iast (pc := 126) dX10_tell_126 (yd9 hy) (by omega) (by omega) ?_
      exact m_retV (pc := 127) dX10_tell_127 rfl h
    · have h := h.2 c1
      refine v_iconst (pc := 90) dX10_tell_90 (by decide) ?_
      refine v_goto (pc := 91) (tgt := 100) dX10_tell_91 (by decide) ?_
      refine v_iast (pc := 100) dX10_tell_100 (yd9 hy) (by omega) (by omega) ?_
      refine v_aload_n (pc := 101) dX10_tell_101 0 rfl ?_
      refine m_getfin (pc := 102) (v := (y + 9)) hE dX10_tell_102 flX10_36 rfl (yd0 hy) rfl ?_
      refine v_bipush (pc := 105) dX10_tell_105 (by decide) ?_
      refine v_aload_n (pc := 107) dX10_tell_107 0 rfl ?_
      refine m_getfin (pc := 108) (v := (y + 8)) hE dX10_tell_108 flX10_33 rfl (yd0 hy) rfl ?_
      refine v_iconst (pc := 111) dX10_tell_111 (by decide) ?_
      refine m_iald (pc := 112) (v := (mem (y + 8) 0)) dX10_tell_112 (yd8 hy) (by omega) (by omega) ((aUp_rn (by omega)).trans ((aUp_rn (by omega)).trans ((aUp_rn (by omega)).trans ((aUp_rn (by omega)).trans ((aUp_rn (by omega)).trans ((aUp_rn (by omega)).trans ((aUp_rn (by omega)).trans (aUp_rn (by omega))))))))) ?_
      refine v_iast (pc := 113) dX10_tell_113 (yd9 hy) (by omega) (by omega) ?_
      refine v_aload_n (pc := 114) dX10_tell_114 0 rfl ?_
      refine m_getfin (pc := 115) (v := (y + 9)) hE dX10_tell_115 flX10_36 rfl (yd0 hy) rfl ?_
      refine v_bipush (pc := 118) dX10_tell_118 (by decide) ?_
      refine v_aload_n (pc := 120) dX10_tell_120 0 rfl ?_
      refine m_getfin (pc := 121) (v := (y + 8)) hE dX10_tell_121 flX10_33 rfl (yd0 hy) rfl ?_
      refine v_iconst (pc := 124) dX10_tell_124 (by decide) ?_
      refine m_iald (pc := 125) (v := (mem (y + 8) 3)) dX10_tell_125 (yd8 hy) (by omega) (by omega) ((aUp_rn (by omega)).trans ((aUp_rn (by omega)).trans ((aUp_rn (by omega)).trans ((aUp_rn (by omega)).trans ((aUp_rn (by omega)).trans ((aUp_rn (by omega)).trans ((aUp_rn (by omega)).trans ((aUp_rn (by omega)).trans (aUp_rn (by omega)))))))))) ?_
      refine v_iast (pc := 126) dX10_tell_126 (yd9 hy) (by omega) (by omega) ?_
      exact m_retV (pc := 127) dX10_tell_127 rfl h
theorem eX10_tell {E : EN} {k : Nat} {mem : Mm} {Q : Mm → Prop} {y p0 p1 p2 : Int} (hr_p0 : R32 p0) (hr_p1 : R32 p1) (hr_p2 : R32 p2) (h : VM E mX10_tell k mem 0 [(0, aR y), (1, aI p0), (2, aI p1), (3, aI p2)] [] (retV Q)) : CV E mX10_tell k mem [aR y, aI p0, aI p1, aI p2] Q := CV_of rfl (by decide) h (aNs_c (aNr_R _) (aNs_c (aNr_I hr_p0) (aNs_c (aNr_I hr_p1) (aNs_c (aNr_I hr_p2) (fun _ q => nomatch q)))))

theorem dX10_add_0 : decode cX10_add 0 = .ok (.aload_n 0, 1) := by decide +kernel
theorem dX10_add_1 : decode cX10_add 1 = .ok (.getfield 45, 3) := by decide +kernel
theorem dX10_add_4 : decode cX10_add 4 = .ok (.bipush 10, 2) := by decide +kernel
theorem dX10_add_6 : decode cX10_add 6 = .ok (.if_icmp .ge 53, 3) := by decide +kernel
theorem dX10_add_9 : decode cX10_add 9 = .ok (.aload_n 0, 1) := by decide +kernel
theorem dX10_add_10 : decode cX10_add 10 = .ok (.getfield 21, 3) := by decide +kernel
theorem dX10_add_13 : decode cX10_add 13 = .ok (.aload_n 0, 1) := by decide +kernel
theorem dX10_add_14 : decode cX10_add 14 = .ok (.getfield 45, 3) := by decide +kernel
theorem dX10_add_17 : decode cX10_add 17 = .ok (.iload_n 2, 1) := by decide +kernel
theorem dX10_add_18 : decode cX10_add 18 = .ok (.iastore, 1) := by decide +kernel
theorem dX10_add_19 : decode cX10_add 19 = .ok (.aload_n 0, 1) := by decide +kernel
theorem dX10_add_20 : decode cX10_add 20 = .ok (.getfield 24, 3) := by decide +kernel
theorem dX10_add_23 : decode cX10_add 23 = .ok (.aload_n 0, 1) := by decide +kernel
theorem dX10_add_24 : decode cX10_add 24 = .ok (.getfield 45, 3) := by decide +kernel
theorem dX10_add_27 : decode cX10_add 27 = .ok (.iload_n 1, 1) := by decide +kernel
theorem dX10_add_28 : decode cX10_add 28 = .ok (.iastore, 1) := by decide +kernel
theorem dX10_add_29 : decode cX10_add 29 = .ok (.aload_n 0, 1) := by decide +kernel
theorem dX10_add_30 : decode cX10_add 30 = .ok (.getfield 27, 3) := by decide +kernel
theorem dX10_add_33 : decode cX10_add 33 = .ok (.aload_n 0, 1) := by decide +kernel
theorem dX10_add_34 : decode cX10_add 34 = .ok (.getfield 45, 3) := by decide +kernel
theorem dX10_add_37 : decode cX10_add 37 = .ok (.iload_n 3, 1) := by decide +kernel
theorem dX10_add_38 : decode cX10_add 38 = .ok (.iastore, 1) := by decide +kernel
theorem dX10_add_39 : decode cX10_add 39 = .ok (.aload_n 0, 1) := by decide +kernel
theorem dX10_add_40 : decode cX10_add 40 = .ok (.getfield 30, 3) := by decide +kernel
theorem dX10_add_43 : decode cX10_add 43 = .ok (.aload_n 0, 1) := by decide +kernel
theorem dX10_add_44 : decode cX10_add 44 = .ok (.getfield 45, 3) := by decide +kernel
theorem dX10_add_47 : decode cX10_add 47 = .ok (.iconst 0, 1) := by decide +kernel
theorem dX10_add_48 : decode cX10_add 48 = .ok (.iastore, 1) := by decide +kernel
theorem dX10_add_49 : decode cX10_add 49 = .ok (.aload_n 0, 1) := by decide +kernel
theorem dX10_add_50 : decode cX10_add 50 = .ok (.dup, 1) := by decide +kernel
theorem dX10_add_51 : decode cX10_add 51 = .ok (.getfield 45, 3) := by decide +kernel
theorem dX10_add_54 : decode cX10_add 54 = .ok (.iconst 1, 1) := by decide +kernel
theorem dX10_add_55 : decode cX10_add 55 = .ok (.iadd, 1) := by decide +kernel
theorem dX10_add_56 : decode cX10_add 56 = .ok (.putfield 45, 3) := by decide +kernel
theorem dX10_add_59 : decode cX10_add 59 = .ok (.return_, 1) := by decide +kernel
set_option maxRecDepth 20000 in
theorem rX10_add_0 {E : EN} (hE : Ep E) {k : Nat} {mem : Mm} {Q : Mm → Prop} {y p0 p1 p2 : Int} (hy : isYd y)
    (h : ((10 ≤ (mem y 10) → Q mem) ∧ ((mem y 10) < 10 → (0 ≤ (mem y 10) ∧ (mem y 10) < 10) ∧ (R32 ((mem y 10) + 1)) ∧ Q (aUp (aUp (aUp (aUp (aUp mem (y + 4) (mem y 10) p1) (y + 5) (mem y 10) p0) (y + 6) (mem y 10) p2) (y + 7) (mem y 10) 0) y 10 ((mem y 10) + 1))))) :
    VM E mX10_add k mem 0 [(0, aR y), (1, aI p0), (2, aI p1), (3, aI p2)] [] (retV Q) := by
  refine v_aload_n (pc := 0) dX10_add_0 0 rfl ?_
  refine m_getf (pc := 1) (t := 0) (v := (mem y 10)) dX10_add_1 flX10_45 rfl (yd0 hy) rfl ?_
  refine v_bipush (pc := 4) dX10_add_4 (by decide) ?_
  refine v_icmpge (pc := 6) (tgt := 59) dX10_add_6 (by decide) (fun c1 => ?_) (fun c1 => ?_)
  · have h := h.1 c1
    exact m_retV (pc := 59) dX10_add_59 rfl h
  · have h := h.2 c1
    refine v_aload_n (pc := 9) dX10_add_9 0 rfl ?_
    refine m_getfin (pc := 10) (v := (y + 4)) hE dX10_add_10 flX10_21 rfl (yd0 hy) rfl ?_
    refine v_aload_n (pc := 13) dX10_add_13 0 rfl ?_
    refine m_getf (pc := 14) (t := 0) (v := (mem y 10)) dX10_add_14 flX10_45 rfl (yd0 hy) rfl ?_
    refine v_iload_n (pc := 17) dX10_add_17 2 rfl ?_
    obtain ⟨o1, h⟩ := h
    refine v_iast (pc := 18) dX10_add_18 (yd4 hy) o1.1 o1.2 ?_
    refine v_aload_n (pc := 19) dX10_add_19 0 rfl ?_
    refine m_getfin (pc := 20) (v := (y + 5)) hE dX10_add_20 flX10_24 rfl (yd0 hy) rfl ?_
    refine v_aload_n (pc := 23) dX10_add_23 0 rfl ?_
    refine m_getf (pc := 24) (t := 0) (v := (mem y 10)) dX10_add_24 flX10_45 rfl (yd0 hy) (aUp_rn (by omega)) ?_
    refine v_iload_n (pc := 27) dX10_add_27 1 rfl ?_
    refine v_iast (pc := 28) dX10_add_28 (yd5 hy) o1.1 o1.2 ?_
    refine v_aload_n (pc := 29) dX10_add_29 0 rfl ?_
    refine m_getfin (pc := 30) (v := (y + 6)) hE dX10_add_30 flX10_27 rfl (yd0 hy) rfl ?_
    refine v_aload_n (pc := 33) dX10_add_33 0 rfl ?_
    refine m_getf (pc := 34) (t := 0) (v := (mem y 10)) dX10_add_34 flX10_45 rfl (yd0 hy) ((aUp_rn (by omega)).trans (aUp_rn (by omega))) ?_
    refine v_iload_n (pc := 37) dX10_add_37 3 rfl ?_
    refine v_iast (pc := 38) dX10_add_38 (yd6 hy) o1.1 o1.2 ?_
    refine v_aload_n (pc := 39) dX10_add_39 0 rfl ?_
    refine m_getfin (pc := 40) (v := (y + 7)) hE dX10_add_40 flX10_30 rfl (yd0 hy) rfl ?_
    refine v_aload_n (pc := 43) dX10_add_43 0 rfl ?_
    refine m_getf (pc := 44) (t := 0) (v := (mem y 10)) dX10_add_44 flX10_45 rfl (yd0 hy) ((aUp_rn (by omega)).trans ((aUp_rn (by omega)).trans (aUp_rn (by omega)))) ?_
    refine v_iconst (pc := 47) dX10_add_47 (by decide) ?_
    refine v_iast (pc := 48) dX10_add_48 (yd7 hy) o1.1 o1.2 ?_
    refine v_aload_n (pc := 49) dX10_add_49 0 rfl ?_
    refine v_dup (pc := 50) dX10_add_50 rfl ?_
    refine m_getf (pc := 51) (t := 0) (v := (mem y 10)) dX10_add_51 flX10_45 rfl (yd0 hy) ((aUp_rn (by omega)).trans ((aUp_rn (by omega)).trans ((aUp_rn (by omega)).trans (aUp_rn (by omega))))) ?_
    refine v_iconst (pc := 54) dX10_add_54 (by decide) ?_
    obtain ⟨o2, h⟩ := h
    refine m_iadd (pc := 55) dX10_add_55 o2 ?_
    refine v_putf (pc := 56) dX10_add_56 flX10_45 ⟨_, _, rfl, Or.inl rfl⟩ rfl (by decide) (fun q => nomatch q) (fun _ => rfl) (yd0 hy) ?_
    exact m_retV (pc := 59) dX10_add_59 rfl h
theorem eX10_add {E : EN} {k : Nat} {mem : Mm} {Q : Mm → Prop} {y p0 p1 p2 : Int} (hr_p0 : R32 p0) (hr_p1 : R32 p1) (hr_p2 : R32 p2) (h : VM E mX10_add k mem 0 [(0, aR y), (1, aI p0), (2, aI p1), (3, aI p2)] [] (retV Q)) : CV E mX10_add k mem [aR y, aI p0, aI p1, aI p2] Q := CV_of rfl (by decide) h (aNs_c (aNr_R _) (aNs_c (aNr_I hr_p0) (aNs_c (aNr_I hr_p1) (aNs_c (aNr_I hr_p2) (fun _ q => nomatch q)))))

theorem dX10_fact_0 : decode cX10_fact 0 = .ok (.iload_n 2, 1) := by decide +kernel
theorem dX10_fact_1 : decode cX10_fact 1 = .ok (.tableswitch 48 0 2 #[27, 34, 41], 27) := by decide +kernel
theorem dX10_fact_28 : decode cX10_fact 28 = .ok (.aload_n 0, 1) := by decide +kernel
theorem dX10_fact_29 : decode cX10_fact 29 = .ok (.getfield 9, 3) := by decide +kernel
theorem dX10_fact_32 : decode cX10_fact 32 = .ok (.iload_n 1, 1) := by decide +kernel
theorem dX10_fact_33 : decode cX10_fact 33 = .ok (.iaload, 1) := by decide +kernel
theorem dX10_fact_34 : decode cX10_fact 34 = .ok (.ireturn, 1) := by decide +kernel
theorem dX10_fact_35 : decode cX10_fact 35 = .ok (.aload_n 0, 1) := by decide +kernel
theorem dX10_fact_36 : decode cX10_fact 36 = .ok (.getfield 15, 3) := by decide +kernel
theorem dX10_fact_39 : decode cX10_fact 39 = .ok (.iload_n 1, 1) := by decide +kernel
theorem dX10_fact_40 : decode cX10_fact 40 = .ok (.iaload, 1) := by decide +kernel
theorem dX10_fact_41 : decode cX10_fact 41 = .ok (.ireturn, 1) := by decide +kernel
theorem dX10_fact_42 : decode cX10_fact 42 = .ok (.aload_n 0, 1) := by decide +kernel
theorem dX10_fact_43 : decode cX10_fact 43 = .ok (.getfield 18, 3) := by decide +kernel
theorem dX10_fact_46 : decode cX10_fact 46 = .ok (.iload_n 1, 1) := by decide +kernel
theorem dX10_fact_47 : decode cX10_fact 47 = .ok (.iaload, 1) := by decide +kernel
theorem dX10_fact_48 : decode cX10_fact 48 = .ok (.ireturn, 1) := by decide +kernel
theorem dX10_fact_49 : decode cX10_fact 49 = .ok (.iconst (-1), 1) := by decide +kernel
theorem dX10_fact_50 : decode cX10_fact 50 = .ok (.ireturn, 1) := by decide +kernel
set_option maxRecDepth 20000 in
theorem rX10_fact_0 {E : EN} (hE : Ep E) {k : Nat} {mem : Mm} {Q : Int → Mm → Prop} {y p0 p1 : Int} (hy : isYd y)
    (h : ((p1 = 0 → (0 ≤ p0 ∧ p0 < 32) ∧ Q (mem (y + 1) p0) mem) ∧ (p1 = 1 → (0 ≤ p0 ∧ p0 < 32) ∧ Q (mem (y + 2) p0) mem) ∧ (p1 = 2 → (0 ≤ p0 ∧ p0 < 32) ∧ Q (mem (y + 3) p0) mem) ∧ (p1 < 0 ∨ 2 < p1 → Q (-1) mem))) :
    VM E mX10_fact k mem 0 [(0, aR y), (1, aI p0), (2, aI p1)] [] (retI Q) := by
  refine v_iload_n (pc := 0) dX10_fact_0 2 rfl ?_
  rcases (show p1 = 0 ∨ p1 = 1 ∨ p1 = 2 ∨ (p1 < 0 ∨ 2 < p1) by omega) with c1 | c1 | c1 | c1
  · have h := h.1 c1
    refine v_tabIn (pc := 1) (tgt := 28) dX10_fact_1 (by omega) (by omega) (by rw [c1]; rfl) (by decide) ?_
    refine v_aload_n (pc := 28) dX10_fact_28 0 rfl ?_
    refine m_getfin (pc := 29) (v := (y + 1)) hE dX10_fact_29 flX10_9 rfl (yd0 hy) rfl ?_
    refine v_iload_n (pc := 32) dX10_fact_32 1 rfl ?_
    obtain ⟨o1, h⟩ := h
    refine m_iald (pc := 33) (v := (mem (y + 1) p0)) dX10_fact_33 (yd1 hy) o1.1 o1.2 rfl ?_
    exact m_retI (pc := 34) dX10_fact_34 rfl h
  · have h := h.2.1 c1
    refine v_tabIn (pc := 1) (tgt := 35) dX10_fact_1 (by omega) (by omega) (by rw [c1]; rfl) (by decide) ?_
    refine v_aload_n (pc := 35) dX10_fact_35 0 rfl ?_
    refine m_getfin (pc := 36) (v := (y + 2)) hE dX10_fact_36 flX10_15 rfl (yd0 hy) rfl ?_
    refine v_iload_n (pc := 39) dX10_fact_39 1 rfl ?_
    obtain ⟨o2, h⟩ := h
    refine m_iald (pc := 40) (v := (mem (y + 2) p0)) dX10_fact_40 (yd2 hy) o2.1 o2.2 rfl ?_
    exact m_retI (pc := 41) dX10_fact_41 rfl h
  · have h := h.2.2.1 c1
    refine v_tabIn (pc := 1) (tgt := 42) dX10_fact_1 (by omega) (by omega) (by rw [c1]; rfl) (by decide) ?_
    refine v_aload_n (pc := 42) dX10_fact_42 0 rfl ?_
    refine m_getfin (pc := 43) (v := (y + 3)) hE dX10_fact_43 flX10_18 rfl (yd0 hy) rfl ?_
    refine v_iload_n (pc := 46) dX10_fact_46 1 rfl ?_
    obtain ⟨o3, h⟩ := h
    refine m_iald (pc := 47) (v := (mem (y + 3) p0)) dX10_fact_47 (yd3 hy) o3.1 o3.2 rfl ?_
    exact m_retI (pc := 48) dX10_fact_48 rfl h
  · have h := h.2.2.2 c1
    refine v_tabOut (pc := 1) (tgt := 49) dX10_fact_1 c1 (by decide) ?_
    refine v_iconst (pc := 49) dX10_fact_49 (by decide) ?_
    exact m_retI (pc := 50) dX10_fact_50 rfl h
theorem eX10_fact {E : EN} {k : Nat} {mem : Mm} {Q : Int → Mm → Prop} {y p0 p1 : Int} (hr_p0 : R32 p0) (hr_p1 : R32 p1) (h : VM E mX10_fact k mem 0 [(0, aR y), (1, aI p0), (2, aI p1)] [] (retI Q)) : CI E mX10_fact k mem [aR y, aI p0, aI p1] Q := CI_of rfl (by decide) h (aNs_c (aNr_R _) (aNs_c (aNr_I hr_p0) (aNs_c (aNr_I hr_p1) (fun _ q => nomatch q))))

