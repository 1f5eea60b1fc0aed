theorem dX12_readLaw_0 : decode cX12_readLaw 0 = .ok (.iconst (-1), 1) := by decide +kernel
theorem dX12_readLaw_1 : decode cX12_readLaw 1 = .ok (.istore_n 1, 1) := by decide +kernel
theorem dX12_readLaw_2 : decode cX12_readLaw 2 = .ok (.iconst 0, 1) := by decide +kernel
theorem dX12_readLaw_3 : decode cX12_readLaw 3 = .ok (.istore_n 2, 1) := by decide +kernel
theorem dX12_readLaw_4 : decode cX12_readLaw 4 = .ok (.iload_n 2, 1) := by decide +kernel
theorem dX12_readLaw_5 : decode cX12_readLaw 5 = .ok (.iconst 4, 1) := by decide +kernel
theorem dX12_readLaw_6 : decode cX12_readLaw 6 = .ok (.if_icmp .ge 28, 3) := by decide +kernel
theorem dX12_readLaw_9 : decode cX12_readLaw 9 = .ok (.aload_n 0, 1) := by decide +kernel
theorem dX12_readLaw_10 : decode cX12_readLaw 10 = .ok (.aload_n 0, 1) := by decide +kernel
theorem dX12_readLaw_11 : decode cX12_readLaw 11 = .ok (.getfield 100, 3) := by decide +kernel
theorem dX12_readLaw_14 : decode cX12_readLaw 14 = .ok (.iload_n 2, 1) := by decide +kernel
theorem dX12_readLaw_15 : decode cX12_readLaw 15 = .ok (.laload, 1) := by decide +kernel
theorem dX12_readLaw_16 : decode cX12_readLaw 16 = .ok (.invokevirtual 298, 3) := by decide +kernel
theorem dX12_readLaw_19 : decode cX12_readLaw 19 = .ok (.ifCond .eq 7, 3) := by decide +kernel
theorem dX12_readLaw_22 : decode cX12_readLaw 22 = .ok (.iload_n 2, 1) := by decide +kernel
theorem dX12_readLaw_23 : decode cX12_readLaw 23 = .ok (.goto 4, 3) := by decide +kernel
theorem dX12_readLaw_26 : decode cX12_readLaw 26 = .ok (.iload_n 1, 1) := by decide +kernel
theorem dX12_readLaw_27 : decode cX12_readLaw 27 = .ok (.istore_n 1, 1) := by decide +kernel
theorem dX12_readLaw_28 : decode cX12_readLaw 28 = .ok (.iinc 2 1, 3) := by decide +kernel
theorem dX12_readLaw_31 : decode cX12_readLaw 31 = .ok (.goto (-27), 3) := by decide +kernel
theorem dX12_readLaw_34 : decode cX12_readLaw 34 = .ok (.aload_n 0, 1) := by decide +kernel
theorem dX12_readLaw_35 : decode cX12_readLaw 35 = .ok (.iload_n 1, 1) := by decide +kernel
theorem dX12_readLaw_36 : decode cX12_readLaw 36 = .ok (.iconst (-1), 1) := by decide +kernel
theorem dX12_readLaw_37 : decode cX12_readLaw 37 = .ok (.if_icmp .eq 16, 3) := by decide +kernel
theorem dX12_readLaw_40 : decode cX12_readLaw 40 = .ok (.aload_n 0, 1) := by decide +kernel
theorem dX12_readLaw_41 : decode cX12_readLaw 41 = .ok (.getfield 369, 3) := by decide +kernel
theorem dX12_readLaw_44 : decode cX12_readLaw 44 = .ok (.bipush 12, 2) := by decide +kernel
theorem dX12_readLaw_46 : decode cX12_readLaw 46 = .ok (.if_icmp .ge 7, 3) := by decide +kernel
theorem dX12_readLaw_49 : decode cX12_readLaw 49 = .ok (.iconst 1, 1) := by decide +kernel
theorem dX12_readLaw_50 : decode cX12_readLaw 50 = .ok (.goto 4, 3) := by decide +kernel
theorem dX12_readLaw_53 : decode cX12_readLaw 53 = .ok (.iconst 0, 1) := by decide +kernel
theorem dX12_readLaw_54 : decode cX12_readLaw 54 = .ok (.invokevirtual 274, 3) := by decide +kernel
theorem dX12_readLaw_57 : decode cX12_readLaw 57 = .ok (.aload_n 0, 1) := by decide +kernel
theorem dX12_readLaw_58 : decode cX12_readLaw 58 = .ok (.getfield 241, 3) := by decide +kernel
theorem dX12_readLaw_61 : decode cX12_readLaw 61 = .ok (.ifCond .eq 4, 3) := by decide +kernel
theorem dX12_readLaw_64 : decode cX12_readLaw 64 = .ok (.return_, 1) := by decide +kernel
theorem dX12_readLaw_65 : decode cX12_readLaw 65 = .ok (.bipush 8, 2) := by decide +kernel
theorem dX12_readLaw_67 : decode cX12_readLaw 67 = .ok (.aload_n 0, 1) := by decide +kernel
theorem dX12_readLaw_68 : decode cX12_readLaw 68 = .ok (.getfield 369, 3) := by decide +kernel
theorem dX12_readLaw_71 : decode cX12_readLaw 71 = .ok (.imul, 1) := by decide +kernel
theorem dX12_readLaw_72 : decode cX12_readLaw 72 = .ok (.istore_n 2, 1) := by decide +kernel
theorem dX12_readLaw_73 : decode cX12_readLaw 73 = .ok (.iconst 0, 1) := by decide +kernel
theorem dX12_readLaw_74 : decode cX12_readLaw 74 = .ok (.istore_n 3, 1) := by decide +kernel
theorem dX12_readLaw_75 : decode cX12_readLaw 75 = .ok (.iload_n 3, 1) := by decide +kernel
theorem dX12_readLaw_76 : decode cX12_readLaw 76 = .ok (.bipush 8, 2) := by decide +kernel
theorem dX12_readLaw_78 : decode cX12_readLaw 78 = .ok (.if_icmp .ge 18, 3) := by decide +kernel
theorem dX12_readLaw_81 : decode cX12_readLaw 81 = .ok (.aload_n 0, 1) := by decide +kernel
theorem dX12_readLaw_82 : decode cX12_readLaw 82 = .ok (.getfield 42, 3) := by decide +kernel
theorem dX12_readLaw_85 : decode cX12_readLaw 85 = .ok (.iload_n 2, 1) := by decide +kernel
theorem dX12_readLaw_86 : decode cX12_readLaw 86 = .ok (.iload_n 3, 1) := by decide +kernel
theorem dX12_readLaw_87 : decode cX12_readLaw 87 = .ok (.iadd, 1) := by decide +kernel
theorem dX12_readLaw_88 : decode cX12_readLaw 88 = .ok (.iconst 0, 1) := by decide +kernel
theorem dX12_readLaw_89 : decode cX12_readLaw 89 = .ok (.iastore, 1) := by decide +kernel
theorem dX12_readLaw_90 : decode cX12_readLaw 90 = .ok (.iinc 3 1, 3) := by decide +kernel
theorem dX12_readLaw_93 : decode cX12_readLaw 93 = .ok (.goto (-18), 3) := by decide +kernel
theorem dX12_readLaw_96 : decode cX12_readLaw 96 = .ok (.aload_n 0, 1) := by decide +kernel
theorem dX12_readLaw_97 : decode cX12_readLaw 97 = .ok (.getfield 42, 3) := by decide +kernel
theorem dX12_readLaw_100 : decode cX12_readLaw 100 = .ok (.iload_n 2, 1) := by decide +kernel
theorem dX12_readLaw_101 : decode cX12_readLaw 101 = .ok (.iload_n 1, 1) := by decide +kernel
theorem dX12_readLaw_102 : decode cX12_readLaw 102 = .ok (.iastore, 1) := by decide +kernel
theorem dX12_readLaw_103 : decode cX12_readLaw 103 = .ok (.aload_n 0, 1) := by decide +kernel
theorem dX12_readLaw_104 : decode cX12_readLaw 104 = .ok (.dup, 1) := by decide +kernel
theorem dX12_readLaw_105 : decode cX12_readLaw 105 = .ok (.getfield 369, 3) := by decide +kernel
theorem dX12_readLaw_108 : decode cX12_readLaw 108 = .ok (.iconst 1, 1) := by decide +kernel
theorem dX12_readLaw_109 : decode cX12_readLaw 109 = .ok (.iadd, 1) := by decide +kernel
theorem dX12_readLaw_110 : decode cX12_readLaw 110 = .ok (.putfield 369, 3) := by decide +kernel
theorem dX12_readLaw_113 : decode cX12_readLaw 113 = .ok (.aload_n 0, 1) := by decide +kernel
theorem dX12_readLaw_114 : decode cX12_readLaw 114 = .ok (.getfield 42, 3) := by decide +kernel
theorem dX12_readLaw_117 : decode cX12_readLaw 117 = .ok (.iload_n 2, 1) := by decide +kernel
theorem dX12_readLaw_118 : decode cX12_readLaw 118 = .ok (.iconst 3, 1) := by decide +kernel
theorem dX12_readLaw_119 : decode cX12_readLaw 119 = .ok (.iadd, 1) := by decide +kernel
theorem dX12_readLaw_120 : decode cX12_readLaw 120 = .ok (.aload_n 0, 1) := by decide +kernel
theorem dX12_readLaw_121 : decode cX12_readLaw 121 = .ok (.getfield 278, 3) := by decide +kernel
theorem dX12_readLaw_124 : decode cX12_readLaw 124 = .ok (.iastore, 1) := by decide +kernel
theorem dX12_readLaw_125 : decode cX12_readLaw 125 = .ok (.iload_n 1, 1) := by decide +kernel
theorem dX12_readLaw_126 : decode cX12_readLaw 126 = .ok (.iconst 2, 1) := by decide +kernel
theorem dX12_readLaw_127 : decode cX12_readLaw 127 = .ok (.if_icmp .ge 8, 3) := by decide +kernel
theorem dX12_readLaw_130 : decode cX12_readLaw 130 = .ok (.aload_n 0, 1) := by decide +kernel
theorem dX12_readLaw_131 : decode cX12_readLaw 131 = .ok (.iconst 0, 1) := by decide +kernel
theorem dX12_readLaw_132 : decode cX12_readLaw 132 = .ok (.invokevirtual 372, 3) := by decide +kernel
theorem dX12_readLaw_135 : decode cX12_readLaw 135 = .ok (.aload_n 0, 1) := by decide +kernel
theorem dX12_readLaw_136 : decode cX12_readLaw 136 = .ok (.getfield 42, 3) := by decide +kernel
theorem dX12_readLaw_139 : decode cX12_readLaw 139 = .ok (.iload_n 2, 1) := by decide +kernel
theorem dX12_readLaw_140 : decode cX12_readLaw 140 = .ok (.iconst 4, 1) := by decide +kernel
theorem dX12_readLaw_141 : decode cX12_readLaw 141 = .ok (.iadd, 1) := by decide +kernel
theorem dX12_readLaw_142 : decode cX12_readLaw 142 = .ok (.aload_n 0, 1) := by decide +kernel
theorem dX12_readLaw_143 : decode cX12_readLaw 143 = .ok (.getfield 278, 3) := by decide +kernel
theorem dX12_readLaw_146 : decode cX12_readLaw 146 = .ok (.iastore, 1) := by decide +kernel
theorem dX12_readLaw_147 : decode cX12_readLaw 147 = .ok (.aload_n 0, 1) := by decide +kernel
theorem dX12_readLaw_148 : decode cX12_readLaw 148 = .ok (.getfield 42, 3) := by decide +kernel
theorem dX12_readLaw_151 : decode cX12_readLaw 151 = .ok (.iload_n 2, 1) := by decide +kernel
theorem dX12_readLaw_152 : decode cX12_readLaw 152 = .ok (.iconst 5, 1) := by decide +kernel
theorem dX12_readLaw_153 : decode cX12_readLaw 153 = .ok (.iadd, 1) := by decide +kernel
theorem dX12_readLaw_154 : decode cX12_readLaw 154 = .ok (.aload_n 0, 1) := by decide +kernel
theorem dX12_readLaw_155 : decode cX12_readLaw 155 = .ok (.getfield 278, 3) := by decide +kernel
theorem dX12_readLaw_158 : decode cX12_readLaw 158 = .ok (.iastore, 1) := by decide +kernel
theorem dX12_readLaw_159 : decode cX12_readLaw 159 = .ok (.aload_n 0, 1) := by decide +kernel
theorem dX12_readLaw_160 : decode cX12_readLaw 160 = .ok (.getfield 241, 3) := by decide +kernel
theorem dX12_readLaw_163 : decode cX12_readLaw 163 = .ok (.ifCond .ne 22, 3) := by decide +kernel
theorem dX12_readLaw_166 : decode cX12_readLaw 166 = .ok (.aload_n 0, 1) := by decide +kernel
theorem dX12_readLaw_167 : decode cX12_readLaw 167 = .ok (.ldc2_w 375, 3) := by decide +kernel
theorem dX12_readLaw_170 : decode cX12_readLaw 170 = .ok (.invokevirtual 298, 3) := by decide +kernel
theorem dX12_readLaw_173 : decode cX12_readLaw 173 = .ok (.ifCond .eq 12, 3) := by decide +kernel
theorem dX12_readLaw_176 : decode cX12_readLaw 176 = .ok (.aload_n 0, 1) := by decide +kernel
theorem dX12_readLaw_177 : decode cX12_readLaw 177 = .ok (.invokevirtual 245, 3) := by decide +kernel
theorem dX12_readLaw_180 : decode cX12_readLaw 180 = .ok (.aload_n 0, 1) := by decide +kernel
theorem dX12_readLaw_181 : decode cX12_readLaw 181 = .ok (.iconst 1, 1) := by decide +kernel
theorem dX12_readLaw_182 : decode cX12_readLaw 182 = .ok (.invokevirtual 372, 3) := by decide +kernel
theorem dX12_readLaw_185 : decode cX12_readLaw 185 = .ok (.aload_n 0, 1) := by decide +kernel
theorem dX12_readLaw_186 : decode cX12_readLaw 186 = .ok (.getfield 42, 3) := by decide +kernel
theorem dX12_readLaw_189 : decode cX12_readLaw 189 = .ok (.iload_n 2, 1) := by decide +kernel
theorem dX12_readLaw_190 : decode cX12_readLaw 190 = .ok (.bipush 6, 2) := by decide +kernel
theorem dX12_readLaw_192 : decode cX12_readLaw 192 = .ok (.iadd, 1) := by decide +kernel
theorem dX12_readLaw_193 : decode cX12_readLaw 193 = .ok (.aload_n 0, 1) := by decide +kernel
theorem dX12_readLaw_194 : decode cX12_readLaw 194 = .ok (.getfield 278, 3) := by decide +kernel
theorem dX12_readLaw_197 : decode cX12_readLaw 197 = .ok (.iastore, 1) := by decide +kernel
theorem dX12_readLaw_198 : decode cX12_readLaw 198 = .ok (.return_, 1) := by decide +kernel
set_option maxRecDepth 20000 in
theorem rX12_readLaw_0 {E : EN} (hE : Ep E) {k : Nat} {mem : Mm} {Q : Mm → Prop}
    (h : VM E mX12_readLaw (k + 1) mem 4 [(0, aR 603), (1, aI (-1)), (2, aI 0)] [] (retV Q)) :
    VM E mX12_readLaw (k + 1) mem 0 [(0, aR 603)] [] (retV Q) := by
  refine v_iconst (pc := 0) dX12_readLaw_0 (by decide) ?_
  refine v_istore_n (pc := 1) (al2 := [(1, aI (-1)), (0, aR 603)]) dX12_readLaw_1 (by decide) rfl ?_
  refine v_iconst (pc := 2) dX12_readLaw_2 (by decide) ?_
  refine v_istore_n (pc := 3) (al2 := [(2, aI 0), (1, aI (-1)), (0, aR 603)]) dX12_readLaw_3 (by decide) rfl ?_
  exact VG_sub (al' := [(0, aR 603), (1, aI (-1)), (2, aI 0)]) [2, 1, 0] rfl h
theorem eX12_readLaw {E : EN} {k : Nat} {mem : Mm} {Q : Mm → Prop}  (h : VM E mX12_readLaw (k + 1) mem 0 [(0, aR 603)] [] (retV Q)) : CV E mX12_readLaw (k + 1) mem [aR 603] Q := CV_of rfl (Nat.le_of_ble_eq_true rfl) h (aNs_c (aNr_R _) (fun _ q => nomatch q))
set_option maxRecDepth 20000 in
theorem rX12_readLaw_4 {E : EN} (hE : Ep E) {k : Nat} {mem : Mm} {Q : Mm → Prop} {x1 x2 : Int}
    (h : ((4 ≤ x2 → ((x1 = (-1) → (CV E mX12_must k mem [aR 603, aI 0] (fun m1 => (((m1 603 19) = 0 → (R32 (8 * (m1 603 21))) ∧ VM E mX12_readLaw (k + 1) m1 75 [(0, aR 603), (1, aI x1), (2, aI (8 * (m1 603 21))), (3, aI 0)] [] (retV Q)) ∧ (¬ (m1 603 19) = 0 → Q m1))))) ∧ (¬ x1 = (-1) → ((12 ≤ (mem 603 21) → (CV E mX12_must k mem [aR 603, aI 0] (fun m3 => (((m3 603 19) = 0 → (R32 (8 * (m3 603 21))) ∧ VM E mX12_readLaw (k + 1) m3 75 [(0, aR 603), (1, aI x1), (2, aI (8 * (m3 603 21))), (3, aI 0)] [] (retV Q)) ∧ (¬ (m3 603 19) = 0 → Q m3))))) ∧ ((mem 603 21) < 12 → (CV E mX12_must k mem [aR 603, aI 1] (fun m5 => (((m5 603 19) = 0 → (R32 (8 * (m5 603 21))) ∧ VM E mX12_readLaw (k + 1) m5 75 [(0, aR 603), (1, aI x1), (2, aI (8 * (m5 603 21))), (3, aI 0)] [] (retV Q)) ∧ (¬ (m5 603 19) = 0 → Q m5))))))))) ∧ (x2 < 4 → (0 ≤ x2 ∧ x2 < 4) ∧ (R64 (mem 620 x2) → CI E mX12_isWord k mem [aR 603, aL (mem 620 x2)] (fun r9 m8 => ((r9 = 0 → (R32 (x2 + 1)) ∧ VM E mX12_readLaw (k + 1) m8 4 [(0, aR 603), (1, aI x1), (2, aI (x2 + 1))] [] (retV Q)) ∧ (¬ r9 = 0 → (R32 (x2 + 1)) ∧ VM E mX12_readLaw (k + 1) m8 4 [(0, aR 603), (1, aI x2), (2, aI (x2 + 1))] [] (retV Q)))))))) :
    VM E mX12_readLaw (k + 1) mem 4 [(0, aR 603), (1, aI x1), (2, aI x2)] [] (retV Q) := by
  refine v_iload_n (pc := 4) dX12_readLaw_4 2 rfl ?_
  refine v_iconst (pc := 5) dX12_readLaw_5 (by decide) ?_
  refine v_icmpge (pc := 6) (tgt := 34) dX12_readLaw_6 (by decide) (fun c1 => ?_) (fun c1 => ?_)
  · have h := h.1 c1
    refine v_aload_n (pc := 34) dX12_readLaw_34 0 rfl ?_
    refine v_iload_n (pc := 35) dX12_readLaw_35 1 rfl ?_
    refine v_iconst (pc := 36) dX12_readLaw_36 (by decide) ?_
    refine v_icmpeq (pc := 37) (tgt := 53) dX12_readLaw_37 (by decide) (fun c1 => ?_) (fun c1 => ?_)
    · have h := h.1 c1
      refine v_iconst (pc := 53) dX12_readLaw_53 (by decide) ?_
      refine m_invV (pc := 54) (mi' := mX12_must) (rest := []) [aI 0] dX12_readLaw_54 at603 (by decide) rfl msX12_must mvX12_must lkX12_274 rfl (Nat.le_of_ble_eq_true rfl) (fun hn => CV_mono (h) (fun m1 h => ?_))
      refine v_aload_n (pc := 57) dX12_readLaw_57 0 rfl ?_
      refine m_getf (pc := 58) (t := 0) (v := (m1 603 19)) dX12_readLaw_58 flX12_241 rfl at603 rfl ?_
      refine v_ifeq (pc := 61) (tgt := 65) dX12_readLaw_61 (by decide) (fun c1 => ?_) (fun c1 => ?_)
      · have h := h.1 c1
        refine v_bipush (pc := 65) dX12_readLaw_65 (by decide) ?_
        refine v_aload_n (pc := 67) dX12_readLaw_67 0 rfl ?_
        refine m_getf (pc := 68) (t := 0) (v := (m1 603 21)) dX12_readLaw_68 flX12_369 rfl at603 rfl ?_
        obtain ⟨o2, h⟩ := h
        refine m_imul (pc := 71) dX12_readLaw_71 o2 ?_
        refine v_istore_n (pc := 72) (al2 := [(2, aI (8 * (m1 603 21))), (0, aR 603), (1, aI x1)]) dX12_readLaw_72 (by decide) rfl ?_
        refine v_iconst (pc := 73) dX12_readLaw_73 (by decide) ?_
        refine v_istore_n (pc := 74) (al2 := [(3, aI 0), (2, aI (8 * (m1 603 21))), (0, aR 603), (1, aI x1)]) dX12_readLaw_74 (by decide) rfl ?_
        exact VG_sub (al' := [(0, aR 603), (1, aI x1), (2, aI (8 * (m1 603 21))), (3, aI 0)]) [2, 3, 1, 0] rfl h
      · have h := h.2 c1
        exact m_retV (pc := 64) dX12_readLaw_64 rfl h
    · have h := h.2 c1
      refine v_aload_n (pc := 40) dX12_readLaw_40 0 rfl ?_
      refine m_getf (pc := 41) (t := 0) (v := (mem 603 21)) dX12_readLaw_41 flX12_369 rfl at603 rfl ?_
      refine v_bipush (pc := 44) dX12_readLaw_44 (by decide) ?_
      refine v_icmpge (pc := 46) (tgt := 53) dX12_readLaw_46 (by decide) (fun c1 => ?_) (fun c1 => ?_)
      · have h := h.1 c1
        refine v_iconst (pc := 53) dX12_readLaw_53 (by decide) ?_
        refine m_invV (pc := 54) (mi' := mX12_must) (rest := []) [aI 0] dX12_readLaw_54 at603 (by decide) rfl msX12_must mvX12_must lkX12_274 rfl (Nat.le_of_ble_eq_true rfl) (fun hn => CV_mono (h) (fun m3 h => ?_))
        refine v_aload_n (pc := 57) dX12_readLaw_57 0 rfl ?_
        refine m_getf (pc := 58) (t := 0) (v := (m3 603 19)) dX12_readLaw_58 flX12_241 rfl at603 rfl ?_
        refine v_ifeq (pc := 61) (tgt := 65) dX12_readLaw_61 (by decide) (fun c1 => ?_) (fun c1 => ?_)
        · have h := h.1 c1
          refine v_bipush (pc := 65) dX12_readLaw_65 (by decide) ?_
          refine v_aload_n (pc := 67) dX12_readLaw_67 0 rfl ?_
          refine m_getf (pc := 68) (t := 0) (v := (m3 603 21)) dX12_readLaw_68 flX12_369 rfl at603 rfl ?_
          obtain ⟨o4, h⟩ := h
          refine m_imul (pc := 71) dX12_readLaw_71 o4 ?_
          refine v_istore_n (pc := 72) (al2 := [(2, aI (8 * (m3 603 21))), (0, aR 603), (1, aI x1)]) dX12_readLaw_72 (by decide) rfl ?_
          refine v_iconst (pc := 73) dX12_readLaw_73 (by decide) ?_
          refine v_istore_n (pc := 74) (al2 := [(3, aI 0), (2, aI (8 * (m3 603 21))), (0, aR 603), (1, aI x1)]) dX12_readLaw_74 (by decide) rfl ?_
          exact VG_sub (al' := [(0, aR 603), (1, aI x1), (2, aI (8 * (m3 603 21))), (3, aI 0)]) [2, 3, 1, 0] rfl h
        · have h := h.2 c1
          exact m_retV (pc := 64) dX12_readLaw_64 rfl h
      · have h := h.2 c1
        refine v_iconst (pc := 49) dX12_readLaw_49 (by decide) ?_
        refine v_goto (pc := 50) (tgt := 54) dX12_readLaw_50 (by decide) ?_
        refine m_invV (pc := 54) (mi' := mX12_must) (rest := []) [aI 1] dX12_readLaw_54 at603 (by decide) rfl msX12_must mvX12_must lkX12_274 rfl (Nat.le_of_ble_eq_true rfl) (fun hn => CV_mono (h) (fun m5 h => ?_))
        refine v_aload_n (pc := 57) dX12_readLaw_57 0 rfl ?_
        refine m_getf (pc := 58) (t := 0) (v := (m5 603 19)) dX12_readLaw_58 flX12_241 rfl at603 rfl ?_
        refine v_ifeq (pc := 61) (tgt := 65) dX12_readLaw_61 (by decide) (fun c1 => ?_) (fun c1 => ?_)
        · have h := h.1 c1
          refine v_bipush (pc := 65) dX12_readLaw_65 (by decide) ?_
          refine v_aload_n (pc := 67) dX12_readLaw_67 0 rfl ?_
          refine m_getf (pc := 68) (t := 0) (v := (m5 603 21)) dX12_readLaw_68 flX12_369 rfl at603 rfl ?_
          obtain ⟨o6, h⟩ := h
          refine m_imul (pc := 71) dX12_readLaw_71 o6 ?_
          refine v_istore_n (pc := 72) (al2 := [(2, aI (8 * (m5 603 21))), (0, aR 603), (1, aI x1)]) dX12_readLaw_72 (by decide) rfl ?_
          refine v_iconst (pc := 73) dX12_readLaw_73 (by decide) ?_
          refine v_istore_n (pc := 74) (al2 := [(3, aI 0), (2, aI (8 * (m5 603 21))), (0, aR 603), (1, aI x1)]) dX12_readLaw_74 (by decide) rfl ?_
          exact VG_sub (al' := [(0, aR 603), (1, aI x1), (2, aI (8 * (m5 603 21))), (3, aI 0)]) [2, 3, 1, 0] rfl h
        · have h := h.2 c1
          exact m_retV (pc := 64) dX12_readLaw_64 rfl h
  · have h := h.2 c1
    refine v_aload_n (pc := 9) dX12_readLaw_9 0 rfl ?_
    refine v_aload_n (pc := 10) dX12_readLaw_10 0 rfl ?_
    refine m_getfin (pc := 11) (v := 620) hE dX12_readLaw_11 flX12_100 rfl at603 rfl ?_
    refine v_iload_n (pc := 14) dX12_readLaw_14 2 rfl ?_
    obtain ⟨o7, h⟩ := h
    refine m_lald (pc := 15) (v := (mem 620 x2)) dX12_readLaw_15 at620 o7.1 o7.2 rfl ?_
    refine m_invI (pc := 16) (mi' := mX12_isWord) (rest := []) [aL (mem 620 x2)] dX12_readLaw_16 at603 (by decide) rfl msX12_isWord mvX12_isWord lkX12_298 rfl (Nat.le_of_ble_eq_true rfl) (fun hn => CI_mono (h (aaL hn 1 rfl)) (fun r9 m8 h => ?_))
    refine v_ifeq (pc := 19) (tgt := 26) dX12_readLaw_19 (by decide) (fun c1 => ?_) (fun c1 => ?_)
    · have h := h.1 c1
      refine v_iload_n (pc := 26) dX12_readLaw_26 1 rfl ?_
      refine v_istore_n (pc := 27) (al2 := [(1, aI x1), (0, aR 603), (2, aI x2)]) dX12_readLaw_27 (by decide) rfl ?_
      obtain ⟨o10, h⟩ := h
      refine m_iinc (pc := 28) (al2 := [(2, aI (x2 + 1)), (1, aI x1), (0, aR 603)]) dX12_readLaw_28 2 rfl (by decide) o10 rfl ?_
      refine v_goto (pc := 31) (tgt := 4) dX12_readLaw_31 (by decide) ?_
      exact VG_sub (al' := [(0, aR 603), (1, aI x1), (2, aI (x2 + 1))]) [2, 1, 0] rfl h
    · have h := h.2 c1
      refine v_iload_n (pc := 22) dX12_readLaw_22 2 rfl ?_
      refine v_goto (pc := 23) (tgt := 27) dX12_readLaw_23 (by decide) ?_
      refine v_istore_n (pc := 27) (al2 := [(1, aI x2), (0, aR 603), (2, aI x2)]) dX12_readLaw_27 (by decide) rfl ?_
      obtain ⟨o11, h⟩ := h
      refine m_iinc (pc := 28) (al2 := [(2, aI (x2 + 1)), (1, aI x2), (0, aR 603)]) dX12_readLaw_28 2 rfl (by decide) o11 rfl ?_
      refine v_goto (pc := 31) (tgt := 4) dX12_readLaw_31 (by decide) ?_
      exact VG_sub (al' := [(0, aR 603), (1, aI x2), (2, aI (x2 + 1))]) [2, 1, 0] rfl h
set_option maxRecDepth 20000 in
theorem rX12_readLaw_75 {E : EN} (hE : Ep E) {k : Nat} {mem : Mm} {Q : Mm → Prop} {x1 x2 x3 : Int}
    (h : ((8 ≤ x3 → (0 ≤ x2 ∧ x2 < 96) ∧ (R32 ((mem 603 21) + 1)) ∧ (R32 (x2 + 3)) ∧ (0 ≤ (x2 + 3) ∧ (x2 + 3) < 96) ∧ ((2 ≤ x1 → VM E mX12_readLaw (k + 1) (aUp (aUp (aUp mem 613 x2 x1) 603 21 ((mem 603 21) + 1)) 613 (x2 + 3) (mem 603 23)) 135 [(0, aR 603), (2, aI x2)] [] (retV Q)) ∧ (x1 < 2 → (CV E mX12_readExpression k (aUp (aUp (aUp mem 613 x2 x1) 603 21 ((mem 603 21) + 1)) 613 (x2 + 3) (mem 603 23)) [aR 603, aI 0] (fun m5 => VM E mX12_readLaw (k + 1) m5 135 [(0, aR 603), (2, aI x2)] [] (retV Q)))))) ∧ (x3 < 8 → (R32 (x2 + x3)) ∧ (0 ≤ (x2 + x3) ∧ (x2 + x3) < 96) ∧ (R32 (x3 + 1)) ∧ VM E mX12_readLaw (k + 1) (aUp mem 613 (x2 + x3) 0) 75 [(0, aR 603), (1, aI x1), (2, aI x2), (3, aI (x3 + 1))] [] (retV Q)))) :
    VM E mX12_readLaw (k + 1) mem 75 [(0, aR 603), (1, aI x1), (2, aI x2), (3, aI x3)] [] (retV Q) := by
  refine v_iload_n (pc := 75) dX12_readLaw_75 3 rfl ?_
  refine v_bipush (pc := 76) dX12_readLaw_76 (by decide) ?_
  refine v_icmpge (pc := 78) (tgt := 96) dX12_readLaw_78 (by decide) (fun c1 => ?_) (fun c1 => ?_)
  · have h := h.1 c1
    refine v_aload_n (pc := 96) dX12_readLaw_96 0 rfl ?_
    refine m_getfin (pc := 97) (v := 613) hE dX12_readLaw_97 flX12_42 rfl at603 rfl ?_
    refine v_iload_n (pc := 100) dX12_readLaw_100 2 rfl ?_
    refine v_iload_n (pc := 101) dX12_readLaw_101 1 rfl ?_
    obtain ⟨o1, h⟩ := h
    refine v_iast (pc := 102) dX12_readLaw_102 at613 o1.1 o1.2 ?_
    refine v_aload_n (pc := 103) dX12_readLaw_103 0 rfl ?_
    refine v_dup (pc := 104) dX12_readLaw_104 rfl ?_
    refine m_getf (pc := 105) (t := 0) (v := (mem 603 21)) dX12_readLaw_105 flX12_369 rfl at603 (aUp_rn (by omega)) ?_
    refine v_iconst (pc := 108) dX12_readLaw_108 (by decide) ?_
    obtain ⟨o2, h⟩ := h
    refine m_iadd (pc := 109) dX12_readLaw_109 o2 ?_
    refine v_putf (pc := 110) dX12_readLaw_110 flX12_369 ⟨_, _, rfl, Or.inl rfl⟩ rfl (by decide) (fun q => nomatch q) (Or.inl fun _ => rfl) at603 ?_
    refine v_aload_n (pc := 113) dX12_readLaw_113 0 rfl ?_
    refine m_getfin (pc := 114) (v := 613) hE dX12_readLaw_114 flX12_42 rfl at603 rfl ?_
    refine v_iload_n (pc := 117) dX12_readLaw_117 2 rfl ?_
    refine v_iconst (pc := 118) dX12_readLaw_118 (by decide) ?_
    obtain ⟨o3, h⟩ := h
    refine m_iadd (pc := 119) dX12_readLaw_119 o3 ?_
    refine v_aload_n (pc := 120) dX12_readLaw_120 0 rfl ?_
    refine m_getf (pc := 121) (t := 0) (v := (mem 603 23)) dX12_readLaw_121 flX12_278 rfl at603 ((aUp_ri (by decide)).trans (aUp_rn (by omega))) ?_
    obtain ⟨o4, h⟩ := h
    refine v_iast (pc := 124) dX12_readLaw_124 at613 o4.1 o4.2 ?_
    refine v_iload_n (pc := 125) dX12_readLaw_125 1 rfl ?_
    refine v_iconst (pc := 126) dX12_readLaw_126 (by decide) ?_
    refine v_icmpge (pc := 127) (tgt := 135) dX12_readLaw_127 (by decide) (fun c1 => ?_) (fun c1 => ?_)
    · have h := h.1 c1
      exact VG_sub (al' := [(0, aR 603), (2, aI x2)]) [0, 2] rfl h
    · have h := h.2 c1
      refine v_aload_n (pc := 130) dX12_readLaw_130 0 rfl ?_
      refine v_iconst (pc := 131) dX12_readLaw_131 (by decide) ?_
      refine m_invV (pc := 132) (mi' := mX12_readExpression) (rest := []) [aI 0] dX12_readLaw_132 at603 (by decide) rfl msX12_readExpression mvX12_readExpression lkX12_372 rfl (Nat.le_of_ble_eq_true rfl) (fun hn => CV_mono (h) (fun m5 h => ?_))
      exact VG_sub (al' := [(0, aR 603), (2, aI x2)]) [0, 2] rfl h
  · have h := h.2 c1
    refine v_aload_n (pc := 81) dX12_readLaw_81 0 rfl ?_
    refine m_getfin (pc := 82) (v := 613) hE dX12_readLaw_82 flX12_42 rfl at603 rfl ?_
    refine v_iload_n (pc := 85) dX12_readLaw_85 2 rfl ?_
    refine v_iload_n (pc := 86) dX12_readLaw_86 3 rfl ?_
    obtain ⟨o6, h⟩ := h
    refine m_iadd (pc := 87) dX12_readLaw_87 o6 ?_
    refine v_iconst (pc := 88) dX12_readLaw_88 (by decide) ?_
    obtain ⟨o7, h⟩ := h
    refine v_iast (pc := 89) dX12_readLaw_89 at613 o7.1 o7.2 ?_
    obtain ⟨o8, h⟩ := h
    refine m_iinc (pc := 90) (al2 := [(3, aI (x3 + 1)), (0, aR 603), (1, aI x1), (2, aI x2)]) dX12_readLaw_90 3 rfl (by decide) o8 rfl ?_
    refine v_goto (pc := 93) (tgt := 75) dX12_readLaw_93 (by decide) ?_
    exact VG_sub (al' := [(0, aR 603), (1, aI x1), (2, aI x2), (3, aI (x3 + 1))]) [1, 2, 3, 0] rfl h
set_option maxRecDepth 20000 in
theorem rX12_readLaw_135 {E : EN} (hE : Ep E) {k : Nat} {mem : Mm} {Q : Mm → Prop} {x2 : Int}
    (h : (R32 (x2 + 4)) ∧ (0 ≤ (x2 + 4) ∧ (x2 + 4) < 96) ∧ (R32 (x2 + 5)) ∧ (0 ≤ (x2 + 5) ∧ (x2 + 5) < 96) ∧ ((¬ (mem 603 19) = 0 → VM E mX12_readLaw (k + 1) (aUp (aUp mem 613 (x2 + 4) (mem 603 23)) 613 (x2 + 5) (mem 603 23)) 185 [(0, aR 603), (2, aI x2)] [] (retV Q)) ∧ ((mem 603 19) = 0 → (CI E mX12_isWord k (aUp (aUp mem 613 (x2 + 4) (mem 603 23)) 613 (x2 + 5) (mem 603 23)) [aR 603, aL 294] (fun r6 m5 => ((r6 = 0 → VM E mX12_readLaw (k + 1) m5 185 [(0, aR 603), (2, aI x2)] [] (retV Q)) ∧ (¬ r6 = 0 → (CV E mX12_next k m5 [aR 603] (fun m7 => (CV E mX12_readExpression k m7 [aR 603, aI 1] (fun m8 => VM E mX12_readLaw (k + 1) m8 185 [(0, aR 603), (2, aI x2)] [] (retV Q)))))))))))) :
    VM E mX12_readLaw (k + 1) mem 135 [(0, aR 603), (2, aI x2)] [] (retV Q) := by
  refine v_aload_n (pc := 135) dX12_readLaw_135 0 rfl ?_
  refine m_getfin (pc := 136) (v := 613) hE dX12_readLaw_136 flX12_42 rfl at603 rfl ?_
  refine v_iload_n (pc := 139) dX12_readLaw_139 1 rfl ?_
  refine v_iconst (pc := 140) dX12_readLaw_140 (by decide) ?_
  obtain ⟨o1, h⟩ := h
  refine m_iadd (pc := 141) dX12_readLaw_141 o1 ?_
  refine v_aload_n (pc := 142) dX12_readLaw_142 0 rfl ?_
  refine m_getf (pc := 143) (t := 0) (v := (mem 603 23)) dX12_readLaw_143 flX12_278 rfl at603 rfl ?_
  obtain ⟨o2, h⟩ := h
  refine v_iast (pc := 146) dX12_readLaw_146 at613 o2.1 o2.2 ?_
  refine v_aload_n (pc := 147) dX12_readLaw_147 0 rfl ?_
  refine m_getfin (pc := 148) (v := 613) hE dX12_readLaw_148 flX12_42 rfl at603 rfl ?_
  refine v_iload_n (pc := 151) dX12_readLaw_151 1 rfl ?_
  refine v_iconst (pc := 152) dX12_readLaw_152 (by decide) ?_
  obtain ⟨o3, h⟩ := h
  refine m_iadd (pc := 153) dX12_readLaw_153 o3 ?_
  refine v_aload_n (pc := 154) dX12_readLaw_154 0 rfl ?_
  refine m_getf (pc := 155) (t := 0) (v := (mem 603 23)) dX12_readLaw_155 flX12_278 rfl at603 (aUp_rn (by omega)) ?_
  obtain ⟨o4, h⟩ := h
  refine v_iast (pc := 158) dX12_readLaw_158 at613 o4.1 o4.2 ?_
  refine v_aload_n (pc := 159) dX12_readLaw_159 0 rfl ?_
  refine m_getf (pc := 160) (t := 0) (v := (mem 603 19)) dX12_readLaw_160 flX12_241 rfl at603 ((aUp_rn (by omega)).trans (aUp_rn (by omega))) ?_
  refine v_ifne (pc := 163) (tgt := 185) dX12_readLaw_163 (by decide) (fun c1 => ?_) (fun c1 => ?_)
  · have h := h.1 c1
    exact VG_sub (al' := [(0, aR 603), (2, aI x2)]) [0, 1] rfl h
  · have h := h.2 c1
    refine v_aload_n (pc := 166) dX12_readLaw_166 0 rfl ?_
    refine v_ldc2 (pc := 167) (n := 294) dX12_readLaw_167 cnX12_375 (by decide) ?_
    refine m_invI (pc := 170) (mi' := mX12_isWord) (rest := []) [aL 294] dX12_readLaw_170 at603 (by decide) rfl msX12_isWord mvX12_isWord lkX12_298 rfl (Nat.le_of_ble_eq_true rfl) (fun hn => CI_mono (h) (fun r6 m5 h => ?_))
    refine v_ifeq (pc := 173) (tgt := 185) dX12_readLaw_173 (by decide) (fun c1 => ?_) (fun c1 => ?_)
    · have h := h.1 c1
      exact VG_sub (al' := [(0, aR 603), (2, aI x2)]) [0, 1] rfl h
    · have h := h.2 c1
      refine v_aload_n (pc := 176) dX12_readLaw_176 0 rfl ?_
      refine m_invV (pc := 177) (mi' := mX12_next) (rest := []) [] dX12_readLaw_177 at603 (by decide) rfl msX12_next mvX12_next lkX12_245 rfl (Nat.le_of_ble_eq_true rfl) (fun hn => CV_mono (h) (fun m7 h => ?_))
      refine v_aload_n (pc := 180) dX12_readLaw_180 0 rfl ?_
      refine v_iconst (pc := 181) dX12_readLaw_181 (by decide) ?_
      refine m_invV (pc := 182) (mi' := mX12_readExpression) (rest := []) [aI 1] dX12_readLaw_182 at603 (by decide) rfl msX12_readExpression mvX12_readExpression lkX12_372 rfl (Nat.le_of_ble_eq_true rfl) (fun hn => CV_mono (h) (fun m8 h => ?_))
      exact VG_sub (al' := [(0, aR 603), (2, aI x2)]) [0, 1] rfl h
set_option maxRecDepth 20000 in
theorem rX12_readLaw_185 {E : EN} (hE : Ep E) {k : Nat} {mem : Mm} {Q : Mm → Prop} {x2 : Int}
    (h : (R32 (x2 + 6)) ∧ (0 ≤ (x2 + 6) ∧ (x2 + 6) < 96) ∧ Q (aUp mem 613 (x2 + 6) (mem 603 23))) :
    VM E mX12_readLaw (k + 1) mem 185 [(0, aR 603), (2, aI x2)] [] (retV Q) := by
  refine v_aload_n (pc := 185) dX12_readLaw_185 0 rfl ?_
  refine m_getfin (pc := 186) (v := 613) hE dX12_readLaw_186 flX12_42 rfl at603 rfl ?_
  refine v_iload_n (pc := 189) dX12_readLaw_189 1 rfl ?_
  refine v_bipush (pc := 190) dX12_readLaw_190 (by decide) ?_
  obtain ⟨o1, h⟩ := h
  refine m_iadd (pc := 192) dX12_readLaw_192 o1 ?_
  refine v_aload_n (pc := 193) dX12_readLaw_193 0 rfl ?_
  refine m_getf (pc := 194) (t := 0) (v := (mem 603 23)) dX12_readLaw_194 flX12_278 rfl at603 rfl ?_
  obtain ⟨o2, h⟩ := h
  refine v_iast (pc := 197) dX12_readLaw_197 at613 o2.1 o2.2 ?_
  exact m_retV (pc := 198) dX12_readLaw_198 rfl h

theorem dX12_law_0 : decode cX12_law 0 = .ok (.aload_n 0, 1) := by decide +kernel
theorem dX12_law_1 : decode cX12_law 1 = .ok (.iconst 0, 1) := by decide +kernel
theorem dX12_law_2 : decode cX12_law 2 = .ok (.putfield 162, 3) := by decide +kernel
theorem dX12_law_5 : decode cX12_law 5 = .ok (.aload_n 0, 1) := by decide +kernel
theorem dX12_law_6 : decode cX12_law 6 = .ok (.getfield 13, 3) := by decide +kernel
theorem dX12_law_9 : decode cX12_law 9 = .ok (.iconst 1, 1) := by decide +kernel
theorem dX12_law_10 : decode cX12_law 10 = .ok (.iaload, 1) := by decide +kernel
theorem dX12_law_11 : decode cX12_law 11 = .ok (.bipush 6, 2) := by decide +kernel
theorem dX12_law_13 : decode cX12_law 13 = .ok (.if_icmp .ne 15, 3) := by decide +kernel
theorem dX12_law_16 : decode cX12_law 16 = .ok (.aload_n 0, 1) := by decide +kernel
theorem dX12_law_17 : decode cX12_law 17 = .ok (.iconst 0, 1) := by decide +kernel
theorem dX12_law_18 : decode cX12_law 18 = .ok (.putfield 229, 3) := by decide +kernel
theorem dX12_law_21 : decode cX12_law 21 = .ok (.aload_n 0, 1) := by decide +kernel
theorem dX12_law_22 : decode cX12_law 22 = .ok (.bipush (-5), 2) := by decide +kernel
theorem dX12_law_24 : decode cX12_law 24 = .ok (.invokevirtual 175, 3) := by decide +kernel
theorem dX12_law_27 : decode cX12_law 27 = .ok (.ireturn, 1) := by decide +kernel
theorem dX12_law_28 : decode cX12_law 28 = .ok (.aload_n 0, 1) := by decide +kernel
theorem dX12_law_29 : decode cX12_law 29 = .ok (.iconst 0, 1) := by decide +kernel
theorem dX12_law_30 : decode cX12_law 30 = .ok (.invokevirtual 377, 3) := by decide +kernel
theorem dX12_law_33 : decode cX12_law 33 = .ok (.aload_n 0, 1) := by decide +kernel
theorem dX12_law_34 : decode cX12_law 34 = .ok (.invokevirtual 380, 3) := by decide +kernel
theorem dX12_law_37 : decode cX12_law 37 = .ok (.aload_n 0, 1) := by decide +kernel
theorem dX12_law_38 : decode cX12_law 38 = .ok (.getfield 241, 3) := by decide +kernel
theorem dX12_law_41 : decode cX12_law 41 = .ok (.ifCond .ne 23, 3) := by decide +kernel
theorem dX12_law_44 : decode cX12_law 44 = .ok (.aload_n 0, 1) := by decide +kernel
theorem dX12_law_45 : decode cX12_law 45 = .ok (.bipush 59, 2) := by decide +kernel
theorem dX12_law_47 : decode cX12_law 47 = .ok (.invokevirtual 311, 3) := by decide +kernel
theorem dX12_law_50 : decode cX12_law 50 = .ok (.ifCond .eq 14, 3) := by decide +kernel
theorem dX12_law_53 : decode cX12_law 53 = .ok (.aload_n 0, 1) := by decide +kernel
theorem dX12_law_54 : decode cX12_law 54 = .ok (.invokevirtual 245, 3) := by decide +kernel
theorem dX12_law_57 : decode cX12_law 57 = .ok (.aload_n 0, 1) := by decide +kernel
theorem dX12_law_58 : decode cX12_law 58 = .ok (.invokevirtual 380, 3) := by decide +kernel
theorem dX12_law_61 : decode cX12_law 61 = .ok (.goto (-24), 3) := by decide +kernel
theorem dX12_law_64 : decode cX12_law 64 = .ok (.aload_n 0, 1) := by decide +kernel
theorem dX12_law_65 : decode cX12_law 65 = .ok (.invokevirtual 383, 3) := by decide +kernel
theorem dX12_law_68 : decode cX12_law 68 = .ok (.aload_n 0, 1) := by decide +kernel
theorem dX12_law_69 : decode cX12_law 69 = .ok (.getfield 241, 3) := by decide +kernel
theorem dX12_law_72 : decode cX12_law 72 = .ok (.ifCond .eq 10, 3) := by decide +kernel
theorem dX12_law_75 : decode cX12_law 75 = .ok (.aload_n 0, 1) := by decide +kernel
theorem dX12_law_76 : decode cX12_law 76 = .ok (.bipush (-6), 2) := by decide +kernel
theorem dX12_law_78 : decode cX12_law 78 = .ok (.invokevirtual 175, 3) := by decide +kernel
theorem dX12_law_81 : decode cX12_law 81 = .ok (.ireturn, 1) := by decide +kernel
theorem dX12_law_82 : decode cX12_law 82 = .ok (.sipush 170, 3) := by decide +kernel
theorem dX12_law_85 : decode cX12_law 85 = .ok (.sipush 900, 3) := by decide +kernel
theorem dX12_law_88 : decode cX12_law 88 = .ok (.aload_n 0, 1) := by decide +kernel
theorem dX12_law_89 : decode cX12_law 89 = .ok (.getfield 13, 3) := by decide +kernel
theorem dX12_law_92 : decode cX12_law 92 = .ok (.iconst 1, 1) := by decide +kernel
theorem dX12_law_93 : decode cX12_law 93 = .ok (.iaload, 1) := by decide +kernel
theorem dX12_law_94 : decode cX12_law 94 = .ok (.imul, 1) := by decide +kernel
theorem dX12_law_95 : decode cX12_law 95 = .ok (.iadd, 1) := by decide +kernel
theorem dX12_law_96 : decode cX12_law 96 = .ok (.istore_n 1, 1) := by decide +kernel
theorem dX12_law_97 : decode cX12_law 97 = .ok (.aload_n 0, 1) := by decide +kernel
theorem dX12_law_98 : decode cX12_law 98 = .ok (.getfield 13, 3) := by decide +kernel
theorem dX12_law_101 : decode cX12_law 101 = .ok (.iload_n 1, 1) := by decide +kernel
theorem dX12_law_102 : decode cX12_law 102 = .ok (.iconst 1, 1) := by decide +kernel
theorem dX12_law_103 : decode cX12_law 103 = .ok (.iadd, 1) := by decide +kernel
theorem dX12_law_104 : decode cX12_law 104 = .ok (.aload_n 0, 1) := by decide +kernel
theorem dX12_law_105 : decode cX12_law 105 = .ok (.getfield 369, 3) := by decide +kernel
theorem dX12_law_108 : decode cX12_law 108 = .ok (.iastore, 1) := by decide +kernel
theorem dX12_law_109 : decode cX12_law 109 = .ok (.iconst 0, 1) := by decide +kernel
theorem dX12_law_110 : decode cX12_law 110 = .ok (.istore_n 2, 1) := by decide +kernel
theorem dX12_law_111 : decode cX12_law 111 = .ok (.iload_n 2, 1) := by decide +kernel
theorem dX12_law_112 : decode cX12_law 112 = .ok (.bipush 8, 2) := by decide +kernel
theorem dX12_law_114 : decode cX12_law 114 = .ok (.aload_n 0, 1) := by decide +kernel
theorem dX12_law_115 : decode cX12_law 115 = .ok (.getfield 369, 3) := by decide +kernel
theorem dX12_law_118 : decode cX12_law 118 = .ok (.imul, 1) := by decide +kernel
theorem dX12_law_119 : decode cX12_law 119 = .ok (.if_icmp .ge 25, 3) := by decide +kernel
theorem dX12_law_122 : decode cX12_law 122 = .ok (.aload_n 0, 1) := by decide +kernel
theorem dX12_law_123 : decode cX12_law 123 = .ok (.getfield 13, 3) := by decide +kernel
theorem dX12_law_126 : decode cX12_law 126 = .ok (.iload_n 1, 1) := by decide +kernel
theorem dX12_law_127 : decode cX12_law 127 = .ok (.iconst 2, 1) := by decide +kernel
theorem dX12_law_128 : decode cX12_law 128 = .ok (.iadd, 1) := by decide +kernel
theorem dX12_law_129 : decode cX12_law 129 = .ok (.iload_n 2, 1) := by decide +kernel
theorem dX12_law_130 : decode cX12_law 130 = .ok (.iadd, 1) := by decide +kernel
theorem dX12_law_131 : decode cX12_law 131 = .ok (.aload_n 0, 1) := by decide +kernel
theorem dX12_law_132 : decode cX12_law 132 = .ok (.getfield 42, 3) := by decide +kernel
theorem dX12_law_135 : decode cX12_law 135 = .ok (.iload_n 2, 1) := by decide +kernel
theorem dX12_law_136 : decode cX12_law 136 = .ok (.iaload, 1) := by decide +kernel
theorem dX12_law_137 : decode cX12_law 137 = .ok (.iastore, 1) := by decide +kernel
theorem dX12_law_138 : decode cX12_law 138 = .ok (.iinc 2 1, 3) := by decide +kernel
theorem dX12_law_141 : decode cX12_law 141 = .ok (.goto (-30), 3) := by decide +kernel
theorem dX12_law_144 : decode cX12_law 144 = .ok (.iconst 0, 1) := by decide +kernel
theorem dX12_law_145 : decode cX12_law 145 = .ok (.istore_n 2, 1) := by decide +kernel
theorem dX12_law_146 : decode cX12_law 146 = .ok (.iload_n 2, 1) := by decide +kernel
theorem dX12_law_147 : decode cX12_law 147 = .ok (.aload_n 0, 1) := by decide +kernel
theorem dX12_law_148 : decode cX12_law 148 = .ok (.getfield 278, 3) := by decide +kernel
theorem dX12_law_151 : decode cX12_law 151 = .ok (.if_icmp .ge 49, 3) := by decide +kernel
theorem dX12_law_154 : decode cX12_law 154 = .ok (.aload_n 0, 1) := by decide +kernel
theorem dX12_law_155 : decode cX12_law 155 = .ok (.getfield 13, 3) := by decide +kernel
theorem dX12_law_158 : decode cX12_law 158 = .ok (.iload_n 1, 1) := by decide +kernel
theorem dX12_law_159 : decode cX12_law 159 = .ok (.bipush 98, 2) := by decide +kernel
theorem dX12_law_161 : decode cX12_law 161 = .ok (.iadd, 1) := by decide +kernel
theorem dX12_law_162 : decode cX12_law 162 = .ok (.iconst 2, 1) := by decide +kernel
theorem dX12_law_163 : decode cX12_law 163 = .ok (.iload_n 2, 1) := by decide +kernel
theorem dX12_law_164 : decode cX12_law 164 = .ok (.imul, 1) := by decide +kernel
theorem dX12_law_165 : decode cX12_law 165 = .ok (.iadd, 1) := by decide +kernel
theorem dX12_law_166 : decode cX12_law 166 = .ok (.aload_n 0, 1) := by decide +kernel
theorem dX12_law_167 : decode cX12_law 167 = .ok (.getfield 45, 3) := by decide +kernel
theorem dX12_law_170 : decode cX12_law 170 = .ok (.iload_n 2, 1) := by decide +kernel
theorem dX12_law_171 : decode cX12_law 171 = .ok (.iaload, 1) := by decide +kernel
theorem dX12_law_172 : decode cX12_law 172 = .ok (.iastore, 1) := by decide +kernel
theorem dX12_law_173 : decode cX12_law 173 = .ok (.aload_n 0, 1) := by decide +kernel
theorem dX12_law_174 : decode cX12_law 174 = .ok (.getfield 13, 3) := by decide +kernel
theorem dX12_law_177 : decode cX12_law 177 = .ok (.iload_n 1, 1) := by decide +kernel
theorem dX12_law_178 : decode cX12_law 178 = .ok (.bipush 98, 2) := by decide +kernel
theorem dX12_law_180 : decode cX12_law 180 = .ok (.iadd, 1) := by decide +kernel
theorem dX12_law_181 : decode cX12_law 181 = .ok (.iconst 2, 1) := by decide +kernel
theorem dX12_law_182 : decode cX12_law 182 = .ok (.iload_n 2, 1) := by decide +kernel
theorem dX12_law_183 : decode cX12_law 183 = .ok (.imul, 1) := by decide +kernel
theorem dX12_law_184 : decode cX12_law 184 = .ok (.iadd, 1) := by decide +kernel
theorem dX12_law_185 : decode cX12_law 185 = .ok (.iconst 1, 1) := by decide +kernel
theorem dX12_law_186 : decode cX12_law 186 = .ok (.iadd, 1) := by decide +kernel
theorem dX12_law_187 : decode cX12_law 187 = .ok (.aload_n 0, 1) := by decide +kernel
theorem dX12_law_188 : decode cX12_law 188 = .ok (.getfield 48, 3) := by decide +kernel
theorem dX12_law_191 : decode cX12_law 191 = .ok (.iload_n 2, 1) := by decide +kernel
theorem dX12_law_192 : decode cX12_law 192 = .ok (.iaload, 1) := by decide +kernel
theorem dX12_law_193 : decode cX12_law 193 = .ok (.iastore, 1) := by decide +kernel
theorem dX12_law_194 : decode cX12_law 194 = .ok (.iinc 2 1, 3) := by decide +kernel
theorem dX12_law_197 : decode cX12_law 197 = .ok (.goto (-51), 3) := by decide +kernel
theorem dX12_law_200 : decode cX12_law 200 = .ok (.aload_n 0, 1) := by decide +kernel
theorem dX12_law_201 : decode cX12_law 201 = .ok (.getfield 13, 3) := by decide +kernel
theorem dX12_law_204 : decode cX12_law 204 = .ok (.iconst 1, 1) := by decide +kernel
theorem dX12_law_205 : decode cX12_law 205 = .ok (.dup2, 1) := by decide +kernel
theorem dX12_law_206 : decode cX12_law 206 = .ok (.iaload, 1) := by decide +kernel
theorem dX12_law_207 : decode cX12_law 207 = .ok (.iconst 1, 1) := by decide +kernel
theorem dX12_law_208 : decode cX12_law 208 = .ok (.iadd, 1) := by decide +kernel
theorem dX12_law_209 : decode cX12_law 209 = .ok (.iastore, 1) := by decide +kernel
theorem dX12_law_210 : decode cX12_law 210 = .ok (.aload_n 0, 1) := by decide +kernel
theorem dX12_law_211 : decode cX12_law 211 = .ok (.aload_n 0, 1) := by decide +kernel
theorem dX12_law_212 : decode cX12_law 212 = .ok (.getfield 13, 3) := by decide +kernel
theorem dX12_law_215 : decode cX12_law 215 = .ok (.iconst 1, 1) := by decide +kernel
theorem dX12_law_216 : decode cX12_law 216 = .ok (.iaload, 1) := by decide +kernel
theorem dX12_law_217 : decode cX12_law 217 = .ok (.iconst 1, 1) := by decide +kernel
theorem dX12_law_218 : decode cX12_law 218 = .ok (.isub, 1) := by decide +kernel
theorem dX12_law_219 : decode cX12_law 219 = .ok (.invokevirtual 175, 3) := by decide +kernel
theorem dX12_law_222 : decode cX12_law 222 = .ok (.ireturn, 1) := by decide +kernel
set_option maxRecDepth 20000 in
theorem rX12_law_0 {E : EN} (hE : Ep E) {k : Nat} {mem : Mm} {Q : Int → Mm → Prop}
    (h : ((¬ (mem 605 1) = 6 → (CV E mX12_beginText k (aUp mem 603 0 0) [aR 603, aI 0] (fun m1 => (CV E mX12_readLaw k m1 [aR 603] (fun m2 => VM E mX12_law (k + 1) m2 37 [(0, aR 603)] [] (retI Q)))))) ∧ ((mem 605 1) = 6 → (CI E mX12_tell k (aUp (aUp mem 603 0 0) 603 13 0) [aR 603, aI (-5)] (fun r4 m3 => Q r4 m3))))) :
    VM E mX12_law (k + 1) mem 0 [(0, aR 603)] [] (retI Q) := by
  refine v_aload_n (pc := 0) dX12_law_0 0 rfl ?_
  refine v_iconst (pc := 1) dX12_law_1 (by decide) ?_
  refine v_putf (pc := 2) dX12_law_2 flX12_162 ⟨_, _, rfl, Or.inl rfl⟩ rfl (by decide) (fun q => nomatch q) (Or.inl fun _ => rfl) at603 ?_
  refine v_aload_n (pc := 5) dX12_law_5 0 rfl ?_
  refine m_getfin (pc := 6) (v := 605) hE dX12_law_6 flX12_13 rfl at603 rfl ?_
  refine v_iconst (pc := 9) dX12_law_9 (by decide) ?_
  refine m_iald (pc := 10) (v := (mem 605 1)) dX12_law_10 at605 (by omega) (by omega) (aUp_rn (by omega)) ?_
  refine v_bipush (pc := 11) dX12_law_11 (by decide) ?_
  refine v_icmpne (pc := 13) (tgt := 28) dX12_law_13 (by decide) (fun c1 => ?_) (fun c1 => ?_)
  · have h := h.1 c1
    refine v_aload_n (pc := 28) dX12_law_28 0 rfl ?_
    refine v_iconst (pc := 29) dX12_law_29 (by decide) ?_
    refine m_invV (pc := 30) (mi' := mX12_beginText) (rest := []) [aI 0] dX12_law_30 at603 (by decide) rfl msX12_beginText mvX12_beginText lkX12_377 rfl (Nat.le_of_ble_eq_true rfl) (fun hn => CV_mono (h) (fun m1 h => ?_))
    refine v_aload_n (pc := 33) dX12_law_33 0 rfl ?_
    refine m_invV (pc := 34) (mi' := mX12_readLaw) (rest := []) [] dX12_law_34 at603 (by decide) rfl msX12_readLaw mvX12_readLaw lkX12_380 rfl (Nat.le_of_ble_eq_true rfl) (fun hn => CV_mono (h) (fun m2 h => ?_))
    exact VG_sub (al' := [(0, aR 603)]) [0] rfl h
  · have h := h.2 c1
    refine v_aload_n (pc := 16) dX12_law_16 0 rfl ?_
    refine v_iconst (pc := 17) dX12_law_17 (by decide) ?_
    refine v_putf (pc := 18) dX12_law_18 flX12_229 ⟨_, _, rfl, Or.inl rfl⟩ rfl (by decide) (fun q => nomatch q) (Or.inl fun _ => rfl) at603 ?_
    refine v_aload_n (pc := 21) dX12_law_21 0 rfl ?_
    refine v_bipush (pc := 22) dX12_law_22 (by decide) ?_
    refine m_invI (pc := 24) (mi' := mX12_tell) (rest := []) [aI (-5)] dX12_law_24 at603 (by decide) rfl msX12_tell mvX12_tell lkX12_175 rfl (Nat.le_of_ble_eq_true rfl) (fun hn => CI_mono (h) (fun r4 m3 h => ?_))
    exact m_retI (pc := 27) dX12_law_27 rfl h
theorem eX12_law {E : EN} {k : Nat} {mem : Mm} {Q : Int → Mm → Prop}  (h : VM E mX12_law (k + 1) mem 0 [(0, aR 603)] [] (retI Q)) : CI E mX12_law (k + 1) mem [aR 603] Q := CI_of rfl (Nat.le_of_ble_eq_true rfl) h (aNs_c (aNr_R _) (fun _ q => nomatch q))
set_option maxRecDepth 20000 in
theorem rX12_law_37 {E : EN} (hE : Ep E) {k : Nat} {mem : Mm} {Q : Int → Mm → Prop}
    (h : ((¬ (mem 603 19) = 0 → (CV E mX12_endText k mem [aR 603] (fun m1 => (((m1 603 19) = 0 → (R32 (900 * (m1 605 1))) ∧ (R32 (170 + (900 * (m1 605 1)))) ∧ (R32 ((170 + (900 * (m1 605 1))) + 1)) ∧ (0 ≤ ((170 + (900 * (m1 605 1))) + 1) ∧ ((170 + (900 * (m1 605 1))) + 1) < 5570) ∧ VM E mX12_law (k + 1) (aUp m1 605 ((170 + (900 * (m1 605 1))) + 1) (m1 603 21)) 111 [(0, aR 603), (1, aI (170 + (900 * (m1 605 1)))), (2, aI 0)] [] (retI Q)) ∧ (¬ (m1 603 19) = 0 → (CI E mX12_tell k m1 [aR 603, aI (-6)] (fun r7 m6 => Q r7 m6))))))) ∧ ((mem 603 19) = 0 → (CI E mX12_isSign k mem [aR 603, aI 59] (fun r9 m8 => ((r9 = 0 → (CV E mX12_endText k m8 [aR 603] (fun m10 => (((m10 603 19) = 0 → (R32 (900 * (m10 605 1))) ∧ (R32 (170 + (900 * (m10 605 1)))) ∧ (R32 ((170 + (900 * (m10 605 1))) + 1)) ∧ (0 ≤ ((170 + (900 * (m10 605 1))) + 1) ∧ ((170 + (900 * (m10 605 1))) + 1) < 5570) ∧ VM E mX12_law (k + 1) (aUp m10 605 ((170 + (900 * (m10 605 1))) + 1) (m10 603 21)) 111 [(0, aR 603), (1, aI (170 + (900 * (m10 605 1)))), (2, aI 0)] [] (retI Q)) ∧ (¬ (m10 603 19) = 0 → (CI E mX12_tell k m10 [aR 603, aI (-6)] (fun r16 m15 => Q r16 m15))))))) ∧ (¬ r9 = 0 → (CV E mX12_next k m8 [aR 603] (fun m17 => (CV E mX12_readLaw k m17 [aR 603] (fun m18 => VM E mX12_law (k + 1) m18 37 [(0, aR 603)] [] (retI Q)))))))))))) :
    VM E mX12_law (k + 1) mem 37 [(0, aR 603)] [] (retI Q) := by
  refine v_aload_n (pc := 37) dX12_law_37 0 rfl ?_
  refine m_getf (pc := 38) (t := 0) (v := (mem 603 19)) dX12_law_38 flX12_241 rfl at603 rfl ?_
  refine v_ifne (pc := 41) (tgt := 64) dX12_law_41 (by decide) (fun c1 => ?_) (fun c1 => ?_)
  · have h := h.1 c1
    refine v_aload_n (pc := 64) dX12_law_64 0 rfl ?_
    refine m_invV (pc := 65) (mi' := mX12_endText) (rest := []) [] dX12_law_65 at603 (by decide) rfl msX12_endText mvX12_endText lkX12_383 rfl (Nat.le_of_ble_eq_true rfl) (fun hn => CV_mono (h) (fun m1 h => ?_))
    refine v_aload_n (pc := 68) dX12_law_68 0 rfl ?_
    refine m_getf (pc := 69) (t := 0) (v := (m1 603 19)) dX12_law_69 flX12_241 rfl at603 rfl ?_
    refine v_ifeq (pc := 72) (tgt := 82) dX12_law_72 (by decide) (fun c1 => ?_) (fun c1 => ?_)
    · have h := h.1 c1
      refine v_sipush (pc := 82) dX12_law_82 (by decide) ?_
      refine v_sipush (pc := 85) dX12_law_85 (by decide) ?_
      refine v_aload_n (pc := 88) dX12_law_88 0 rfl ?_
      refine m_getfin (pc := 89) (v := 605) hE dX12_law_89 flX12_13 rfl at603 rfl ?_
      refine v_iconst (pc := 92) dX12_law_92 (by decide) ?_
      refine m_iald (pc := 93) (v := (m1 605 1)) dX12_law_93 at605 (by omega) (by omega) rfl ?_
      obtain ⟨o2, h⟩ := h
      refine m_imul (pc := 94) dX12_law_94 o2 ?_
      obtain ⟨o3, h⟩ := h
      refine m_iadd (pc := 95) dX12_law_95 o3 ?_
      refine v_istore_n (pc := 96) (al2 := [(1, aI (170 + (900 * (m1 605 1)))), (0, aR 603)]) dX12_law_96 (by decide) rfl ?_
      refine v_aload_n (pc := 97) dX12_law_97 1 rfl ?_
      refine m_getfin (pc := 98) (v := 605) hE dX12_law_98 flX12_13 rfl at603 rfl ?_
      refine v_iload_n (pc := 101) dX12_law_101 0 rfl ?_
      refine v_iconst (pc := 102) dX12_law_102 (by decide) ?_
      obtain ⟨o4, h⟩ := h
      refine m_iadd (pc := 103) dX12_law_103 o4 ?_
      refine v_aload_n (pc := 104) dX12_law_104 1 rfl ?_
      refine m_getf (pc := 105) (t := 0) (v := (m1 603 21)) dX12_law_105 flX12_369 rfl at603 rfl ?_
      obtain ⟨o5, h⟩ := h
      refine v_iast (pc := 108) dX12_law_108 at605 o5.1 o5.2 ?_
      refine v_iconst (pc := 109) dX12_law_109 (by decide) ?_
      refine v_istore_n (pc := 110) (al2 := [(2, aI 0), (1, aI (170 + (900 * (m1 605 1)))), (0, aR 603)]) dX12_law_110 (by decide) rfl ?_
      exact VG_sub (al' := [(0, aR 603), (1, aI (170 + (900 * (m1 605 1)))), (2, aI 0)]) [2, 1, 0] rfl h
    · have h := h.2 c1
      refine v_aload_n (pc := 75) dX12_law_75 0 rfl ?_
      refine v_bipush (pc := 76) dX12_law_76 (by decide) ?_
      refine m_invI (pc := 78) (mi' := mX12_tell) (rest := []) [aI (-6)] dX12_law_78 at603 (by decide) rfl msX12_tell mvX12_tell lkX12_175 rfl (Nat.le_of_ble_eq_true rfl) (fun hn => CI_mono (h) (fun r7 m6 h => ?_))
      exact m_retI (pc := 81) dX12_law_81 rfl h
  · have h := h.2 c1
    refine v_aload_n (pc := 44) dX12_law_44 0 rfl ?_
    refine v_bipush (pc := 45) dX12_law_45 (by decide) ?_
    refine m_invI (pc := 47) (mi' := mX12_isSign) (rest := []) [aI 59] dX12_law_47 at603 (by decide) rfl msX12_isSign mvX12_isSign lkX12_311 rfl (Nat.le_of_ble_eq_true rfl) (fun hn => CI_mono (h) (fun r9 m8 h => ?_))
    refine v_ifeq (pc := 50) (tgt := 64) dX12_law_50 (by decide) (fun c1 => ?_) (fun c1 => ?_)
    · have h := h.1 c1
      refine v_aload_n (pc := 64) dX12_law_64 0 rfl ?_
      refine m_invV (pc := 65) (mi' := mX12_endText) (rest := []) [] dX12_law_65 at603 (by decide) rfl msX12_endText mvX12_endText lkX12_383 rfl (Nat.le_of_ble_eq_true rfl) (fun hn => CV_mono (h) (fun m10 h => ?_))
      refine v_aload_n (pc := 68) dX12_law_68 0 rfl ?_
      refine m_getf (pc := 69) (t := 0) (v := (m10 603 19)) dX12_law_69 flX12_241 rfl at603 rfl ?_
      refine v_ifeq (pc := 72) (tgt := 82) dX12_law_72 (by decide) (fun c1 => ?_) (fun c1 => ?_)
      · have h := h.1 c1
        refine v_sipush (pc := 82) dX12_law_82 (by decide) ?_
        refine v_sipush (pc := 85) dX12_law_85 (by decide) ?_
        refine v_aload_n (pc := 88) dX12_law_88 0 rfl ?_
        refine m_getfin (pc := 89) (v := 605) hE dX12_law_89 flX12_13 rfl at603 rfl ?_
        refine v_iconst (pc := 92) dX12_law_92 (by decide) ?_
        refine m_iald (pc := 93) (v := (m10 605 1)) dX12_law_93 at605 (by omega) (by omega) rfl ?_
        obtain ⟨o11, h⟩ := h
        refine m_imul (pc := 94) dX12_law_94 o11 ?_
        obtain ⟨o12, h⟩ := h
        refine m_iadd (pc := 95) dX12_law_95 o12 ?_
        refine v_istore_n (pc := 96) (al2 := [(1, aI (170 + (900 * (m10 605 1)))), (0, aR 603)]) dX12_law_96 (by decide) rfl ?_
        refine v_aload_n (pc := 97) dX12_law_97 1 rfl ?_
        refine m_getfin (pc := 98) (v := 605) hE dX12_law_98 flX12_13 rfl at603 rfl ?_
        refine v_iload_n (pc := 101) dX12_law_101 0 rfl ?_
        refine v_iconst (pc := 102) dX12_law_102 (by decide) ?_
        obtain ⟨o13, h⟩ := h
        refine m_iadd (pc := 103) dX12_law_103 o13 ?_
        refine v_aload_n (pc := 104) dX12_law_104 1 rfl ?_
        refine m_getf (pc := 105) (t := 0) (v := (m10 603 21)) dX12_law_105 flX12_369 rfl at603 rfl ?_
        obtain ⟨o14, h⟩ := h
        refine v_iast (pc := 108) dX12_law_108 at605 o14.1 o14.2 ?_
        refine v_iconst (pc := 109) dX12_law_109 (by decide) ?_
        refine v_istore_n (pc := 110) (al2 := [(2, aI 0), (1, aI (170 + (900 * (m10 605 1)))), (0, aR 603)]) dX12_law_110 (by decide) rfl ?_
        exact VG_sub (al' := [(0, aR 603), (1, aI (170 + (900 * (m10 605 1)))), (2, aI 0)]) [2, 1, 0] rfl h
      · have h := h.2 c1
        refine v_aload_n (pc := 75) dX12_law_75 0 rfl ?_
        refine v_bipush (pc := 76) dX12_law_76 (by decide) ?_
        refine m_invI (pc := 78) (mi' := mX12_tell) (rest := []) [aI (-6)] dX12_law_78 at603 (by decide) rfl msX12_tell mvX12_tell lkX12_175 rfl (Nat.le_of_ble_eq_true rfl) (fun hn => CI_mono (h) (fun r16 m15 h => ?_))
        exact m_retI (pc := 81) dX12_law_81 rfl h
    · have h := h.2 c1
      refine v_aload_n (pc := 53) dX12_law_53 0 rfl ?_
      refine m_invV (pc := 54) (mi' := mX12_next) (rest := []) [] dX12_law_54 at603 (by decide) rfl msX12_next mvX12_next lkX12_245 rfl (Nat.le_of_ble_eq_true rfl) (fun hn => CV_mono (h) (fun m17 h => ?_))
      refine v_aload_n (pc := 57) dX12_law_57 0 rfl ?_
      refine m_invV (pc := 58) (mi' := mX12_readLaw) (rest := []) [] dX12_law_58 at603 (by decide) rfl msX12_readLaw mvX12_readLaw lkX12_380 rfl (Nat.le_of_ble_eq_true rfl) (fun hn => CV_mono (h) (fun m18 h => ?_))
      refine v_goto (pc := 61) (tgt := 37) dX12_law_61 (by decide) ?_
      exact VG_sub (al' := [(0, aR 603)]) [0] rfl h
set_option maxRecDepth 20000 in
theorem rX12_law_111 {E : EN} (hE : Ep E) {k : Nat} {mem : Mm} {Q : Int → Mm → Prop} {x1 x2 : Int}
    (h : (R32 (8 * (mem 603 21))) ∧ (((8 * (mem 603 21)) ≤ x2 → VM E mX12_law (k + 1) mem 146 [(0, aR 603), (1, aI x1), (2, aI 0)] [] (retI Q)) ∧ (x2 < (8 * (mem 603 21)) → (R32 (x1 + 2)) ∧ (R32 ((x1 + 2) + x2)) ∧ (0 ≤ x2 ∧ x2 < 96) ∧ (0 ≤ ((x1 + 2) + x2) ∧ ((x1 + 2) + x2) < 5570) ∧ (R32 (x2 + 1)) ∧ VM E mX12_law (k + 1) (aUp mem 605 ((x1 + 2) + x2) (mem 613 x2)) 111 [(0, aR 603), (1, aI x1), (2, aI (x2 + 1))] [] (retI Q)))) :
    VM E mX12_law (k + 1) mem 111 [(0, aR 603), (1, aI x1), (2, aI x2)] [] (retI Q) := by
  refine v_iload_n (pc := 111) dX12_law_111 2 rfl ?_
  refine v_bipush (pc := 112) dX12_law_112 (by decide) ?_
  refine v_aload_n (pc := 114) dX12_law_114 0 rfl ?_
  refine m_getf (pc := 115) (t := 0) (v := (mem 603 21)) dX12_law_115 flX12_369 rfl at603 rfl ?_
  obtain ⟨o1, h⟩ := h
  refine m_imul (pc := 118) dX12_law_118 o1 ?_
  refine v_icmpge (pc := 119) (tgt := 144) dX12_law_119 (by decide) (fun c1 => ?_) (fun c1 => ?_)
  · have h := h.1 c1
    refine v_iconst (pc := 144) dX12_law_144 (by decide) ?_
    refine v_istore_n (pc := 145) (al2 := [(2, aI 0), (0, aR 603), (1, aI x1)]) dX12_law_145 (by decide) rfl ?_
    exact VG_sub (al' := [(0, aR 603), (1, aI x1), (2, aI 0)]) [1, 2, 0] rfl h
  · have h := h.2 c1
    refine v_aload_n (pc := 122) dX12_law_122 0 rfl ?_
    refine m_getfin (pc := 123) (v := 605) hE dX12_law_123 flX12_13 rfl at603 rfl ?_
    refine v_iload_n (pc := 126) dX12_law_126 1 rfl ?_
    refine v_iconst (pc := 127) dX12_law_127 (by decide) ?_
    obtain ⟨o2, h⟩ := h
    refine m_iadd (pc := 128) dX12_law_128 o2 ?_
    refine v_iload_n (pc := 129) dX12_law_129 2 rfl ?_
    obtain ⟨o3, h⟩ := h
    refine m_iadd (pc := 130) dX12_law_130 o3 ?_
    refine v_aload_n (pc := 131) dX12_law_131 0 rfl ?_
    refine m_getfin (pc := 132) (v := 613) hE dX12_law_132 flX12_42 rfl at603 rfl ?_
    refine v_iload_n (pc := 135) dX12_law_135 2 rfl ?_
    obtain ⟨o4, h⟩ := h
    refine m_iald (pc := 136) (v := (mem 613 x2)) dX12_law_136 at613 o4.1 o4.2 rfl ?_
    obtain ⟨o5, h⟩ := h
    refine v_iast (pc := 137) dX12_law_137 at605 o5.1 o5.2 ?_
    obtain ⟨o6, h⟩ := h
    refine m_iinc (pc := 138) (al2 := [(2, aI (x2 + 1)), (0, aR 603), (1, aI x1)]) dX12_law_138 2 rfl (by decide) o6 rfl ?_
    refine v_goto (pc := 141) (tgt := 111) dX12_law_141 (by decide) ?_
    exact VG_sub (al' := [(0, aR 603), (1, aI x1), (2, aI (x2 + 1))]) [1, 2, 0] rfl h
set_option maxRecDepth 20000 in
theorem rX12_law_146 {E : EN} (hE : Ep E) {k : Nat} {mem : Mm} {Q : Int → Mm → Prop} {x1 x2 : Int}
    (h : (((mem 603 23) ≤ x2 → (R32 ((mem 605 1) + 1)) ∧ (R32 (((mem 605 1) + 1) - 1)) ∧ (R32 (((mem 605 1) + 1) - 1) → CI E mX12_tell k (aUp mem 605 1 ((mem 605 1) + 1)) [aR 603, aI (((mem 605 1) + 1) - 1)] (fun r4 m3 => Q r4 m3))) ∧ (x2 < (mem 603 23) → (R32 (x1 + 98)) ∧ (R32 (2 * x2)) ∧ (R32 ((x1 + 98) + (2 * x2))) ∧ (0 ≤ x2 ∧ x2 < 400) ∧ (0 ≤ ((x1 + 98) + (2 * x2)) ∧ ((x1 + 98) + (2 * x2)) < 5570) ∧ (R32 (((x1 + 98) + (2 * x2)) + 1)) ∧ (0 ≤ (((x1 + 98) + (2 * x2)) + 1) ∧ (((x1 + 98) + (2 * x2)) + 1) < 5570) ∧ (R32 (x2 + 1)) ∧ VM E mX12_law (k + 1) (aUp (aUp mem 605 ((x1 + 98) + (2 * x2)) (mem 614 x2)) 605 (((x1 + 98) + (2 * x2)) + 1) (mem 615 x2)) 146 [(0, aR 603), (1, aI x1), (2, aI (x2 + 1))] [] (retI Q)))) :
    VM E mX12_law (k + 1) mem 146 [(0, aR 603), (1, aI x1), (2, aI x2)] [] (retI Q) := by
  refine v_iload_n (pc := 146) dX12_law_146 2 rfl ?_
  refine v_aload_n (pc := 147) dX12_law_147 0 rfl ?_
  refine m_getf (pc := 148) (t := 0) (v := (mem 603 23)) dX12_law_148 flX12_278 rfl at603 rfl ?_
  refine v_icmpge (pc := 151) (tgt := 200) dX12_law_151 (by decide) (fun c1 => ?_) (fun c1 => ?_)
  · have h := h.1 c1
    refine v_aload_n (pc := 200) dX12_law_200 0 rfl ?_
    refine m_getfin (pc := 201) (v := 605) hE dX12_law_201 flX12_13 rfl at603 rfl ?_
    refine v_iconst (pc := 204) dX12_law_204 (by decide) ?_
    refine v_dup2 (pc := 205) dX12_law_205 rfl rfl ?_
    refine m_iald (pc := 206) (v := (mem 605 1)) dX12_law_206 at605 (by omega) (by omega) rfl ?_
    refine v_iconst (pc := 207) dX12_law_207 (by decide) ?_
    obtain ⟨o1, h⟩ := h
    refine m_iadd (pc := 208) dX12_law_208 o1 ?_
    refine v_iast (pc := 209) dX12_law_209 at605 (by omega) (by omega) ?_
    refine v_aload_n (pc := 210) dX12_law_210 0 rfl ?_
    refine v_aload_n (pc := 211) dX12_law_211 0 rfl ?_
    refine m_getfin (pc := 212) (v := 605) hE dX12_law_212 flX12_13 rfl at603 rfl ?_
    refine v_iconst (pc := 215) dX12_law_215 (by decide) ?_
    refine m_iald (pc := 216) (v := ((mem 605 1) + 1)) dX12_law_216 at605 (by omega) (by omega) (aUp_re) ?_
    refine v_iconst (pc := 217) dX12_law_217 (by decide) ?_
    obtain ⟨o2, h⟩ := h
    refine m_isub (pc := 218) dX12_law_218 o2 ?_
    refine m_invI (pc := 219) (mi' := mX12_tell) (rest := []) [aI (((mem 605 1) + 1) - 1)] dX12_law_219 at603 (by decide) rfl msX12_tell mvX12_tell lkX12_175 rfl (Nat.le_of_ble_eq_true rfl) (fun hn => CI_mono (h (aaI hn 1 rfl)) (fun r4 m3 h => ?_))
    exact m_retI (pc := 222) dX12_law_222 rfl h
  · have h := h.2 c1
    refine v_aload_n (pc := 154) dX12_law_154 0 rfl ?_
    refine m_getfin (pc := 155) (v := 605) hE dX12_law_155 flX12_13 rfl at603 rfl ?_
    refine v_iload_n (pc := 158) dX12_law_158 1 rfl ?_
    refine v_bipush (pc := 159) dX12_law_159 (by decide) ?_
    obtain ⟨o5, h⟩ := h
    refine m_iadd (pc := 161) dX12_law_161 o5 ?_
    refine v_iconst (pc := 162) dX12_law_162 (by decide) ?_
    refine v_iload_n (pc := 163) dX12_law_163 2 rfl ?_
    obtain ⟨o6, h⟩ := h
    refine m_imul (pc := 164) dX12_law_164 o6 ?_
    obtain ⟨o7, h⟩ := h
    refine m_iadd (pc := 165) dX12_law_165 o7 ?_
    refine v_aload_n (pc := 166) dX12_law_166 0 rfl ?_
    refine m_getfin (pc := 167) (v := 614) hE dX12_law_167 flX12_45 rfl at603 rfl ?_
    refine v_iload_n (pc := 170) dX12_law_170 2 rfl ?_
    obtain ⟨o8, h⟩ := h
    refine m_iald (pc := 171) (v := (mem 614 x2)) dX12_law_171 at614 o8.1 o8.2 rfl ?_
    obtain ⟨o9, h⟩ := h
    refine v_iast (pc := 172) dX12_law_172 at605 o9.1 o9.2 ?_
    refine v_aload_n (pc := 173) dX12_law_173 0 rfl ?_
    refine m_getfin (pc := 174) (v := 605) hE dX12_law_174 flX12_13 rfl at603 rfl ?_
    refine v_iload_n (pc := 177) dX12_law_177 1 rfl ?_
    refine v_bipush (pc := 178) dX12_law_178 (by decide) ?_
    refine m_iadd (pc := 180) dX12_law_180 o5 ?_
    refine v_iconst (pc := 181) dX12_law_181 (by decide) ?_
    refine v_iload_n (pc := 182) dX12_law_182 2 rfl ?_
    refine m_imul (pc := 183) dX12_law_183 o6 ?_
    refine m_iadd (pc := 184) dX12_law_184 o7 ?_
    refine v_iconst (pc := 185) dX12_law_185 (by decide) ?_
    obtain ⟨o10, h⟩ := h
    refine m_iadd (pc := 186) dX12_law_186 o10 ?_
    refine v_aload_n (pc := 187) dX12_law_187 0 rfl ?_
    refine m_getfin (pc := 188) (v := 615) hE dX12_law_188 flX12_48 rfl at603 rfl ?_
    refine v_iload_n (pc := 191) dX12_law_191 2 rfl ?_
    refine m_iald (pc := 192) (v := (mem 615 x2)) dX12_law_192 at615 o8.1 o8.2 (aUp_rn (by omega)) ?_
    obtain ⟨o11, h⟩ := h
    refine v_iast (pc := 193) dX12_law_193 at605 o11.1 o11.2 ?_
    obtain ⟨o12, h⟩ := h
    refine m_iinc (pc := 194) (al2 := [(2, aI (x2 + 1)), (0, aR 603), (1, aI x1)]) dX12_law_194 2 rfl (by decide) o12 rfl ?_
    refine v_goto (pc := 197) (tgt := 146) dX12_law_197 (by decide) ?_
    exact VG_sub (al' := [(0, aR 603), (1, aI x1), (2, aI (x2 + 1))]) [1, 2, 0] rfl h

theorem dX12_isLaw_0 : decode cX12_isLaw 0 = .ok (.iload_n 1, 1) := by decide +kernel
theorem dX12_isLaw_1 : decode cX12_isLaw 1 = .ok (.iconst (-1), 1) := by decide +kernel
theorem dX12_isLaw_2 : decode cX12_isLaw 2 = .ok (.if_icmp .eq 21, 3) := by decide +kernel
theorem dX12_isLaw_5 : decode cX12_isLaw 5 = .ok (.iload_n 1, 1) := by decide +kernel
theorem dX12_isLaw_6 : decode cX12_isLaw 6 = .ok (.i2l, 1) := by decide +kernel
theorem dX12_isLaw_7 : decode cX12_isLaw 7 = .ok (.lconst 0, 1) := by decide +kernel
theorem dX12_isLaw_8 : decode cX12_isLaw 8 = .ok (.aload_n 0, 1) := by decide +kernel
theorem dX12_isLaw_9 : decode cX12_isLaw 9 = .ok (.getfield 13, 3) := by decide +kernel
theorem dX12_isLaw_12 : decode cX12_isLaw 12 = .ok (.iconst 1, 1) := by decide +kernel
theorem dX12_isLaw_13 : decode cX12_isLaw 13 = .ok (.iaload, 1) := by decide +kernel
theorem dX12_isLaw_14 : decode cX12_isLaw 14 = .ok (.i2l, 1) := by decide +kernel
theorem dX12_isLaw_15 : decode cX12_isLaw 15 = .ok (.lconst 1, 1) := by decide +kernel
theorem dX12_isLaw_16 : decode cX12_isLaw 16 = .ok (.lsub, 1) := by decide +kernel
theorem dX12_isLaw_17 : decode cX12_isLaw 17 = .ok (.invokestatic 182, 3) := by decide +kernel
theorem dX12_isLaw_20 : decode cX12_isLaw 20 = .ok (.ifCond .eq 7, 3) := by decide +kernel
theorem dX12_isLaw_23 : decode cX12_isLaw 23 = .ok (.iconst 1, 1) := by decide +kernel
theorem dX12_isLaw_24 : decode cX12_isLaw 24 = .ok (.goto 4, 3) := by decide +kernel
theorem dX12_isLaw_27 : decode cX12_isLaw 27 = .ok (.iconst 0, 1) := by decide +kernel
theorem dX12_isLaw_28 : decode cX12_isLaw 28 = .ok (.ireturn, 1) := by decide +kernel
set_option maxRecDepth 20000 in
theorem rX12_isLaw_0 {E : EN} (hE : Ep E) {k : Nat} {mem : Mm} {Q : Int → Mm → Prop} {p0 : Int}
    (h : ((p0 = (-1) → Q 1 mem) ∧ (¬ p0 = (-1) → (R64 ((mem 605 1) - 1)) ∧ (R64 p0 → R64 ((mem 605 1) - 1) → CI E mX12_in k mem [aL p0, aL 0, aL ((mem 605 1) - 1)] (fun r3 m2 => ((r3 = 0 → Q 0 m2) ∧ (¬ r3 = 0 → Q 1 m2))))))) :
    VM E mX12_isLaw (k + 1) mem 0 [(0, aR 603), (1, aI p0)] [] (retI Q) := by
  refine v_iload_n (pc := 0) dX12_isLaw_0 1 rfl ?_
  refine v_iconst (pc := 1) dX12_isLaw_1 (by decide) ?_
  refine v_icmpeq (pc := 2) (tgt := 23) dX12_isLaw_2 (by decide) (fun c1 => ?_) (fun c1 => ?_)
  · have h := h.1 c1
    refine v_iconst (pc := 23) dX12_isLaw_23 (by decide) ?_
    refine v_goto (pc := 24) (tgt := 28) dX12_isLaw_24 (by decide) ?_
    exact m_retZ (pc := 28) dX12_isLaw_28 rfl (by decide) h
  · have h := h.2 c1
    refine v_iload_n (pc := 5) dX12_isLaw_5 1 rfl ?_
    refine v_i2l (pc := 6) dX12_isLaw_6 ?_
    refine v_lconst0 (pc := 7) dX12_isLaw_7 ?_
    refine v_aload_n (pc := 8) dX12_isLaw_8 0 rfl ?_
    refine m_getfin (pc := 9) (v := 605) hE dX12_isLaw_9 flX12_13 rfl at603 rfl ?_
    refine v_iconst (pc := 12) dX12_isLaw_12 (by decide) ?_
    refine m_iald (pc := 13) (v := (mem 605 1)) dX12_isLaw_13 at605 (by omega) (by omega) rfl ?_
    refine v_i2l (pc := 14) dX12_isLaw_14 ?_
    refine v_lconst1 (pc := 15) dX12_isLaw_15 ?_
    obtain ⟨o1, h⟩ := h
    refine m_lsub (pc := 16) dX12_isLaw_16 o1 ?_
    refine m_invSI (pc := 17) (mi' := mX12_in) (rest := []) [aL p0, aL 0, aL ((mem 605 1) - 1)] dX12_isLaw_17 msX12_in stX12_in lkX12_182 rfl (Nat.le_of_ble_eq_true rfl) (fun hn => CI_mono (h (aaL hn 0 rfl) (aaL hn 2 rfl)) (fun r3 m2 h => ?_))
    refine v_ifeq (pc := 20) (tgt := 27) dX12_isLaw_20 (by decide) (fun c1 => ?_) (fun c1 => ?_)
    · have h := h.1 c1
      refine v_iconst (pc := 27) dX12_isLaw_27 (by decide) ?_
      exact m_retZ (pc := 28) dX12_isLaw_28 rfl (by decide) h
    · have h := h.2 c1
      refine v_iconst (pc := 23) dX12_isLaw_23 (by decide) ?_
      refine v_goto (pc := 24) (tgt := 28) dX12_isLaw_24 (by decide) ?_
      exact m_retZ (pc := 28) dX12_isLaw_28 rfl (by decide) h
theorem eX12_isLaw {E : EN} {k : Nat} {mem : Mm} {Q : Int → Mm → Prop} {p0 : Int} (hr_p0 : R32 p0) (h : VM E mX12_isLaw (k + 1) mem 0 [(0, aR 603), (1, aI p0)] [] (retI Q)) : CI E mX12_isLaw (k + 1) mem [aR 603, aI p0] Q := CI_of rfl (Nat.le_of_ble_eq_true rfl) h (aNs_c (aNr_R _) (aNs_c (aNr_I hr_p0) (fun _ q => nomatch q)))

theorem dX12_force_0 : decode cX12_force 0 = .ok (.aload_n 0, 1) := by decide +kernel
theorem dX12_force_1 : decode cX12_force 1 = .ok (.iconst 0, 1) := by decide +kernel
theorem dX12_force_2 : decode cX12_force 2 = .ok (.putfield 162, 3) := by decide +kernel
theorem dX12_force_5 : decode cX12_force 5 = .ok (.aload_n 0, 1) := by decide +kernel
theorem dX12_force_6 : decode cX12_force 6 = .ok (.iload_n 1, 1) := by decide +kernel
theorem dX12_force_7 : decode cX12_force 7 = .ok (.invokevirtual 386, 3) := by decide +kernel
theorem dX12_force_10 : decode cX12_force 10 = .ok (.ifCond .eq 12, 3) := by decide +kernel
theorem dX12_force_13 : decode cX12_force 13 = .ok (.aload_n 0, 1) := by decide +kernel
theorem dX12_force_14 : decode cX12_force 14 = .ok (.iconst 2, 1) := by decide +kernel
theorem dX12_force_15 : decode cX12_force 15 = .ok (.iload_n 1, 1) := by decide +kernel
theorem dX12_force_16 : decode cX12_force 16 = .ok (.invokevirtual 210, 3) := by decide +kernel
theorem dX12_force_19 : decode cX12_force 19 = .ok (.goto 9, 3) := by decide +kernel
theorem dX12_force_22 : decode cX12_force 22 = .ok (.aload_n 0, 1) := by decide +kernel
theorem dX12_force_23 : decode cX12_force 23 = .ok (.bipush (-2), 2) := by decide +kernel
theorem dX12_force_25 : decode cX12_force 25 = .ok (.invokevirtual 175, 3) := by decide +kernel
theorem dX12_force_28 : decode cX12_force 28 = .ok (.ireturn, 1) := by decide +kernel
set_option maxRecDepth 20000 in
theorem rX12_force_0 {E : EN} (hE : Ep E) {k : Nat} {mem : Mm} {Q : Int → Mm → Prop} {p0 : Int}
    (h : (R32 p0 → CI E mX12_isLaw k (aUp mem 603 0 0) [aR 603, aI p0] (fun r2 m1 => ((r2 = 0 → (CI E mX12_tell k m1 [aR 603, aI (-2)] (fun r4 m3 => Q r4 m3))) ∧ (¬ r2 = 0 → (R32 p0 → CI E mX12_change k m1 [aR 603, aI 2, aI p0] (fun r6 m5 => Q r6 m5))))))) :
    VM E mX12_force (k + 1) mem 0 [(0, aR 603), (1, aI p0)] [] (retI Q) := by
  refine v_aload_n (pc := 0) dX12_force_0 0 rfl ?_
  refine v_iconst (pc := 1) dX12_force_1 (by decide) ?_
  refine v_putf (pc := 2) dX12_force_2 flX12_162 ⟨_, _, rfl, Or.inl rfl⟩ rfl (by decide) (fun q => nomatch q) (Or.inl fun _ => rfl) at603 ?_
  refine v_aload_n (pc := 5) dX12_force_5 0 rfl ?_
  refine v_iload_n (pc := 6) dX12_force_6 1 rfl ?_
  refine m_invI (pc := 7) (mi' := mX12_isLaw) (rest := []) [aI p0] dX12_force_7 at603 (by decide) rfl msX12_isLaw mvX12_isLaw lkX12_386 rfl (Nat.le_of_ble_eq_true rfl) (fun hn => CI_mono (h (aaI hn 1 rfl)) (fun r2 m1 h => ?_))
  refine v_ifeq (pc := 10) (tgt := 22) dX12_force_10 (by decide) (fun c1 => ?_) (fun c1 => ?_)
  · have h := h.1 c1
    refine v_aload_n (pc := 22) dX12_force_22 0 rfl ?_
    refine v_bipush (pc := 23) dX12_force_23 (by decide) ?_
    refine m_invI (pc := 25) (mi' := mX12_tell) (rest := []) [aI (-2)] dX12_force_25 at603 (by decide) rfl msX12_tell mvX12_tell lkX12_175 rfl (Nat.le_of_ble_eq_true rfl) (fun hn => CI_mono (h) (fun r4 m3 h => ?_))
    exact m_retI (pc := 28) dX12_force_28 rfl h
  · have h := h.2 c1
    refine v_aload_n (pc := 13) dX12_force_13 0 rfl ?_
    refine v_iconst (pc := 14) dX12_force_14 (by decide) ?_
    refine v_iload_n (pc := 15) dX12_force_15 1 rfl ?_
    refine m_invI (pc := 16) (mi' := mX12_change) (rest := []) [aI 2, aI p0] dX12_force_16 at603 (by decide) rfl msX12_change mvX12_change lkX12_210 rfl (Nat.le_of_ble_eq_true rfl) (fun hn => CI_mono (h (aaI hn 2 rfl)) (fun r6 m5 h => ?_))
    refine v_goto (pc := 19) (tgt := 28) dX12_force_19 (by decide) ?_
    exact m_retI (pc := 28) dX12_force_28 rfl h
theorem eX12_force {E : EN} {k : Nat} {mem : Mm} {Q : Int → Mm → Prop} {p0 : Int} (hr_p0 : R32 p0) (h : VM E mX12_force (k + 1) mem 0 [(0, aR 603), (1, aI p0)] [] (retI Q)) : CI E mX12_force (k + 1) mem [aR 603, aI p0] Q := CI_of rfl (Nat.le_of_ble_eq_true rfl) h (aNs_c (aNr_R _) (aNs_c (aNr_I hr_p0) (fun _ q => nomatch q)))

theorem dX12_reckon_0 : decode cX12_reckon 0 = .ok (.iload_n 1, 1) := by decide +kernel
theorem dX12_reckon_1 : decode cX12_reckon 1 = .ok (.tableswitch 148 20 26 #[43, 48, 53, 58, 90, 122, 135], 43) := by decide +kernel
theorem dX12_reckon_44 : decode cX12_reckon 44 = .ok (.lload_n 2, 1) := by decide +kernel
theorem dX12_reckon_45 : decode cX12_reckon 45 = .ok (.lload 4, 2) := by decide +kernel
theorem dX12_reckon_47 : decode cX12_reckon 47 = .ok (.ladd, 1) := by decide +kernel
theorem dX12_reckon_48 : decode cX12_reckon 48 = .ok (.lreturn, 1) := by decide +kernel
theorem dX12_reckon_49 : decode cX12_reckon 49 = .ok (.lload_n 2, 1) := by decide +kernel
theorem dX12_reckon_50 : decode cX12_reckon 50 = .ok (.lload 4, 2) := by decide +kernel
theorem dX12_reckon_52 : decode cX12_reckon 52 = .ok (.lsub, 1) := by decide +kernel
theorem dX12_reckon_53 : decode cX12_reckon 53 = .ok (.lreturn, 1) := by decide +kernel
theorem dX12_reckon_54 : decode cX12_reckon 54 = .ok (.lload_n 2, 1) := by decide +kernel
theorem dX12_reckon_55 : decode cX12_reckon 55 = .ok (.lload 4, 2) := by decide +kernel
theorem dX12_reckon_57 : decode cX12_reckon 57 = .ok (.lmul, 1) := by decide +kernel
theorem dX12_reckon_58 : decode cX12_reckon 58 = .ok (.lreturn, 1) := by decide +kernel
theorem dX12_reckon_59 : decode cX12_reckon 59 = .ok (.aload_n 0, 1) := by decide +kernel
theorem dX12_reckon_60 : decode cX12_reckon 60 = .ok (.lload 4, 2) := by decide +kernel
theorem dX12_reckon_62 : decode cX12_reckon 62 = .ok (.lconst 0, 1) := by decide +kernel
theorem dX12_reckon_63 : decode cX12_reckon 63 = .ok (.lcmp, 1) := by decide +kernel
theorem dX12_reckon_64 : decode cX12_reckon 64 = .ok (.ifCond .ne 7, 3) := by decide +kernel
theorem dX12_reckon_67 : decode cX12_reckon 67 = .ok (.iconst 1, 1) := by decide +kernel
theorem dX12_reckon_68 : decode cX12_reckon 68 = .ok (.goto 4, 3) := by decide +kernel
theorem dX12_reckon_71 : decode cX12_reckon 71 = .ok (.iconst 0, 1) := by decide +kernel
theorem dX12_reckon_72 : decode cX12_reckon 72 = .ok (.putfield 389, 3) := by decide +kernel
theorem dX12_reckon_75 : decode cX12_reckon 75 = .ok (.aload_n 0, 1) := by decide +kernel
theorem dX12_reckon_76 : decode cX12_reckon 76 = .ok (.getfield 389, 3) := by decide +kernel
theorem dX12_reckon_79 : decode cX12_reckon 79 = .ok (.ifCond .eq 7, 3) := by decide +kernel
theorem dX12_reckon_82 : decode cX12_reckon 82 = .ok (.lconst 0, 1) := by decide +kernel
theorem dX12_reckon_83 : decode cX12_reckon 83 = .ok (.goto 7, 3) := by decide +kernel
theorem dX12_reckon_86 : decode cX12_reckon 86 = .ok (.lload_n 2, 1) := by decide +kernel
theorem dX12_reckon_87 : decode cX12_reckon 87 = .ok (.lload 4, 2) := by decide +kernel
theorem dX12_reckon_89 : decode cX12_reckon 89 = .ok (.ldiv, 1) := by decide +kernel
theorem dX12_reckon_90 : decode cX12_reckon 90 = .ok (.lreturn, 1) := by decide +kernel
theorem dX12_reckon_91 : decode cX12_reckon 91 = .ok (.aload_n 0, 1) := by decide +kernel
theorem dX12_reckon_92 : decode cX12_reckon 92 = .ok (.lload 4, 2) := by decide +kernel
theorem dX12_reckon_94 : decode cX12_reckon 94 = .ok (.lconst 0, 1) := by decide +kernel
theorem dX12_reckon_95 : decode cX12_reckon 95 = .ok (.lcmp, 1) := by decide +kernel
theorem dX12_reckon_96 : decode cX12_reckon 96 = .ok (.ifCond .ne 7, 3) := by decide +kernel
theorem dX12_reckon_99 : decode cX12_reckon 99 = .ok (.iconst 1, 1) := by decide +kernel
theorem dX12_reckon_100 : decode cX12_reckon 100 = .ok (.goto 4, 3) := by decide +kernel
theorem dX12_reckon_103 : decode cX12_reckon 103 = .ok (.iconst 0, 1) := by decide +kernel
theorem dX12_reckon_104 : decode cX12_reckon 104 = .ok (.putfield 389, 3) := by decide +kernel
theorem dX12_reckon_107 : decode cX12_reckon 107 = .ok (.aload_n 0, 1) := by decide +kernel
theorem dX12_reckon_108 : decode cX12_reckon 108 = .ok (.getfield 389, 3) := by decide +kernel
theorem dX12_reckon_111 : decode cX12_reckon 111 = .ok (.ifCond .eq 7, 3) := by decide +kernel
theorem dX12_reckon_114 : decode cX12_reckon 114 = .ok (.lconst 0, 1) := by decide +kernel
theorem dX12_reckon_115 : decode cX12_reckon 115 = .ok (.goto 7, 3) := by decide +kernel
theorem dX12_reckon_118 : decode cX12_reckon 118 = .ok (.lload_n 2, 1) := by decide +kernel
theorem dX12_reckon_119 : decode cX12_reckon 119 = .ok (.lload 4, 2) := by decide +kernel
theorem dX12_reckon_121 : decode cX12_reckon 121 = .ok (.lrem, 1) := by decide +kernel
theorem dX12_reckon_122 : decode cX12_reckon 122 = .ok (.lreturn, 1) := by decide +kernel
theorem dX12_reckon_123 : decode cX12_reckon 123 = .ok (.lload_n 2, 1) := by decide +kernel
theorem dX12_reckon_124 : decode cX12_reckon 124 = .ok (.lload 4, 2) := by decide +kernel
theorem dX12_reckon_126 : decode cX12_reckon 126 = .ok (.lcmp, 1) := by decide +kernel
theorem dX12_reckon_127 : decode cX12_reckon 127 = .ok (.ifCond .ge 7, 3) := by decide +kernel
theorem dX12_reckon_130 : decode cX12_reckon 130 = .ok (.lconst 1, 1) := by decide +kernel
theorem dX12_reckon_131 : decode cX12_reckon 131 = .ok (.goto 4, 3) := by decide +kernel
theorem dX12_reckon_134 : decode cX12_reckon 134 = .ok (.lconst 0, 1) := by decide +kernel
theorem dX12_reckon_135 : decode cX12_reckon 135 = .ok (.lreturn, 1) := by decide +kernel
theorem dX12_reckon_136 : decode cX12_reckon 136 = .ok (.lload_n 2, 1) := by decide +kernel
theorem dX12_reckon_137 : decode cX12_reckon 137 = .ok (.lload 4, 2) := by decide +kernel
theorem dX12_reckon_139 : decode cX12_reckon 139 = .ok (.lcmp, 1) := by decide +kernel
theorem dX12_reckon_140 : decode cX12_reckon 140 = .ok (.ifCond .le 7, 3) := by decide +kernel
theorem dX12_reckon_143 : decode cX12_reckon 143 = .ok (.lconst 1, 1) := by decide +kernel
theorem dX12_reckon_144 : decode cX12_reckon 144 = .ok (.goto 4, 3) := by decide +kernel
theorem dX12_reckon_147 : decode cX12_reckon 147 = .ok (.lconst 0, 1) := by decide +kernel
theorem dX12_reckon_148 : decode cX12_reckon 148 = .ok (.lreturn, 1) := by decide +kernel
theorem dX12_reckon_149 : decode cX12_reckon 149 = .ok (.lload_n 2, 1) := by decide +kernel
theorem dX12_reckon_150 : decode cX12_reckon 150 = .ok (.lload 4, 2) := by decide +kernel
theorem dX12_reckon_152 : decode cX12_reckon 152 = .ok (.lcmp, 1) := by decide +kernel
theorem dX12_reckon_153 : decode cX12_reckon 153 = .ok (.ifCond .ne 7, 3) := by decide +kernel
theorem dX12_reckon_156 : decode cX12_reckon 156 = .ok (.lconst 1, 1) := by decide +kernel
theorem dX12_reckon_157 : decode cX12_reckon 157 = .ok (.goto 4, 3) := by decide +kernel
theorem dX12_reckon_160 : decode cX12_reckon 160 = .ok (.lconst 0, 1) := by decide +kernel
theorem dX12_reckon_161 : decode cX12_reckon 161 = .ok (.lreturn, 1) := by decide +kernel
set_option maxRecDepth 20000 in
theorem rX12_reckon_0 {E : EN} (hE : Ep E) {k : Nat} {mem : Mm} {Q : Int → Mm → Prop} {p0 p1 p2 : Int}
    (h : ((p0 = 20 → (R64 (p1 + p2)) ∧ Q (p1 + p2) mem) ∧ (p0 = 21 → (R64 (p1 - p2)) ∧ Q (p1 - p2) mem) ∧ (p0 = 22 → (R64 (p1 * p2)) ∧ Q (p1 * p2) mem) ∧ (p0 = 23 → ((¬ p2 = 0 → (¬ p2 = 0) ∧ Q (w64 (Int.tdiv p1 p2)) (aUp mem 603 38 0)) ∧ (p2 = 0 → Q 0 (aUp mem 603 38 1)))) ∧ (p0 = 24 → ((¬ p2 = 0 → (¬ p2 = 0) ∧ Q (Int.tmod p1 p2) (aUp mem 603 38 0)) ∧ (p2 = 0 → Q 0 (aUp mem 603 38 1)))) ∧ (p0 = 25 → ((p2 ≤ p1 → Q 0 mem) ∧ (p1 < p2 → Q 1 mem))) ∧ (p0 = 26 → ((p1 ≤ p2 → Q 0 mem) ∧ (p2 < p1 → Q 1 mem))) ∧ (p0 < 20 ∨ 26 < p0 → ((¬ p1 = p2 → Q 0 mem) ∧ (p1 = p2 → Q 1 mem))))) :
    VM E mX12_reckon k mem 0 [(0, aR 603), (1, aI p0), (2, aL p1), (4, aL p2)] [] (retL Q) := by
  refine v_iload_n (pc := 0) dX12_reckon_0 1 rfl ?_
  rcases (show p0 = 20 ∨ p0 = 21 ∨ p0 = 22 ∨ p0 = 23 ∨ p0 = 24 ∨ p0 = 25 ∨ p0 = 26 ∨ (p0 < 20 ∨ 26 < p0) by omega) with c1 | c1 | c1 | c1 | c1 | c1 | c1 | c1
  · have h := h.1 c1
    refine v_tabIn (pc := 1) (tgt := 44) dX12_reckon_1 (by omega) (by omega) (by rw [c1] <;> rfl) (by decide) ?_
    refine v_lload_n (pc := 44) dX12_reckon_44 2 rfl ?_
    refine v_lload (pc := 45) dX12_reckon_45 3 rfl ?_
    obtain ⟨o1, h⟩ := h
    refine m_ladd (pc := 47) dX12_reckon_47 o1 ?_
    exact m_retL (pc := 48) dX12_reckon_48 rfl h
  · have h := h.2.1 c1
    refine v_tabIn (pc := 1) (tgt := 49) dX12_reckon_1 (by omega) (by omega) (by rw [c1] <;> rfl) (by decide) ?_
    refine v_lload_n (pc := 49) dX12_reckon_49 2 rfl ?_
    refine v_lload (pc := 50) dX12_reckon_50 3 rfl ?_
    obtain ⟨o2, h⟩ := h
    refine m_lsub (pc := 52) dX12_reckon_52 o2 ?_
    exact m_retL (pc := 53) dX12_reckon_53 rfl h
  · have h := h.2.2.1 c1
    refine v_tabIn (pc := 1) (tgt := 54) dX12_reckon_1 (by omega) (by omega) (by rw [c1] <;> rfl) (by decide) ?_
    refine v_lload_n (pc := 54) dX12_reckon_54 2 rfl ?_
    refine v_lload (pc := 55) dX12_reckon_55 3 rfl ?_
    obtain ⟨o3, h⟩ := h
    refine m_lmul (pc := 57) dX12_reckon_57 o3 ?_
    exact m_retL (pc := 58) dX12_reckon_58 rfl h
  · have h := h.2.2.2.1 c1
    refine v_tabIn (pc := 1) (tgt := 59) dX12_reckon_1 (by omega) (by omega) (by rw [c1] <;> rfl) (by decide) ?_
    refine v_aload_n (pc := 59) dX12_reckon_59 0 rfl ?_
    refine v_lload (pc := 60) dX12_reckon_60 3 rfl ?_
    refine v_lconst0 (pc := 62) dX12_reckon_62 ?_
    refine v_lcmpne (pc := 63) (tgt := 71) dX12_reckon_63 dX12_reckon_64 (by decide) (fun c1 => ?_) (fun c1 => ?_)
    · have h := h.1 c1
      refine v_iconst (pc := 71) dX12_reckon_71 (by decide) ?_
      refine v_putf (pc := 72) dX12_reckon_72 flX12_389 ⟨_, _, rfl, Or.inl rfl⟩ rfl (by decide) (fun _ => by decide) (Or.inl fun _ => rfl) at603 ?_
      refine v_aload_n (pc := 75) dX12_reckon_75 0 rfl ?_
      refine m_getf (pc := 76) (t := 0) (v := 0) dX12_reckon_76 flX12_389 rfl at603 (aUp_re) ?_
      refine v_ifeq (pc := 79) (tgt := 86) dX12_reckon_79 (by decide) (fun c1 => ?_) (fun c1 => absurd c1 (by decide))
      refine v_lload_n (pc := 86) dX12_reckon_86 2 rfl ?_
      refine v_lload (pc := 87) dX12_reckon_87 3 rfl ?_
      obtain ⟨o4, h⟩ := h
      refine v_ldiv (pc := 89) dX12_reckon_89 o4 ?_
      exact m_retL (pc := 90) dX12_reckon_90 rfl h
    · have h := h.2 c1
      refine v_iconst (pc := 67) dX12_reckon_67 (by decide) ?_
      refine v_goto (pc := 68) (tgt := 72) dX12_reckon_68 (by decide) ?_
      refine v_putf (pc := 72) dX12_reckon_72 flX12_389 ⟨_, _, rfl, Or.inl rfl⟩ rfl (by decide) (fun _ => by decide) (Or.inl fun _ => rfl) at603 ?_
      refine v_aload_n (pc := 75) dX12_reckon_75 0 rfl ?_
      refine m_getf (pc := 76) (t := 0) (v := 1) dX12_reckon_76 flX12_389 rfl at603 (aUp_re) ?_
      refine v_ifeq (pc := 79) (tgt := 86) dX12_reckon_79 (by decide) (fun c1 => absurd c1 (by decide)) (fun c1 => ?_)
      refine v_lconst0 (pc := 82) dX12_reckon_82 ?_
      refine v_goto (pc := 83) (tgt := 90) dX12_reckon_83 (by decide) ?_
      exact m_retL (pc := 90) dX12_reckon_90 rfl h
  · have h := h.2.2.2.2.1 c1
    refine v_tabIn (pc := 1) (tgt := 91) dX12_reckon_1 (by omega) (by omega) (by rw [c1] <;> rfl) (by decide) ?_
    refine v_aload_n (pc := 91) dX12_reckon_91 0 rfl ?_
    refine v_lload (pc := 92) dX12_reckon_92 3 rfl ?_
    refine v_lconst0 (pc := 94) dX12_reckon_94 ?_
    refine v_lcmpne (pc := 95) (tgt := 103) dX12_reckon_95 dX12_reckon_96 (by decide) (fun c1 => ?_) (fun c1 => ?_)
    · have h := h.1 c1
      refine v_iconst (pc := 103) dX12_reckon_103 (by decide) ?_
      refine v_putf (pc := 104) dX12_reckon_104 flX12_389 ⟨_, _, rfl, Or.inl rfl⟩ rfl (by decide) (fun _ => by decide) (Or.inl fun _ => rfl) at603 ?_
      refine v_aload_n (pc := 107) dX12_reckon_107 0 rfl ?_
      refine m_getf (pc := 108) (t := 0) (v := 0) dX12_reckon_108 flX12_389 rfl at603 (aUp_re) ?_
      refine v_ifeq (pc := 111) (tgt := 118) dX12_reckon_111 (by decide) (fun c1 => ?_) (fun c1 => absurd c1 (by decide))
      refine v_lload_n (pc := 118) dX12_reckon_118 2 rfl ?_
      refine v_lload (pc := 119) dX12_reckon_119 3 rfl ?_
      obtain ⟨o5, h⟩ := h
      refine v_lrem (pc := 121) dX12_reckon_121 o5 ?_
      exact m_retL (pc := 122) dX12_reckon_122 rfl h
    · have h := h.2 c1
      refine v_iconst (pc := 99) dX12_reckon_99 (by decide) ?_
      refine v_goto (pc := 100) (tgt := 104) dX12_reckon_100 (by decide) ?_
      refine v_putf (pc := 104) dX12_reckon_104 flX12_389 ⟨_, _, rfl, Or.inl rfl⟩ rfl (by decide) (fun _ => by decide) (Or.inl fun _ => rfl) at603 ?_
      refine v_aload_n (pc := 107) dX12_reckon_107 0 rfl ?_
      refine m_getf (pc := 108) (t := 0) (v := 1) dX12_reckon_108 flX12_389 rfl at603 (aUp_re) ?_
      refine v_ifeq (pc := 111) (tgt := 118) dX12_reckon_111 (by decide) (fun c1 => absurd c1 (by decide)) (fun c1 => ?_)
      refine v_lconst0 (pc := 114) dX12_reckon_114 ?_
      refine v_goto (pc := 115) (tgt := 122) dX12_reckon_115 (by decide) ?_
      exact m_retL (pc := 122) dX12_reckon_122 rfl h
  · have h := h.2.2.2.2.2.1 c1
    refine v_tabIn (pc := 1) (tgt := 123) dX12_reckon_1 (by omega) (by omega) (by rw [c1] <;> rfl) (by decide) ?_
    refine v_lload_n (pc := 123) dX12_reckon_123 2 rfl ?_
    refine v_lload (pc := 124) dX12_reckon_124 3 rfl ?_
    refine v_lcmpge (pc := 126) (tgt := 134) dX12_reckon_126 dX12_reckon_127 (by decide) (fun c1 => ?_) (fun c1 => ?_)
    · have h := h.1 c1
      refine v_lconst0 (pc := 134) dX12_reckon_134 ?_
      exact m_retL (pc := 135) dX12_reckon_135 rfl h
    · have h := h.2 c1
      refine v_lconst1 (pc := 130) dX12_reckon_130 ?_
      refine v_goto (pc := 131) (tgt := 135) dX12_reckon_131 (by decide) ?_
      exact m_retL (pc := 135) dX12_reckon_135 rfl h
  · have h := h.2.2.2.2.2.2.1 c1
    refine v_tabIn (pc := 1) (tgt := 136) dX12_reckon_1 (by omega) (by omega) (by rw [c1] <;> rfl) (by decide) ?_
    refine v_lload_n (pc := 136) dX12_reckon_136 2 rfl ?_
    refine v_lload (pc := 137) dX12_reckon_137 3 rfl ?_
    refine v_lcmple (pc := 139) (tgt := 147) dX12_reckon_139 dX12_reckon_140 (by decide) (fun c1 => ?_) (fun c1 => ?_)
    · have h := h.1 c1
      refine v_lconst0 (pc := 147) dX12_reckon_147 ?_
      exact m_retL (pc := 148) dX12_reckon_148 rfl h
    · have h := h.2 c1
      refine v_lconst1 (pc := 143) dX12_reckon_143 ?_
      refine v_goto (pc := 144) (tgt := 148) dX12_reckon_144 (by decide) ?_
      exact m_retL (pc := 148) dX12_reckon_148 rfl h
  · have h := h.2.2.2.2.2.2.2 c1
    refine v_tabOut (pc := 1) (tgt := 149) dX12_reckon_1 c1 (by decide) ?_
    refine v_lload_n (pc := 149) dX12_reckon_149 2 rfl ?_
    refine v_lload (pc := 150) dX12_reckon_150 3 rfl ?_
    refine v_lcmpne (pc := 152) (tgt := 160) dX12_reckon_152 dX12_reckon_153 (by decide) (fun c1 => ?_) (fun c1 => ?_)
    · have h := h.1 c1
      refine v_lconst0 (pc := 160) dX12_reckon_160 ?_
      exact m_retL (pc := 161) dX12_reckon_161 rfl h
    · have h := h.2 c1
      refine v_lconst1 (pc := 156) dX12_reckon_156 ?_
      refine v_goto (pc := 157) (tgt := 161) dX12_reckon_157 (by decide) ?_
      exact m_retL (pc := 161) dX12_reckon_161 rfl h
theorem eX12_reckon {E : EN} {k : Nat} {mem : Mm} {Q : Int → Mm → Prop} {p0 p1 p2 : Int} (hr_p0 : R32 p0) (hr_p1 : R64 p1) (hr_p2 : R64 p2) (h : VM E mX12_reckon k mem 0 [(0, aR 603), (1, aI p0), (2, aL p1), (4, aL p2)] [] (retL Q)) : CL E mX12_reckon k mem [aR 603, aI p0, aL p1, aL p2] Q := CL_of rfl (Nat.le_of_ble_eq_true rfl) h (aNs_c (aNr_R _) (aNs_c (aNr_I hr_p0) (aNs_c (aNr_L hr_p1) (aNs_c (aNr_L hr_p2) (fun _ q => nomatch q)))))

theorem dX12_reckonAll_0 : decode cX12_reckonAll 0 = .ok (.aload_n 0, 1) := by decide +kernel
theorem dX12_reckonAll_1 : decode cX12_reckonAll 1 = .ok (.iconst 0, 1) := by decide +kernel
theorem dX12_reckonAll_2 : decode cX12_reckonAll 2 = .ok (.putfield 389, 3) := by decide +kernel
theorem dX12_reckonAll_5 : decode cX12_reckonAll 5 = .ok (.iconst 0, 1) := by decide +kernel
theorem dX12_reckonAll_6 : decode cX12_reckonAll 6 = .ok (.istore_n 3, 1) := by decide +kernel
theorem dX12_reckonAll_7 : decode cX12_reckonAll 7 = .ok (.iload_n 1, 1) := by decide +kernel
theorem dX12_reckonAll_8 : decode cX12_reckonAll 8 = .ok (.istore 4, 2) := by decide +kernel
theorem dX12_reckonAll_10 : decode cX12_reckonAll 10 = .ok (.iload 4, 2) := by decide +kernel
theorem dX12_reckonAll_12 : decode cX12_reckonAll 12 = .ok (.iload_n 2, 1) := by decide +kernel
theorem dX12_reckonAll_13 : decode cX12_reckonAll 13 = .ok (.if_icmp .ge 357, 3) := by decide +kernel
theorem dX12_reckonAll_16 : decode cX12_reckonAll 16 = .ok (.aload_n 0, 1) := by decide +kernel
theorem dX12_reckonAll_17 : decode cX12_reckonAll 17 = .ok (.getfield 389, 3) := by decide +kernel
theorem dX12_reckonAll_20 : decode cX12_reckonAll 20 = .ok (.ifCond .ne 350, 3) := by decide +kernel
theorem dX12_reckonAll_23 : decode cX12_reckonAll 23 = .ok (.aload_n 0, 1) := by decide +kernel
theorem dX12_reckonAll_24 : decode cX12_reckonAll 24 = .ok (.getfield 317, 3) := by decide +kernel
theorem dX12_reckonAll_27 : decode cX12_reckonAll 27 = .ok (.ifCond .eq 13, 3) := by decide +kernel
theorem dX12_reckonAll_30 : decode cX12_reckonAll 30 = .ok (.aload_n 0, 1) := by decide +kernel
theorem dX12_reckonAll_31 : decode cX12_reckonAll 31 = .ok (.getfield 45, 3) := by decide +kernel
theorem dX12_reckonAll_34 : decode cX12_reckonAll 34 = .ok (.iload 4, 2) := by decide +kernel
theorem dX12_reckonAll_36 : decode cX12_reckonAll 36 = .ok (.iaload, 1) := by decide +kernel
theorem dX12_reckonAll_37 : decode cX12_reckonAll 37 = .ok (.goto 20, 3) := by decide +kernel
theorem dX12_reckonAll_40 : decode cX12_reckonAll 40 = .ok (.aload_n 0, 1) := by decide +kernel
theorem dX12_reckonAll_41 : decode cX12_reckonAll 41 = .ok (.getfield 13, 3) := by decide +kernel
theorem dX12_reckonAll_44 : decode cX12_reckonAll 44 = .ok (.aload_n 0, 1) := by decide +kernel
theorem dX12_reckonAll_45 : decode cX12_reckonAll 45 = .ok (.getfield 392, 3) := by decide +kernel
theorem dX12_reckonAll_48 : decode cX12_reckonAll 48 = .ok (.bipush 98, 2) := by decide +kernel
theorem dX12_reckonAll_50 : decode cX12_reckonAll 50 = .ok (.iadd, 1) := by decide +kernel
theorem dX12_reckonAll_51 : decode cX12_reckonAll 51 = .ok (.iconst 2, 1) := by decide +kernel
theorem dX12_reckonAll_52 : decode cX12_reckonAll 52 = .ok (.iload 4, 2) := by decide +kernel
theorem dX12_reckonAll_54 : decode cX12_reckonAll 54 = .ok (.imul, 1) := by decide +kernel
theorem dX12_reckonAll_55 : decode cX12_reckonAll 55 = .ok (.iadd, 1) := by decide +kernel
theorem dX12_reckonAll_56 : decode cX12_reckonAll 56 = .ok (.iaload, 1) := by decide +kernel
theorem dX12_reckonAll_57 : decode cX12_reckonAll 57 = .ok (.istore 5, 2) := by decide +kernel
theorem dX12_reckonAll_59 : decode cX12_reckonAll 59 = .ok (.aload_n 0, 1) := by decide +kernel
theorem dX12_reckonAll_60 : decode cX12_reckonAll 60 = .ok (.getfield 317, 3) := by decide +kernel
theorem dX12_reckonAll_63 : decode cX12_reckonAll 63 = .ok (.ifCond .eq 13, 3) := by decide +kernel
theorem dX12_reckonAll_66 : decode cX12_reckonAll 66 = .ok (.aload_n 0, 1) := by decide +kernel
theorem dX12_reckonAll_67 : decode cX12_reckonAll 67 = .ok (.getfield 48, 3) := by decide +kernel
theorem dX12_reckonAll_70 : decode cX12_reckonAll 70 = .ok (.iload 4, 2) := by decide +kernel
theorem dX12_reckonAll_72 : decode cX12_reckonAll 72 = .ok (.iaload, 1) := by decide +kernel
theorem dX12_reckonAll_73 : decode cX12_reckonAll 73 = .ok (.goto 22, 3) := by decide +kernel
theorem dX12_reckonAll_76 : decode cX12_reckonAll 76 = .ok (.aload_n 0, 1) := by decide +kernel
theorem dX12_reckonAll_77 : decode cX12_reckonAll 77 = .ok (.getfield 13, 3) := by decide +kernel
theorem dX12_reckonAll_80 : decode cX12_reckonAll 80 = .ok (.aload_n 0, 1) := by decide +kernel
theorem dX12_reckonAll_81 : decode cX12_reckonAll 81 = .ok (.getfield 392, 3) := by decide +kernel
theorem dX12_reckonAll_84 : decode cX12_reckonAll 84 = .ok (.bipush 98, 2) := by decide +kernel
theorem dX12_reckonAll_86 : decode cX12_reckonAll 86 = .ok (.iadd, 1) := by decide +kernel
theorem dX12_reckonAll_87 : decode cX12_reckonAll 87 = .ok (.iconst 2, 1) := by decide +kernel
theorem dX12_reckonAll_88 : decode cX12_reckonAll 88 = .ok (.iload 4, 2) := by decide +kernel
theorem dX12_reckonAll_90 : decode cX12_reckonAll 90 = .ok (.imul, 1) := by decide +kernel
theorem dX12_reckonAll_91 : decode cX12_reckonAll 91 = .ok (.iadd, 1) := by decide +kernel
theorem dX12_reckonAll_92 : decode cX12_reckonAll 92 = .ok (.iconst 1, 1) := by decide +kernel
theorem dX12_reckonAll_93 : decode cX12_reckonAll 93 = .ok (.iadd, 1) := by decide +kernel
theorem dX12_reckonAll_94 : decode cX12_reckonAll 94 = .ok (.iaload, 1) := by decide +kernel
theorem dX12_reckonAll_95 : decode cX12_reckonAll 95 = .ok (.istore 6, 2) := by decide +kernel
theorem dX12_reckonAll_97 : decode cX12_reckonAll 97 = .ok (.iinc 4 1, 3) := by decide +kernel
theorem dX12_reckonAll_100 : decode cX12_reckonAll 100 = .ok (.iload 5, 2) := by decide +kernel
theorem dX12_reckonAll_102 : decode cX12_reckonAll 102 = .ok (.bipush 20, 2) := by decide +kernel
theorem dX12_reckonAll_104 : decode cX12_reckonAll 104 = .ok (.if_icmp .ge 124, 3) := by decide +kernel
theorem dX12_reckonAll_107 : decode cX12_reckonAll 107 = .ok (.aload_n 0, 1) := by decide +kernel
theorem dX12_reckonAll_108 : decode cX12_reckonAll 108 = .ok (.getfield 109, 3) := by decide +kernel
theorem dX12_reckonAll_111 : decode cX12_reckonAll 111 = .ok (.iload_n 3, 1) := by decide +kernel
theorem dX12_reckonAll_112 : decode cX12_reckonAll 112 = .ok (.iload 5, 2) := by decide +kernel
theorem dX12_reckonAll_114 : decode cX12_reckonAll 114 = .ok (.ifCond .ne 9, 3) := by decide +kernel
theorem dX12_reckonAll_117 : decode cX12_reckonAll 117 = .ok (.iload 6, 2) := by decide +kernel
theorem dX12_reckonAll_119 : decode cX12_reckonAll 119 = .ok (.i2l, 1) := by decide +kernel
theorem dX12_reckonAll_120 : decode cX12_reckonAll 120 = .ok (.goto 101, 3) := by decide +kernel
theorem dX12_reckonAll_123 : decode cX12_reckonAll 123 = .ok (.aload_n 0, 1) := by decide +kernel
theorem dX12_reckonAll_124 : decode cX12_reckonAll 124 = .ok (.getfield 317, 3) := by decide +kernel
theorem dX12_reckonAll_127 : decode cX12_reckonAll 127 = .ok (.ifCond .ne 13, 3) := by decide +kernel
theorem dX12_reckonAll_130 : decode cX12_reckonAll 130 = .ok (.aload_n 0, 1) := by decide +kernel
theorem dX12_reckonAll_131 : decode cX12_reckonAll 131 = .ok (.getfield 103, 3) := by decide +kernel
theorem dX12_reckonAll_134 : decode cX12_reckonAll 134 = .ok (.iload 5, 2) := by decide +kernel
theorem dX12_reckonAll_136 : decode cX12_reckonAll 136 = .ok (.laload, 1) := by decide +kernel
theorem dX12_reckonAll_137 : decode cX12_reckonAll 137 = .ok (.goto 84, 3) := by decide +kernel
theorem dX12_reckonAll_140 : decode cX12_reckonAll 140 = .ok (.iload 5, 2) := by decide +kernel
theorem dX12_reckonAll_142 : decode cX12_reckonAll 142 = .ok (.iconst 5, 1) := by decide +kernel
theorem dX12_reckonAll_143 : decode cX12_reckonAll 143 = .ok (.if_icmp .ge 13, 3) := by decide +kernel
theorem dX12_reckonAll_146 : decode cX12_reckonAll 146 = .ok (.aload_n 0, 1) := by decide +kernel
theorem dX12_reckonAll_147 : decode cX12_reckonAll 147 = .ok (.getfield 106, 3) := by decide +kernel
theorem dX12_reckonAll_150 : decode cX12_reckonAll 150 = .ok (.iload 5, 2) := by decide +kernel
theorem dX12_reckonAll_152 : decode cX12_reckonAll 152 = .ok (.laload, 1) := by decide +kernel
theorem dX12_reckonAll_153 : decode cX12_reckonAll 153 = .ok (.goto 68, 3) := by decide +kernel
theorem dX12_reckonAll_156 : decode cX12_reckonAll 156 = .ok (.iload 5, 2) := by decide +kernel
theorem dX12_reckonAll_158 : decode cX12_reckonAll 158 = .ok (.iconst 5, 1) := by decide +kernel
theorem dX12_reckonAll_159 : decode cX12_reckonAll 159 = .ok (.if_icmp .ne 30, 3) := by decide +kernel
theorem dX12_reckonAll_162 : decode cX12_reckonAll 162 = .ok (.aload_n 0, 1) := by decide +kernel
theorem dX12_reckonAll_163 : decode cX12_reckonAll 163 = .ok (.iload 6, 2) := by decide +kernel
theorem dX12_reckonAll_165 : decode cX12_reckonAll 165 = .ok (.invokevirtual 214, 3) := by decide +kernel
theorem dX12_reckonAll_168 : decode cX12_reckonAll 168 = .ok (.ifCond .eq 16, 3) := by decide +kernel
theorem dX12_reckonAll_171 : decode cX12_reckonAll 171 = .ok (.aload_n 0, 1) := by decide +kernel
theorem dX12_reckonAll_172 : decode cX12_reckonAll 172 = .ok (.getfield 13, 3) := by decide +kernel
theorem dX12_reckonAll_175 : decode cX12_reckonAll 175 = .ok (.bipush 8, 2) := by decide +kernel
theorem dX12_reckonAll_177 : decode cX12_reckonAll 177 = .ok (.iload 6, 2) := by decide +kernel
theorem dX12_reckonAll_179 : decode cX12_reckonAll 179 = .ok (.iadd, 1) := by decide +kernel
theorem dX12_reckonAll_180 : decode cX12_reckonAll 180 = .ok (.iaload, 1) := by decide +kernel
theorem dX12_reckonAll_181 : decode cX12_reckonAll 181 = .ok (.goto 4, 3) := by decide +kernel
theorem dX12_reckonAll_184 : decode cX12_reckonAll 184 = .ok (.iconst (-1), 1) := by decide +kernel
theorem dX12_reckonAll_185 : decode cX12_reckonAll 185 = .ok (.i2l, 1) := by decide +kernel
theorem dX12_reckonAll_186 : decode cX12_reckonAll 186 = .ok (.goto 35, 3) := by decide +kernel
theorem dX12_reckonAll_189 : decode cX12_reckonAll 189 = .ok (.iload 5, 2) := by decide +kernel
theorem dX12_reckonAll_191 : decode cX12_reckonAll 191 = .ok (.bipush 6, 2) := by decide +kernel
theorem dX12_reckonAll_193 : decode cX12_reckonAll 193 = .ok (.if_icmp .ne 17, 3) := by decide +kernel
theorem dX12_reckonAll_196 : decode cX12_reckonAll 196 = .ok (.aload_n 0, 1) := by decide +kernel
theorem dX12_reckonAll_197 : decode cX12_reckonAll 197 = .ok (.getfield 13, 3) := by decide +kernel
theorem dX12_reckonAll_200 : decode cX12_reckonAll 200 = .ok (.bipush 80, 2) := by decide +kernel
theorem dX12_reckonAll_202 : decode cX12_reckonAll 202 = .ok (.iload 6, 2) := by decide +kernel
theorem dX12_reckonAll_204 : decode cX12_reckonAll 204 = .ok (.iadd, 1) := by decide +kernel
theorem dX12_reckonAll_205 : decode cX12_reckonAll 205 = .ok (.iaload, 1) := by decide +kernel
theorem dX12_reckonAll_206 : decode cX12_reckonAll 206 = .ok (.i2l, 1) := by decide +kernel
theorem dX12_reckonAll_207 : decode cX12_reckonAll 207 = .ok (.goto 14, 3) := by decide +kernel
theorem dX12_reckonAll_210 : decode cX12_reckonAll 210 = .ok (.aload_n 0, 1) := by decide +kernel
theorem dX12_reckonAll_211 : decode cX12_reckonAll 211 = .ok (.getfield 13, 3) := by decide +kernel
theorem dX12_reckonAll_214 : decode cX12_reckonAll 214 = .ok (.bipush 48, 2) := by decide +kernel
theorem dX12_reckonAll_216 : decode cX12_reckonAll 216 = .ok (.iload 6, 2) := by decide +kernel
theorem dX12_reckonAll_218 : decode cX12_reckonAll 218 = .ok (.iadd, 1) := by decide +kernel
theorem dX12_reckonAll_219 : decode cX12_reckonAll 219 = .ok (.iaload, 1) := by decide +kernel
theorem dX12_reckonAll_220 : decode cX12_reckonAll 220 = .ok (.i2l, 1) := by decide +kernel
theorem dX12_reckonAll_221 : decode cX12_reckonAll 221 = .ok (.lastore, 1) := by decide +kernel
theorem dX12_reckonAll_222 : decode cX12_reckonAll 222 = .ok (.iinc 3 1, 3) := by decide +kernel
theorem dX12_reckonAll_225 : decode cX12_reckonAll 225 = .ok (.goto 142, 3) := by decide +kernel
theorem dX12_reckonAll_228 : decode cX12_reckonAll 228 = .ok (.iload 5, 2) := by decide +kernel
theorem dX12_reckonAll_230 : decode cX12_reckonAll 230 = .ok (.bipush 28, 2) := by decide +kernel
theorem dX12_reckonAll_232 : decode cX12_reckonAll 232 = .ok (.if_icmp .ge 73, 3) := by decide +kernel
theorem dX12_reckonAll_235 : decode cX12_reckonAll 235 = .ok (.iinc 3 (-1), 3) := by decide +kernel
theorem dX12_reckonAll_238 : decode cX12_reckonAll 238 = .ok (.aload_n 0, 1) := by decide +kernel
theorem dX12_reckonAll_239 : decode cX12_reckonAll 239 = .ok (.getfield 109, 3) := by decide +kernel
theorem dX12_reckonAll_242 : decode cX12_reckonAll 242 = .ok (.iload_n 3, 1) := by decide +kernel
theorem dX12_reckonAll_243 : decode cX12_reckonAll 243 = .ok (.iconst 1, 1) := by decide +kernel
theorem dX12_reckonAll_244 : decode cX12_reckonAll 244 = .ok (.isub, 1) := by decide +kernel
theorem dX12_reckonAll_245 : decode cX12_reckonAll 245 = .ok (.aload_n 0, 1) := by decide +kernel
theorem dX12_reckonAll_246 : decode cX12_reckonAll 246 = .ok (.iload 5, 2) := by decide +kernel
theorem dX12_reckonAll_248 : decode cX12_reckonAll 248 = .ok (.aload_n 0, 1) := by decide +kernel
theorem dX12_reckonAll_249 : decode cX12_reckonAll 249 = .ok (.getfield 109, 3) := by decide +kernel
theorem dX12_reckonAll_252 : decode cX12_reckonAll 252 = .ok (.iload_n 3, 1) := by decide +kernel
theorem dX12_reckonAll_253 : decode cX12_reckonAll 253 = .ok (.iconst 1, 1) := by decide +kernel
theorem dX12_reckonAll_254 : decode cX12_reckonAll 254 = .ok (.isub, 1) := by decide +kernel
theorem dX12_reckonAll_255 : decode cX12_reckonAll 255 = .ok (.laload, 1) := by decide +kernel
theorem dX12_reckonAll_256 : decode cX12_reckonAll 256 = .ok (.aload_n 0, 1) := by decide +kernel
theorem dX12_reckonAll_257 : decode cX12_reckonAll 257 = .ok (.getfield 109, 3) := by decide +kernel
theorem dX12_reckonAll_260 : decode cX12_reckonAll 260 = .ok (.iload_n 3, 1) := by decide +kernel
theorem dX12_reckonAll_261 : decode cX12_reckonAll 261 = .ok (.laload, 1) := by decide +kernel
theorem dX12_reckonAll_262 : decode cX12_reckonAll 262 = .ok (.invokevirtual 395, 3) := by decide +kernel
theorem dX12_reckonAll_265 : decode cX12_reckonAll 265 = .ok (.lastore, 1) := by decide +kernel
theorem dX12_reckonAll_266 : decode cX12_reckonAll 266 = .ok (.aload_n 0, 1) := by decide +kernel
theorem dX12_reckonAll_267 : decode cX12_reckonAll 267 = .ok (.aload_n 0, 1) := by decide +kernel
theorem dX12_reckonAll_268 : decode cX12_reckonAll 268 = .ok (.getfield 389, 3) := by decide +kernel
theorem dX12_reckonAll_271 : decode cX12_reckonAll 271 = .ok (.ifCond .ne 23, 3) := by decide +kernel
theorem dX12_reckonAll_274 : decode cX12_reckonAll 274 = .ok (.aload_n 0, 1) := by decide +kernel
theorem dX12_reckonAll_275 : decode cX12_reckonAll 275 = .ok (.getfield 109, 3) := by decide +kernel
theorem dX12_reckonAll_278 : decode cX12_reckonAll 278 = .ok (.iload_n 3, 1) := by decide +kernel
theorem dX12_reckonAll_279 : decode cX12_reckonAll 279 = .ok (.iconst 1, 1) := by decide +kernel
theorem dX12_reckonAll_280 : decode cX12_reckonAll 280 = .ok (.isub, 1) := by decide +kernel
theorem dX12_reckonAll_281 : decode cX12_reckonAll 281 = .ok (.laload, 1) := by decide +kernel
theorem dX12_reckonAll_282 : decode cX12_reckonAll 282 = .ok (.ldc2_w 399, 3) := by decide +kernel
theorem dX12_reckonAll_285 : decode cX12_reckonAll 285 = .ok (.ldc2_w 401, 3) := by decide +kernel
theorem dX12_reckonAll_288 : decode cX12_reckonAll 288 = .ok (.invokestatic 182, 3) := by decide +kernel
theorem dX12_reckonAll_291 : decode cX12_reckonAll 291 = .ok (.ifCond .ne 7, 3) := by decide +kernel
theorem dX12_reckonAll_294 : decode cX12_reckonAll 294 = .ok (.iconst 1, 1) := by decide +kernel
theorem dX12_reckonAll_295 : decode cX12_reckonAll 295 = .ok (.goto 4, 3) := by decide +kernel
theorem dX12_reckonAll_298 : decode cX12_reckonAll 298 = .ok (.iconst 0, 1) := by decide +kernel
theorem dX12_reckonAll_299 : decode cX12_reckonAll 299 = .ok (.putfield 389, 3) := by decide +kernel
theorem dX12_reckonAll_302 : decode cX12_reckonAll 302 = .ok (.goto 65, 3) := by decide +kernel
theorem dX12_reckonAll_305 : decode cX12_reckonAll 305 = .ok (.iload 5, 2) := by decide +kernel
theorem dX12_reckonAll_307 : decode cX12_reckonAll 307 = .ok (.bipush 28, 2) := by decide +kernel
theorem dX12_reckonAll_309 : decode cX12_reckonAll 309 = .ok (.if_icmp .ne 24, 3) := by decide +kernel
theorem dX12_reckonAll_312 : decode cX12_reckonAll 312 = .ok (.aload_n 0, 1) := by decide +kernel
theorem dX12_reckonAll_313 : decode cX12_reckonAll 313 = .ok (.getfield 109, 3) := by decide +kernel
theorem dX12_reckonAll_316 : decode cX12_reckonAll 316 = .ok (.iload_n 3, 1) := by decide +kernel
theorem dX12_reckonAll_317 : decode cX12_reckonAll 317 = .ok (.iconst 1, 1) := by decide +kernel
theorem dX12_reckonAll_318 : decode cX12_reckonAll 318 = .ok (.isub, 1) := by decide +kernel
theorem dX12_reckonAll_319 : decode cX12_reckonAll 319 = .ok (.lconst 1, 1) := by decide +kernel
theorem dX12_reckonAll_320 : decode cX12_reckonAll 320 = .ok (.aload_n 0, 1) := by decide +kernel
theorem dX12_reckonAll_321 : decode cX12_reckonAll 321 = .ok (.getfield 109, 3) := by decide +kernel
theorem dX12_reckonAll_324 : decode cX12_reckonAll 324 = .ok (.iload_n 3, 1) := by decide +kernel
theorem dX12_reckonAll_325 : decode cX12_reckonAll 325 = .ok (.iconst 1, 1) := by decide +kernel
theorem dX12_reckonAll_326 : decode cX12_reckonAll 326 = .ok (.isub, 1) := by decide +kernel
theorem dX12_reckonAll_327 : decode cX12_reckonAll 327 = .ok (.laload, 1) := by decide +kernel
theorem dX12_reckonAll_328 : decode cX12_reckonAll 328 = .ok (.lsub, 1) := by decide +kernel
theorem dX12_reckonAll_329 : decode cX12_reckonAll 329 = .ok (.lastore, 1) := by decide +kernel
theorem dX12_reckonAll_330 : decode cX12_reckonAll 330 = .ok (.goto 37, 3) := by decide +kernel
theorem dX12_reckonAll_333 : decode cX12_reckonAll 333 = .ok (.aload_n 0, 1) := by decide +kernel
theorem dX12_reckonAll_334 : decode cX12_reckonAll 334 = .ok (.getfield 109, 3) := by decide +kernel
theorem dX12_reckonAll_337 : decode cX12_reckonAll 337 = .ok (.iload_n 3, 1) := by decide +kernel
theorem dX12_reckonAll_338 : decode cX12_reckonAll 338 = .ok (.iconst 1, 1) := by decide +kernel
theorem dX12_reckonAll_339 : decode cX12_reckonAll 339 = .ok (.isub, 1) := by decide +kernel
theorem dX12_reckonAll_340 : decode cX12_reckonAll 340 = .ok (.laload, 1) := by decide +kernel
theorem dX12_reckonAll_341 : decode cX12_reckonAll 341 = .ok (.iload 5, 2) := by decide +kernel
theorem dX12_reckonAll_343 : decode cX12_reckonAll 343 = .ok (.bipush 29, 2) := by decide +kernel
theorem dX12_reckonAll_345 : decode cX12_reckonAll 345 = .ok (.if_icmp .ne 7, 3) := by decide +kernel
theorem dX12_reckonAll_348 : decode cX12_reckonAll 348 = .ok (.lconst 0, 1) := by decide +kernel
theorem dX12_reckonAll_349 : decode cX12_reckonAll 349 = .ok (.goto 4, 3) := by decide +kernel
theorem dX12_reckonAll_352 : decode cX12_reckonAll 352 = .ok (.lconst 1, 1) := by decide +kernel
theorem dX12_reckonAll_353 : decode cX12_reckonAll 353 = .ok (.lcmp, 1) := by decide +kernel
theorem dX12_reckonAll_354 : decode cX12_reckonAll 354 = .ok (.ifCond .ne 10, 3) := by decide +kernel
theorem dX12_reckonAll_357 : decode cX12_reckonAll 357 = .ok (.iload 6, 2) := by decide +kernel
theorem dX12_reckonAll_359 : decode cX12_reckonAll 359 = .ok (.istore 4, 2) := by decide +kernel
theorem dX12_reckonAll_361 : decode cX12_reckonAll 361 = .ok (.goto 6, 3) := by decide +kernel
theorem dX12_reckonAll_364 : decode cX12_reckonAll 364 = .ok (.iinc 3 (-1), 3) := by decide +kernel
theorem dX12_reckonAll_367 : decode cX12_reckonAll 367 = .ok (.goto (-357), 3) := by decide +kernel
theorem dX12_reckonAll_370 : decode cX12_reckonAll 370 = .ok (.aload_n 0, 1) := by decide +kernel
theorem dX12_reckonAll_371 : decode cX12_reckonAll 371 = .ok (.iload_n 3, 1) := by decide +kernel
theorem dX12_reckonAll_372 : decode cX12_reckonAll 372 = .ok (.ifCond .le 12, 3) := by decide +kernel
theorem dX12_reckonAll_375 : decode cX12_reckonAll 375 = .ok (.aload_n 0, 1) := by decide +kernel
theorem dX12_reckonAll_376 : decode cX12_reckonAll 376 = .ok (.getfield 109, 3) := by decide +kernel
theorem dX12_reckonAll_379 : decode cX12_reckonAll 379 = .ok (.iconst 0, 1) := by decide +kernel
theorem dX12_reckonAll_380 : decode cX12_reckonAll 380 = .ok (.laload, 1) := by decide +kernel
theorem dX12_reckonAll_381 : decode cX12_reckonAll 381 = .ok (.goto 4, 3) := by decide +kernel
theorem dX12_reckonAll_384 : decode cX12_reckonAll 384 = .ok (.lconst 0, 1) := by decide +kernel
theorem dX12_reckonAll_385 : decode cX12_reckonAll 385 = .ok (.putfield 403, 3) := by decide +kernel
theorem dX12_reckonAll_388 : decode cX12_reckonAll 388 = .ok (.return_, 1) := by decide +kernel
set_option maxRecDepth 20000 in
theorem rX12_reckonAll_0 {E : EN} (hE : Ep E) {k : Nat} {mem : Mm} {Q : Mm → Prop} {p0 p1 : Int}
    (h : VM E mX12_reckonAll (k + 1) (aUp mem 603 38 0) 10 [(0, aR 603), (2, aI p1), (3, aI 0), (4, aI p0)] [] (retV Q)) :
    VM E mX12_reckonAll (k + 1) mem 0 [(0, aR 603), (1, aI p0), (2, aI p1)] [] (retV Q) := by
  refine v_aload_n (pc := 0) dX12_reckonAll_0 0 rfl ?_
  refine v_iconst (pc := 1) dX12_reckonAll_1 (by decide) ?_
  refine v_putf (pc := 2) dX12_reckonAll_2 flX12_389 ⟨_, _, rfl, Or.inl rfl⟩ rfl (by decide) (fun _ => by decide) (Or.inl fun _ => rfl) at603 ?_
  refine v_iconst (pc := 5) dX12_reckonAll_5 (by decide) ?_
  refine v_istore_n (pc := 6) (al2 := [(3, aI 0), (0, aR 603), (1, aI p0), (2, aI p1)]) dX12_reckonAll_6 (by decide) rfl ?_
  refine v_iload_n (pc := 7) dX12_reckonAll_7 2 rfl ?_
  refine v_istore (pc := 8) (al2 := [(4, aI p0), (3, aI 0), (0, aR 603), (1, aI p0), (2, aI p1)]) dX12_reckonAll_8 (by decide) rfl ?_
  exact VG_sub (al' := [(0, aR 603), (2, aI p1), (3, aI 0), (4, aI p0)]) [2, 4, 1, 0] rfl h
theorem eX12_reckonAll {E : EN} {k : Nat} {mem : Mm} {Q : Mm → Prop} {p0 p1 : Int} (hr_p0 : R32 p0) (hr_p1 : R32 p1) (h : VM E mX12_reckonAll (k + 1) mem 0 [(0, aR 603), (1, aI p0), (2, aI p1)] [] (retV Q)) : CV E mX12_reckonAll (k + 1) mem [aR 603, aI p0, aI p1] Q := CV_of rfl (Nat.le_of_ble_eq_true rfl) h (aNs_c (aNr_R _) (aNs_c (aNr_I hr_p0) (aNs_c (aNr_I hr_p1) (fun _ q => nomatch q))))
set_option maxRecDepth 20000 in
theorem rX12_reckonAll_10 {E : EN} (hE : Ep E) {k : Nat} {mem : Mm} {Q : Mm → Prop} {p0 p1 x3 x4 : Int}
    (h : ((p1 ≤ x4 → VM E mX12_reckonAll (k + 1) mem 370 [(0, aR 603), (3, aI x3)] [] (retV Q)) ∧ (x4 < p1 → ((¬ (mem 603 38) = 0 → VM E mX12_reckonAll (k + 1) mem 370 [(0, aR 603), (3, aI x3)] [] (retV Q)) ∧ ((mem 603 38) = 0 → (((mem 603 20) = 0 → (R32 ((mem 603 34) + 98)) ∧ (R32 (2 * x4)) ∧ (R32 (((mem 603 34) + 98) + (2 * x4))) ∧ (0 ≤ (((mem 603 34) + 98) + (2 * x4)) ∧ (((mem 603 34) + 98) + (2 * x4)) < 5570) ∧ (((mem 603 20) = 0 → (R32 ((((mem 603 34) + 98) + (2 * x4)) + 1)) ∧ (0 ≤ ((((mem 603 34) + 98) + (2 * x4)) + 1) ∧ ((((mem 603 34) + 98) + (2 * x4)) + 1) < 5570) ∧ (R32 (x4 + 1)) ∧ ((20 ≤ (mem 605 (((mem 603 34) + 98) + (2 * x4))) → ((28 ≤ (mem 605 (((mem 603 34) + 98) + (2 * x4))) → ((¬ (mem 605 (((mem 603 34) + 98) + (2 * x4))) = 28 → (R32 (x3 - 1)) ∧ (0 ≤ (x3 - 1) ∧ (x3 - 1) < 400) ∧ ((¬ (mem 605 (((mem 603 34) + 98) + (2 * x4))) = 29 → ((¬ (mem 623 (x3 - 1)) = 1 → (R32 (x3 + (-1))) ∧ VM E mX12_reckonAll (k + 1) mem 367 [(0, aR 603), (2, aI p1), (3, aI (x3 + (-1))), (4, aI (x4 + 1))] [] (retV Q)) ∧ ((mem 623 (x3 - 1)) = 1 → VM E mX12_reckonAll (k + 1) mem 367 [(0, aR 603), (2, aI p1), (3, aI x3), (4, aI (mem 605 ((((mem 603 34) + 98) + (2 * x4)) + 1)))] [] (retV Q)))) ∧ ((mem 605 (((mem 603 34) + 98) + (2 * x4))) = 29 → ((¬ (mem 623 (x3 - 1)) = 0 → (R32 (x3 + (-1))) ∧ VM E mX12_reckonAll (k + 1) mem 367 [(0, aR 603), (2, aI p1), (3, aI (x3 + (-1))), (4, aI (x4 + 1))] [] (retV Q)) ∧ ((mem 623 (x3 - 1)) = 0 → VM E mX12_reckonAll (k + 1) mem 367 [(0, aR 603), (2, aI p1), (3, aI x3), (4, aI (mem 605 ((((mem 603 34) + 98) + (2 * x4)) + 1)))] [] (retV Q)))))) ∧ ((mem 605 (((mem 603 34) + 98) + (2 * x4))) = 28 → (R32 (x3 - 1)) ∧ (0 ≤ (x3 - 1) ∧ (x3 - 1) < 400) ∧ (R64 (1 - (mem 623 (x3 - 1)))) ∧ VM E mX12_reckonAll (k + 1) (aUp mem 623 (x3 - 1) (1 - (mem 623 (x3 - 1)))) 367 [(0, aR 603), (2, aI p1), (3, aI x3), (4, aI (x4 + 1))] [] (retV Q)))) ∧ ((mem 605 (((mem 603 34) + 98) + (2 * x4))) < 28 → (R32 (x3 + (-1))) ∧ (R32 ((x3 + (-1)) - 1)) ∧ (0 ≤ ((x3 + (-1)) - 1) ∧ ((x3 + (-1)) - 1) < 400) ∧ (0 ≤ (x3 + (-1)) ∧ (x3 + (-1)) < 400) ∧ (R32 (mem 605 (((mem 603 34) + 98) + (2 * x4))) → R64 (mem 623 ((x3 + (-1)) - 1)) → R64 (mem 623 (x3 + (-1))) → CL E mX12_reckon k mem [aR 603, aI (mem 605 (((mem 603 34) + 98) + (2 * x4))), aL (mem 623 ((x3 + (-1)) - 1)), aL (mem 623 (x3 + (-1)))] (fun r20 m19 => ((¬ (m19 603 38) = 0 → VM E mX12_reckonAll (k + 1) (aUp (aUp m19 623 ((x3 + (-1)) - 1) r20) 603 38 1) 367 [(0, aR 603), (2, aI p1), (3, aI (x3 + (-1))), (4, aI (x4 + 1))] [] (retV Q)) ∧ ((m19 603 38) = 0 → (R64 r20 → CI E mX12_in k (aUp m19 623 ((x3 + (-1)) - 1) r20) [aL r20, aL (-1000000000), aL 1000000000] (fun r22 m21 => ((¬ r22 = 0 → VM E mX12_reckonAll (k + 1) (aUp m21 603 38 0) 367 [(0, aR 603), (2, aI p1), (3, aI (x3 + (-1))), (4, aI (x4 + 1))] [] (retV Q)) ∧ (r22 = 0 → VM E mX12_reckonAll (k + 1) (aUp m21 603 38 1) 367 [(0, aR 603), (2, aI p1), (3, aI (x3 + (-1))), (4, aI (x4 + 1))] [] (retV Q)))))))))))) ∧ ((mem 605 (((mem 603 34) + 98) + (2 * x4))) < 20 → ((¬ (mem 605 (((mem 603 34) + 98) + (2 * x4))) = 0 → ((¬ (mem 603 20) = 0 → ((5 ≤ (mem 605 (((mem 603 34) + 98) + (2 * x4))) → ((¬ (mem 605 (((mem 603 34) + 98) + (2 * x4))) = 5 → ((¬ (mem 605 (((mem 603 34) + 98) + (2 * x4))) = 6 → (R32 (48 + (mem 605 ((((mem 603 34) + 98) + (2 * x4)) + 1)))) ∧ (0 ≤ (48 + (mem 605 ((((mem 603 34) + 98) + (2 * x4)) + 1))) ∧ (48 + (mem 605 ((((mem 603 34) + 98) + (2 * x4)) + 1))) < 5570) ∧ (0 ≤ x3 ∧ x3 < 400) ∧ (R32 (x3 + 1)) ∧ VM E mX12_reckonAll (k + 1) (aUp mem 623 x3 (mem 605 (48 + (mem 605 ((((mem 603 34) + 98) + (2 * x4)) + 1))))) 367 [(0, aR 603), (2, aI p1), (3, aI (x3 + 1)), (4, aI (x4 + 1))] [] (retV Q)) ∧ ((mem 605 (((mem 603 34) + 98) + (2 * x4))) = 6 → (R32 (80 + (mem 605 ((((mem 603 34) + 98) + (2 * x4)) + 1)))) ∧ (0 ≤ (80 + (mem 605 ((((mem 603 34) + 98) + (2 * x4)) + 1))) ∧ (80 + (mem 605 ((((mem 603 34) + 98) + (2 * x4)) + 1))) < 5570) ∧ (0 ≤ x3 ∧ x3 < 400) ∧ (R32 (x3 + 1)) ∧ VM E mX12_reckonAll (k + 1) (aUp mem 623 x3 (mem 605 (80 + (mem 605 ((((mem 603 34) + 98) + (2 * x4)) + 1))))) 367 [(0, aR 603), (2, aI p1), (3, aI (x3 + 1)), (4, aI (x4 + 1))] [] (retV Q)))) ∧ ((mem 605 (((mem 603 34) + 98) + (2 * x4))) = 5 → (R32 (mem 605 ((((mem 603 34) + 98) + (2 * x4)) + 1)) → CI E mX12_isPlot k mem [aR 603, aI (mem 605 ((((mem 603 34) + 98) + (2 * x4)) + 1))] (fun r32 m31 => ((r32 = 0 → (0 ≤ x3 ∧ x3 < 400) ∧ (R32 (x3 + 1)) ∧ VM E mX12_reckonAll (k + 1) (aUp m31 623 x3 (-1)) 367 [(0, aR 603), (2, aI p1), (3, aI (x3 + 1)), (4, aI (x4 + 1))] [] (retV Q)) ∧ (¬ r32 = 0 → (R32 (8 + (mem 605 ((((mem 603 34) + 98) + (2 * x4)) + 1)))) ∧ (0 ≤ (8 + (mem 605 ((((mem 603 34) + 98) + (2 * x4)) + 1))) ∧ (8 + (mem 605 ((((mem 603 34) + 98) + (2 * x4)) + 1))) < 5570) ∧ (0 ≤ x3 ∧ x3 < 400) ∧ (R32 (x3 + 1)) ∧ VM E mX12_reckonAll (k + 1) (aUp m31 623 x3 (m31 605 (8 + (mem 605 ((((mem 603 34) + 98) + (2 * x4)) + 1))))) 367 [(0, aR 603), (2, aI p1), (3, aI (x3 + 1)), (4, aI (x4 + 1))] [] (retV Q)))))))) ∧ ((mem 605 (((mem 603 34) + 98) + (2 * x4))) < 5 → (0 ≤ (mem 605 (((mem 603 34) + 98) + (2 * x4))) ∧ (mem 605 (((mem 603 34) + 98) + (2 * x4))) < 13) ∧ (0 ≤ x3 ∧ x3 < 400) ∧ (R32 (x3 + 1)) ∧ VM E mX12_reckonAll (k + 1) (aUp mem 623 x3 (mem 622 (mem 605 (((mem 603 34) + 98) + (2 * x4))))) 367 [(0, aR 603), (2, aI p1), (3, aI (x3 + 1)), (4, aI (x4 + 1))] [] (retV Q)))) ∧ ((mem 603 20) = 0 → (0 ≤ (mem 605 (((mem 603 34) + 98) + (2 * x4))) ∧ (mem 605 (((mem 603 34) + 98) + (2 * x4))) < 13) ∧ (0 ≤ x3 ∧ x3 < 400) ∧ (R32 (x3 + 1)) ∧ VM E mX12_reckonAll (k + 1) (aUp mem 623 x3 (mem 621 (mem 605 (((mem 603 34) + 98) + (2 * x4))))) 367 [(0, aR 603), (2, aI p1), (3, aI (x3 + 1)), (4, aI (x4 + 1))] [] (retV Q)))) ∧ ((mem 605 (((mem 603 34) + 98) + (2 * x4))) = 0 → (0 ≤ x3 ∧ x3 < 400) ∧ (R32 (x3 + 1)) ∧ VM E mX12_reckonAll (k + 1) (aUp mem 623 x3 (mem 605 ((((mem 603 34) + 98) + (2 * x4)) + 1))) 367 [(0, aR 603), (2, aI p1), (3, aI (x3 + 1)), (4, aI (x4 + 1))] [] (retV Q)))))) ∧ (¬ (mem 603 20) = 0 → (0 ≤ x4 ∧ x4 < 400) ∧ (R32 (x4 + 1)) ∧ ((20 ≤ (mem 605 (((mem 603 34) + 98) + (2 * x4))) → ((28 ≤ (mem 605 (((mem 603 34) + 98) + (2 * x4))) → ((¬ (mem 605 (((mem 603 34) + 98) + (2 * x4))) = 28 → (R32 (x3 - 1)) ∧ (0 ≤ (x3 - 1) ∧ (x3 - 1) < 400) ∧ ((¬ (mem 605 (((mem 603 34) + 98) + (2 * x4))) = 29 → ((¬ (mem 623 (x3 - 1)) = 1 → (R32 (x3 + (-1))) ∧ VM E mX12_reckonAll (k + 1) mem 367 [(0, aR 603), (2, aI p1), (3, aI (x3 + (-1))), (4, aI (x4 + 1))] [] (retV Q)) ∧ ((mem 623 (x3 - 1)) = 1 → VM E mX12_reckonAll (k + 1) mem 367 [(0, aR 603), (2, aI p1), (3, aI x3), (4, aI (mem 615 x4))] [] (retV Q)))) ∧ ((mem 605 (((mem 603 34) + 98) + (2 * x4))) = 29 → ((¬ (mem 623 (x3 - 1)) = 0 → (R32 (x3 + (-1))) ∧ VM E mX12_reckonAll (k + 1) mem 367 [(0, aR 603), (2, aI p1), (3, aI (x3 + (-1))), (4, aI (x4 + 1))] [] (retV Q)) ∧ ((mem 623 (x3 - 1)) = 0 → VM E mX12_reckonAll (k + 1) mem 367 [(0, aR 603), (2, aI p1), (3, aI x3), (4, aI (mem 615 x4))] [] (retV Q)))))) ∧ ((mem 605 (((mem 603 34) + 98) + (2 * x4))) = 28 → (R32 (x3 - 1)) ∧ (0 ≤ (x3 - 1) ∧ (x3 - 1) < 400) ∧ (R64 (1 - (mem 623 (x3 - 1)))) ∧ VM E mX12_reckonAll (k + 1) (aUp mem 623 (x3 - 1) (1 - (mem 623 (x3 - 1)))) 367 [(0, aR 603), (2, aI p1), (3, aI x3), (4, aI (x4 + 1))] [] (retV Q)))) ∧ ((mem 605 (((mem 603 34) + 98) + (2 * x4))) < 28 → (R32 (x3 + (-1))) ∧ (R32 ((x3 + (-1)) - 1)) ∧ (0 ≤ ((x3 + (-1)) - 1) ∧ ((x3 + (-1)) - 1) < 400) ∧ (0 ≤ (x3 + (-1)) ∧ (x3 + (-1)) < 400) ∧ (R32 (mem 605 (((mem 603 34) + 98) + (2 * x4))) → R64 (mem 623 ((x3 + (-1)) - 1)) → R64 (mem 623 (x3 + (-1))) → CL E mX12_reckon k mem [aR 603, aI (mem 605 (((mem 603 34) + 98) + (2 * x4))), aL (mem 623 ((x3 + (-1)) - 1)), aL (mem 623 (x3 + (-1)))] (fun r61 m60 => ((¬ (m60 603 38) = 0 → VM E mX12_reckonAll (k + 1) (aUp (aUp m60 623 ((x3 + (-1)) - 1) r61) 603 38 1) 367 [(0, aR 603), (2, aI p1), (3, aI (x3 + (-1))), (4, aI (x4 + 1))] [] (retV Q)) ∧ ((m60 603 38) = 0 → (R64 r61 → CI E mX12_in k (aUp m60 623 ((x3 + (-1)) - 1) r61) [aL r61, aL (-1000000000), aL 1000000000] (fun r63 m62 => ((¬ r63 = 0 → VM E mX12_reckonAll (k + 1) (aUp m62 603 38 0) 367 [(0, aR 603), (2, aI p1), (3, aI (x3 + (-1))), (4, aI (x4 + 1))] [] (retV Q)) ∧ (r63 = 0 → VM E mX12_reckonAll (k + 1) (aUp m62 603 38 1) 367 [(0, aR 603), (2, aI p1), (3, aI (x3 + (-1))), (4, aI (x4 + 1))] [] (retV Q)))))))))))) ∧ ((mem 605 (((mem 603 34) + 98) + (2 * x4))) < 20 → ((¬ (mem 605 (((mem 603 34) + 98) + (2 * x4))) = 0 → ((¬ (mem 603 20) = 0 → ((5 ≤ (mem 605 (((mem 603 34) + 98) + (2 * x4))) → ((¬ (mem 605 (((mem 603 34) + 98) + (2 * x4))) = 5 → ((¬ (mem 605 (((mem 603 34) + 98) + (2 * x4))) = 6 → (R32 (48 + (mem 615 x4))) ∧ (0 ≤ (48 + (mem 615 x4)) ∧ (48 + (mem 615 x4)) < 5570) ∧ (0 ≤ x3 ∧ x3 < 400) ∧ (R32 (x3 + 1)) ∧ VM E mX12_reckonAll (k + 1) (aUp mem 623 x3 (mem 605 (48 + (mem 615 x4)))) 367 [(0, aR 603), (2, aI p1), (3, aI (x3 + 1)), (4, aI (x4 + 1))] [] (retV Q)) ∧ ((mem 605 (((mem 603 34) + 98) + (2 * x4))) = 6 → (R32 (80 + (mem 615 x4))) ∧ (0 ≤ (80 + (mem 615 x4)) ∧ (80 + (mem 615 x4)) < 5570) ∧ (0 ≤ x3 ∧ x3 < 400) ∧ (R32 (x3 + 1)) ∧ VM E mX12_reckonAll (k + 1) (aUp mem 623 x3 (mem 605 (80 + (mem 615 x4)))) 367 [(0, aR 603), (2, aI p1), (3, aI (x3 + 1)), (4, aI (x4 + 1))] [] (retV Q)))) ∧ ((mem 605 (((mem 603 34) + 98) + (2 * x4))) = 5 → (R32 (mem 615 x4) → CI E mX12_isPlot k mem [aR 603, aI (mem 615 x4)] (fun r73 m72 => ((r73 = 0 → (0 ≤ x3 ∧ x3 < 400) ∧ (R32 (x3 + 1)) ∧ VM E mX12_reckonAll (k + 1) (aUp m72 623 x3 (-1)) 367 [(0, aR 603), (2, aI p1), (3, aI (x3 + 1)), (4, aI (x4 + 1))] [] (retV Q)) ∧ (¬ r73 = 0 → (R32 (8 + (mem 615 x4))) ∧ (0 ≤ (8 + (mem 615 x4)) ∧ (8 + (mem 615 x4)) < 5570) ∧ (0 ≤ x3 ∧ x3 < 400) ∧ (R32 (x3 + 1)) ∧ VM E mX12_reckonAll (k + 1) (aUp m72 623 x3 (m72 605 (8 + (mem 615 x4)))) 367 [(0, aR 603), (2, aI p1), (3, aI (x3 + 1)), (4, aI (x4 + 1))] [] (retV Q)))))))) ∧ ((mem 605 (((mem 603 34) + 98) + (2 * x4))) < 5 → (0 ≤ (mem 605 (((mem 603 34) + 98) + (2 * x4))) ∧ (mem 605 (((mem 603 34) + 98) + (2 * x4))) < 13) ∧ (0 ≤ x3 ∧ x3 < 400) ∧ (R32 (x3 + 1)) ∧ VM E mX12_reckonAll (k + 1) (aUp mem 623 x3 (mem 622 (mem 605 (((mem 603 34) + 98) + (2 * x4))))) 367 [(0, aR 603), (2, aI p1), (3, aI (x3 + 1)), (4, aI (x4 + 1))] [] (retV Q)))) ∧ ((mem 603 20) = 0 → (0 ≤ (mem 605 (((mem 603 34) + 98) + (2 * x4))) ∧ (mem 605 (((mem 603 34) + 98) + (2 * x4))) < 13) ∧ (0 ≤ x3 ∧ x3 < 400) ∧ (R32 (x3 + 1)) ∧ VM E mX12_reckonAll (k + 1) (aUp mem 623 x3 (mem 621 (mem 605 (((mem 603 34) + 98) + (2 * x4))))) 367 [(0, aR 603), (2, aI p1), (3, aI (x3 + 1)), (4, aI (x4 + 1))] [] (retV Q)))) ∧ ((mem 605 (((mem 603 34) + 98) + (2 * x4))) = 0 → (0 ≤ x3 ∧ x3 < 400) ∧ (R32 (x3 + 1)) ∧ VM E mX12_reckonAll (k + 1) (aUp mem 623 x3 (mem 615 x4)) 367 [(0, aR 603), (2, aI p1), (3, aI (x3 + 1)), (4, aI (x4 + 1))] [] (retV Q)))))))) ∧ (¬ (mem 603 20) = 0 → (0 ≤ x4 ∧ x4 < 400) ∧ (((mem 603 20) = 0 → (R32 ((mem 603 34) + 98)) ∧ (R32 (2 * x4)) ∧ (R32 (((mem 603 34) + 98) + (2 * x4))) ∧ (R32 ((((mem 603 34) + 98) + (2 * x4)) + 1)) ∧ (0 ≤ ((((mem 603 34) + 98) + (2 * x4)) + 1) ∧ ((((mem 603 34) + 98) + (2 * x4)) + 1) < 5570) ∧ (R32 (x4 + 1)) ∧ ((20 ≤ (mem 614 x4) → ((28 ≤ (mem 614 x4) → ((¬ (mem 614 x4) = 28 → (R32 (x3 - 1)) ∧ (0 ≤ (x3 - 1) ∧ (x3 - 1) < 400) ∧ ((¬ (mem 614 x4) = 29 → ((¬ (mem 623 (x3 - 1)) = 1 → (R32 (x3 + (-1))) ∧ VM E mX12_reckonAll (k + 1) mem 367 [(0, aR 603), (2, aI p1), (3, aI (x3 + (-1))), (4, aI (x4 + 1))] [] (retV Q)) ∧ ((mem 623 (x3 - 1)) = 1 → VM E mX12_reckonAll (k + 1) mem 367 [(0, aR 603), (2, aI p1), (3, aI x3), (4, aI (mem 605 ((((mem 603 34) + 98) + (2 * x4)) + 1)))] [] (retV Q)))) ∧ ((mem 614 x4) = 29 → ((¬ (mem 623 (x3 - 1)) = 0 → (R32 (x3 + (-1))) ∧ VM E mX12_reckonAll (k + 1) mem 367 [(0, aR 603), (2, aI p1), (3, aI (x3 + (-1))), (4, aI (x4 + 1))] [] (retV Q)) ∧ ((mem 623 (x3 - 1)) = 0 → VM E mX12_reckonAll (k + 1) mem 367 [(0, aR 603), (2, aI p1), (3, aI x3), (4, aI (mem 605 ((((mem 603 34) + 98) + (2 * x4)) + 1)))] [] (retV Q)))))) ∧ ((mem 614 x4) = 28 → (R32 (x3 - 1)) ∧ (0 ≤ (x3 - 1) ∧ (x3 - 1) < 400) ∧ (R64 (1 - (mem 623 (x3 - 1)))) ∧ VM E mX12_reckonAll (k + 1) (aUp mem 623 (x3 - 1) (1 - (mem 623 (x3 - 1)))) 367 [(0, aR 603), (2, aI p1), (3, aI x3), (4, aI (x4 + 1))] [] (retV Q)))) ∧ ((mem 614 x4) < 28 → (R32 (x3 + (-1))) ∧ (R32 ((x3 + (-1)) - 1)) ∧ (0 ≤ ((x3 + (-1)) - 1) ∧ ((x3 + (-1)) - 1) < 400) ∧ (0 ≤ (x3 + (-1)) ∧ (x3 + (-1)) < 400) ∧ (R32 (mem 614 x4) → R64 (mem 623 ((x3 + (-1)) - 1)) → R64 (mem 623 (x3 + (-1))) → CL E mX12_reckon k mem [aR 603, aI (mem 614 x4), aL (mem 623 ((x3 + (-1)) - 1)), aL (mem 623 (x3 + (-1)))] (fun r107 m106 => ((¬ (m106 603 38) = 0 → VM E mX12_reckonAll (k + 1) (aUp (aUp m106 623 ((x3 + (-1)) - 1) r107) 603 38 1) 367 [(0, aR 603), (2, aI p1), (3, aI (x3 + (-1))), (4, aI (x4 + 1))] [] (retV Q)) ∧ ((m106 603 38) = 0 → (R64 r107 → CI E mX12_in k (aUp m106 623 ((x3 + (-1)) - 1) r107) [aL r107, aL (-1000000000), aL 1000000000] (fun r109 m108 => ((¬ r109 = 0 → VM E mX12_reckonAll (k + 1) (aUp m108 603 38 0) 367 [(0, aR 603), (2, aI p1), (3, aI (x3 + (-1))), (4, aI (x4 + 1))] [] (retV Q)) ∧ (r109 = 0 → VM E mX12_reckonAll (k + 1) (aUp m108 603 38 1) 367 [(0, aR 603), (2, aI p1), (3, aI (x3 + (-1))), (4, aI (x4 + 1))] [] (retV Q)))))))))))) ∧ ((mem 614 x4) < 20 → ((¬ (mem 614 x4) = 0 → ((¬ (mem 603 20) = 0 → ((5 ≤ (mem 614 x4) → ((¬ (mem 614 x4) = 5 → ((¬ (mem 614 x4) = 6 → (R32 (48 + (mem 605 ((((mem 603 34) + 98) + (2 * x4)) + 1)))) ∧ (0 ≤ (48 + (mem 605 ((((mem 603 34) + 98) + (2 * x4)) + 1))) ∧ (48 + (mem 605 ((((mem 603 34) + 98) + (2 * x4)) + 1))) < 5570) ∧ (0 ≤ x3 ∧ x3 < 400) ∧ (R32 (x3 + 1)) ∧ VM E mX12_reckonAll (k + 1) (aUp mem 623 x3 (mem 605 (48 + (mem 605 ((((mem 603 34) + 98) + (2 * x4)) + 1))))) 367 [(0, aR 603), (2, aI p1), (3, aI (x3 + 1)), (4, aI (x4 + 1))] [] (retV Q)) ∧ ((mem 614 x4) = 6 → (R32 (80 + (mem 605 ((((mem 603 34) + 98) + (2 * x4)) + 1)))) ∧ (0 ≤ (80 + (mem 605 ((((mem 603 34) + 98) + (2 * x4)) + 1))) ∧ (80 + (mem 605 ((((mem 603 34) + 98) + (2 * x4)) + 1))) < 5570) ∧ (0 ≤ x3 ∧ x3 < 400) ∧ (R32 (x3 + 1)) ∧ VM E mX12_reckonAll (k + 1) (aUp mem 623 x3 (mem 605 (80 + (mem 605 ((((mem 603 34) + 98) + (2 * x4)) + 1))))) 367 [(0, aR 603), (2, aI p1), (3, aI (x3 + 1)), (4, aI (x4 + 1))] [] (retV Q)))) ∧ ((mem 614 x4) = 5 → (R32 (mem 605 ((((mem 603 34) + 98) + (2 * x4)) + 1)) → CI E mX12_isPlot k mem [aR 603, aI (mem 605 ((((mem 603 34) + 98) + (2 * x4)) + 1))] (fun r119 m118 => ((r119 = 0 → (0 ≤ x3 ∧ x3 < 400) ∧ (R32 (x3 + 1)) ∧ VM E mX12_reckonAll (k + 1) (aUp m118 623 x3 (-1)) 367 [(0, aR 603), (2, aI p1), (3, aI (x3 + 1)), (4, aI (x4 + 1))] [] (retV Q)) ∧ (¬ r119 = 0 → (R32 (8 + (mem 605 ((((mem 603 34) + 98) + (2 * x4)) + 1)))) ∧ (0 ≤ (8 + (mem 605 ((((mem 603 34) + 98) + (2 * x4)) + 1))) ∧ (8 + (mem 605 ((((mem 603 34) + 98) + (2 * x4)) + 1))) < 5570) ∧ (0 ≤ x3 ∧ x3 < 400) ∧ (R32 (x3 + 1)) ∧ VM E mX12_reckonAll (k + 1) (aUp m118 623 x3 (m118 605 (8 + (mem 605 ((((mem 603 34) + 98) + (2 * x4)) + 1))))) 367 [(0, aR 603), (2, aI p1), (3, aI (x3 + 1)), (4, aI (x4 + 1))] [] (retV Q)))))))) ∧ ((mem 614 x4) < 5 → (0 ≤ (mem 614 x4) ∧ (mem 614 x4) < 13) ∧ (0 ≤ x3 ∧ x3 < 400) ∧ (R32 (x3 + 1)) ∧ VM E mX12_reckonAll (k + 1) (aUp mem 623 x3 (mem 622 (mem 614 x4))) 367 [(0, aR 603), (2, aI p1), (3, aI (x3 + 1)), (4, aI (x4 + 1))] [] (retV Q)))) ∧ ((mem 603 20) = 0 → (0 ≤ (mem 614 x4) ∧ (mem 614 x4) < 13) ∧ (0 ≤ x3 ∧ x3 < 400) ∧ (R32 (x3 + 1)) ∧ VM E mX12_reckonAll (k + 1) (aUp mem 623 x3 (mem 621 (mem 614 x4))) 367 [(0, aR 603), (2, aI p1), (3, aI (x3 + 1)), (4, aI (x4 + 1))] [] (retV Q)))) ∧ ((mem 614 x4) = 0 → (0 ≤ x3 ∧ x3 < 400) ∧ (R32 (x3 + 1)) ∧ VM E mX12_reckonAll (k + 1) (aUp mem 623 x3 (mem 605 ((((mem 603 34) + 98) + (2 * x4)) + 1))) 367 [(0, aR 603), (2, aI p1), (3, aI (x3 + 1)), (4, aI (x4 + 1))] [] (retV Q)))))) ∧ (¬ (mem 603 20) = 0 → (R32 (x4 + 1)) ∧ ((20 ≤ (mem 614 x4) → ((28 ≤ (mem 614 x4) → ((¬ (mem 614 x4) = 28 → (R32 (x3 - 1)) ∧ (0 ≤ (x3 - 1) ∧ (x3 - 1) < 400) ∧ ((¬ (mem 614 x4) = 29 → ((¬ (mem 623 (x3 - 1)) = 1 → (R32 (x3 + (-1))) ∧ VM E mX12_reckonAll (k + 1) mem 367 [(0, aR 603), (2, aI p1), (3, aI (x3 + (-1))), (4, aI (x4 + 1))] [] (retV Q)) ∧ ((mem 623 (x3 - 1)) = 1 → VM E mX12_reckonAll (k + 1) mem 367 [(0, aR 603), (2, aI p1), (3, aI x3), (4, aI (mem 615 x4))] [] (retV Q)))) ∧ ((mem 614 x4) = 29 → ((¬ (mem 623 (x3 - 1)) = 0 → (R32 (x3 + (-1))) ∧ VM E mX12_reckonAll (k + 1) mem 367 [(0, aR 603), (2, aI p1), (3, aI (x3 + (-1))), (4, aI (x4 + 1))] [] (retV Q)) ∧ ((mem 623 (x3 - 1)) = 0 → VM E mX12_reckonAll (k + 1) mem 367 [(0, aR 603), (2, aI p1), (3, aI x3), (4, aI (mem 615 x4))] [] (retV Q)))))) ∧ ((mem 614 x4) = 28 → (R32 (x3 - 1)) ∧ (0 ≤ (x3 - 1) ∧ (x3 - 1) < 400) ∧ (R64 (1 - (mem 623 (x3 - 1)))) ∧ VM E mX12_reckonAll (k + 1) (aUp mem 623 (x3 - 1) (1 - (mem 623 (x3 - 1)))) 367 [(0, aR 603), (2, aI p1), (3, aI x3), (4, aI (x4 + 1))] [] (retV Q)))) ∧ ((mem 614 x4) < 28 → (R32 (x3 + (-1))) ∧ (R32 ((x3 + (-1)) - 1)) ∧ (0 ≤ ((x3 + (-1)) - 1) ∧ ((x3 + (-1)) - 1) < 400) ∧ (0 ≤ (x3 + (-1)) ∧ (x3 + (-1)) < 400) ∧ (R32 (mem 614 x4) → R64 (mem 623 ((x3 + (-1)) - 1)) → R64 (mem 623 (x3 + (-1))) → CL E mX12_reckon k mem [aR 603, aI (mem 614 x4), aL (mem 623 ((x3 + (-1)) - 1)), aL (mem 623 (x3 + (-1)))] (fun r147 m146 => ((¬ (m146 603 38) = 0 → VM E mX12_reckonAll (k + 1) (aUp (aUp m146 623 ((x3 + (-1)) - 1) r147) 603 38 1) 367 [(0, aR 603), (2, aI p1), (3, aI (x3 + (-1))), (4, aI (x4 + 1))] [] (retV Q)) ∧ ((m146 603 38) = 0 → (R64 r147 → CI E mX12_in k (aUp m146 623 ((x3 + (-1)) - 1) r147) [aL r147, aL (-1000000000), aL 1000000000] (fun r149 m148 => ((¬ r149 = 0 → VM E mX12_reckonAll (k + 1) (aUp m148 603 38 0) 367 [(0, aR 603), (2, aI p1), (3, aI (x3 + (-1))), (4, aI (x4 + 1))] [] (retV Q)) ∧ (r149 = 0 → VM E mX12_reckonAll (k + 1) (aUp m148 603 38 1) 367 [(0, aR 603), (2, aI p1), (3, aI (x3 + (-1))), (4, aI (x4 + 1))] [] (retV Q)))))))))))) ∧ ((mem 614 x4) < 20 → ((¬ (mem 614 x4) = 0 → ((¬ (mem 603 20) = 0 → ((5 ≤ (mem 614 x4) → ((¬ (mem 614 x4) = 5 → ((¬ (mem 614 x4) = 6 → (R32 (48 + (mem 615 x4))) ∧ (0 ≤ (48 + (mem 615 x4)) ∧ (48 + (mem 615 x4)) < 5570) ∧ (0 ≤ x3 ∧ x3 < 400) ∧ (R32 (x3 + 1)) ∧ VM E mX12_reckonAll (k + 1) (aUp mem 623 x3 (mem 605 (48 + (mem 615 x4)))) 367 [(0, aR 603), (2, aI p1), (3, aI (x3 + 1)), (4, aI (x4 + 1))] [] (retV Q)) ∧ ((mem 614 x4) = 6 → (R32 (80 + (mem 615 x4))) ∧ (0 ≤ (80 + (mem 615 x4)) ∧ (80 + (mem 615 x4)) < 5570) ∧ (0 ≤ x3 ∧ x3 < 400) ∧ (R32 (x3 + 1)) ∧ VM E mX12_reckonAll (k + 1) (aUp mem 623 x3 (mem 605 (80 + (mem 615 x4)))) 367 [(0, aR 603), (2, aI p1), (3, aI (x3 + 1)), (4, aI (x4 + 1))] [] (retV Q)))) ∧ ((mem 614 x4) = 5 → (R32 (mem 615 x4) → CI E mX12_isPlot k mem [aR 603, aI (mem 615 x4)] (fun r159 m158 => ((r159 = 0 → (0 ≤ x3 ∧ x3 < 400) ∧ (R32 (x3 + 1)) ∧ VM E mX12_reckonAll (k + 1) (aUp m158 623 x3 (-1)) 367 [(0, aR 603), (2, aI p1), (3, aI (x3 + 1)), (4, aI (x4 + 1))] [] (retV Q)) ∧ (¬ r159 = 0 → (R32 (8 + (mem 615 x4))) ∧ (0 ≤ (8 + (mem 615 x4)) ∧ (8 + (mem 615 x4)) < 5570) ∧ (0 ≤ x3 ∧ x3 < 400) ∧ (R32 (x3 + 1)) ∧ VM E mX12_reckonAll (k + 1) (aUp m158 623 x3 (m158 605 (8 + (mem 615 x4)))) 367 [(0, aR 603), (2, aI p1), (3, aI (x3 + 1)), (4, aI (x4 + 1))] [] (retV Q)))))))) ∧ ((mem 614 x4) < 5 → (0 ≤ (mem 614 x4) ∧ (mem 614 x4) < 13) ∧ (0 ≤ x3 ∧ x3 < 400) ∧ (R32 (x3 + 1)) ∧ VM E mX12_reckonAll (k + 1) (aUp mem 623 x3 (mem 622 (mem 614 x4))) 367 [(0, aR 603), (2, aI p1), (3, aI (x3 + 1)), (4, aI (x4 + 1))] [] (retV Q)))) ∧ ((mem 603 20) = 0 → (0 ≤ (mem 614 x4) ∧ (mem 614 x4) < 13) ∧ (0 ≤ x3 ∧ x3 < 400) ∧ (R32 (x3 + 1)) ∧ VM E mX12_reckonAll (k + 1) (aUp mem 623 x3 (mem 621 (mem 614 x4))) 367 [(0, aR 603), (2, aI p1), (3, aI (x3 + 1)), (4, aI (x4 + 1))] [] (retV Q)))) ∧ ((mem 614 x4) = 0 → (0 ≤ x3 ∧ x3 < 400) ∧ (R32 (x3 + 1)) ∧ VM E mX12_reckonAll (k + 1) (aUp mem 623 x3 (mem 615 x4)) 367 [(0, aR 603), (2, aI p1), (3, aI (x3 + 1)), (4, aI (x4 + 1))] [] (retV Q)))))))))))))) :
    VM E mX12_reckonAll (k + 1) mem 10 [(0, aR 603), (2, aI p1), (3, aI x3), (4, aI x4)] [] (retV Q) := by
  refine v_iload (pc := 10) dX12_reckonAll_10 3 rfl ?_
  refine v_iload_n (pc := 12) dX12_reckonAll_12 1 rfl ?_
  refine v_icmpge (pc := 13) (tgt := 370) dX12_reckonAll_13 (by decide) (fun c1 => ?_) (fun c1 => ?_)
  · have h := h.1 c1
    exact VG_sub (al' := [(0, aR 603), (3, aI x3)]) [0, 2] rfl h
  · have h := h.2 c1
    refine v_aload_n (pc := 16) dX12_reckonAll_16 0 rfl ?_
    refine m_getf (pc := 17) (t := 0) (v := (mem 603 38)) dX12_reckonAll_17 flX12_389 rfl at603 rfl ?_
    refine v_ifne (pc := 20) (tgt := 370) dX12_reckonAll_20 (by decide) (fun c1 => ?_) (fun c1 => ?_)
    · have h := h.1 c1
      exact VG_sub (al' := [(0, aR 603), (3, aI x3)]) [0, 2] rfl h
    · have h := h.2 c1
      refine v_aload_n (pc := 23) dX12_reckonAll_23 0 rfl ?_
      refine m_getf (pc := 24) (t := 0) (v := (mem 603 20)) dX12_reckonAll_24 flX12_317 rfl at603 rfl ?_
      refine v_ifeq (pc := 27) (tgt := 40) dX12_reckonAll_27 (by decide) (fun c1 => ?_) (fun c1 => ?_)
      · have h := h.1 c1
        refine v_aload_n (pc := 40) dX12_reckonAll_40 0 rfl ?_
        refine m_getfin (pc := 41) (v := 605) hE dX12_reckonAll_41 flX12_13 rfl at603 rfl ?_
        refine v_aload_n (pc := 44) dX12_reckonAll_44 0 rfl ?_
        refine m_getf (pc := 45) (t := 0) (v := (mem 603 34)) dX12_reckonAll_45 flX12_392 rfl at603 rfl ?_
        refine v_bipush (pc := 48) dX12_reckonAll_48 (by decide) ?_
        obtain ⟨o1, h⟩ := h
        refine m_iadd (pc := 50) dX12_reckonAll_50 o1 ?_
        refine v_iconst (pc := 51) dX12_reckonAll_51 (by decide) ?_
        refine v_iload (pc := 52) dX12_reckonAll_52 3 rfl ?_
        obtain ⟨o2, h⟩ := h
        refine m_imul (pc := 54) dX12_reckonAll_54 o2 ?_
        obtain ⟨o3, h⟩ := h
        refine m_iadd (pc := 55) dX12_reckonAll_55 o3 ?_
        obtain ⟨o4, h⟩ := h
        refine m_iald (pc := 56) (v := (mem 605 (((mem 603 34) + 98) + (2 * x4)))) dX12_reckonAll_56 at605 o4.1 o4.2 rfl ?_
        refine v_istore (pc := 57) (al2 := [(5, aI (mem 605 (((mem 603 34) + 98) + (2 * x4)))), (0, aR 603), (2, aI p1), (3, aI x3), (4, aI x4)]) dX12_reckonAll_57 (by decide) rfl ?_
        refine v_aload_n (pc := 59) dX12_reckonAll_59 1 rfl ?_
        refine m_getf (pc := 60) (t := 0) (v := (mem 603 20)) dX12_reckonAll_60 flX12_317 rfl at603 rfl ?_
        refine v_ifeq (pc := 63) (tgt := 76) dX12_reckonAll_63 (by decide) (fun c1 => ?_) (fun c1 => ?_)
        · have h := h.1 c1
          refine v_aload_n (pc := 76) dX12_reckonAll_76 1 rfl ?_
          refine m_getfin (pc := 77) (v := 605) hE dX12_reckonAll_77 flX12_13 rfl at603 rfl ?_
          refine v_aload_n (pc := 80) dX12_reckonAll_80 1 rfl ?_
          refine m_getf (pc := 81) (t := 0) (v := (mem 603 34)) dX12_reckonAll_81 flX12_392 rfl at603 rfl ?_
          refine v_bipush (pc := 84) dX12_reckonAll_84 (by decide) ?_
          refine m_iadd (pc := 86) dX12_reckonAll_86 o1 ?_
          refine v_iconst (pc := 87) dX12_reckonAll_87 (by decide) ?_
          refine v_iload (pc := 88) dX12_reckonAll_88 4 rfl ?_
          refine m_imul (pc := 90) dX12_reckonAll_90 o2 ?_
          refine m_iadd (pc := 91) dX12_reckonAll_91 o3 ?_
          refine v_iconst (pc := 92) dX12_reckonAll_92 (by decide) ?_
          obtain ⟨o5, h⟩ := h
          refine m_iadd (pc := 93) dX12_reckonAll_93 o5 ?_
          obtain ⟨o6, h⟩ := h
          refine m_iald (pc := 94) (v := (mem 605 ((((mem 603 34) + 98) + (2 * x4)) + 1))) dX12_reckonAll_94 at605 o6.1 o6.2 rfl ?_
          refine v_istore (pc := 95) (al2 := [(6, aI (mem 605 ((((mem 603 34) + 98) + (2 * x4)) + 1))), (5, aI (mem 605 (((mem 603 34) + 98) + (2 * x4)))), (0, aR 603), (2, aI p1), (3, aI x3), (4, aI x4)]) dX12_reckonAll_95 (by decide) rfl ?_
          obtain ⟨o7, h⟩ := h
          refine m_iinc (pc := 97) (al2 := [(4, aI (x4 + 1)), (6, aI (mem 605 ((((mem 603 34) + 98) + (2 * x4)) + 1))), (5, aI (mem 605 (((mem 603 34) + 98) + (2 * x4)))), (0, aR 603), (2, aI p1), (3, aI x3)]) dX12_reckonAll_97 5 rfl (by decide) o7 rfl ?_
          refine v_iload (pc := 100) dX12_reckonAll_100 2 rfl ?_
          refine v_bipush (pc := 102) dX12_reckonAll_102 (by decide) ?_
          refine v_icmpge (pc := 104) (tgt := 228) dX12_reckonAll_104 (by decide) (fun c1 => ?_) (fun c1 => ?_)
          · have h := h.1 c1
            refine v_iload (pc := 228) dX12_reckonAll_228 2 rfl ?_
            refine v_bipush (pc := 230) dX12_reckonAll_230 (by decide) ?_
            refine v_icmpge (pc := 232) (tgt := 305) dX12_reckonAll_232 (by decide) (fun c1 => ?_) (fun c1 => ?_)
            · have h := h.1 c1
              refine v_iload (pc := 305) dX12_reckonAll_305 2 rfl ?_
              refine v_bipush (pc := 307) dX12_reckonAll_307 (by decide) ?_
              refine v_icmpne (pc := 309) (tgt := 333) dX12_reckonAll_309 (by decide) (fun c1 => ?_) (fun c1 => ?_)
              · have h := h.1 c1
                refine v_aload_n (pc := 333) dX12_reckonAll_333 3 rfl ?_
                refine m_getfin (pc := 334) (v := 623) hE dX12_reckonAll_334 flX12_109 rfl at603 rfl ?_
                refine v_iload_n (pc := 337) dX12_reckonAll_337 5 rfl ?_
                refine v_iconst (pc := 338) dX12_reckonAll_338 (by decide) ?_
                obtain ⟨o8, h⟩ := h
                refine m_isub (pc := 339) dX12_reckonAll_339 o8 ?_
                obtain ⟨o9, h⟩ := h
                refine m_lald (pc := 340) (v := (mem 623 (x3 - 1))) dX12_reckonAll_340 at623 o9.1 o9.2 rfl ?_
                refine v_iload (pc := 341) dX12_reckonAll_341 2 rfl ?_
                refine v_bipush (pc := 343) dX12_reckonAll_343 (by decide) ?_
                refine v_icmpne (pc := 345) (tgt := 352) dX12_reckonAll_345 (by decide) (fun c1 => ?_) (fun c1 => ?_)
                · have h := h.1 c1
                  refine v_lconst1 (pc := 352) dX12_reckonAll_352 ?_
                  refine v_lcmpne (pc := 353) (tgt := 364) dX12_reckonAll_353 dX12_reckonAll_354 (by decide) (fun c1 => ?_) (fun c1 => ?_)
                  · have h := h.1 c1
                    obtain ⟨o10, h⟩ := h
                    refine m_iinc (pc := 364) (al2 := [(3, aI (x3 + (-1))), (4, aI (x4 + 1)), (6, aI (mem 605 ((((mem 603 34) + 98) + (2 * x4)) + 1))), (5, aI (mem 605 (((mem 603 34) + 98) + (2 * x4)))), (0, aR 603), (2, aI p1)]) dX12_reckonAll_364 5 rfl (by decide) o10 rfl ?_
                    exact VG_sub (al' := [(0, aR 603), (2, aI p1), (3, aI (x3 + (-1))), (4, aI (x4 + 1))]) [4, 5, 0, 1] rfl h
                  · have h := h.2 c1
                    refine v_iload (pc := 357) dX12_reckonAll_357 1 rfl ?_
                    refine v_istore (pc := 359) (al2 := [(4, aI (mem 605 ((((mem 603 34) + 98) + (2 * x4)) + 1))), (6, aI (mem 605 ((((mem 603 34) + 98) + (2 * x4)) + 1))), (5, aI (mem 605 (((mem 603 34) + 98) + (2 * x4)))), (0, aR 603), (2, aI p1), (3, aI x3)]) dX12_reckonAll_359 (by decide) rfl ?_
                    refine v_goto (pc := 361) (tgt := 367) dX12_reckonAll_361 (by decide) ?_
                    exact VG_sub (al' := [(0, aR 603), (2, aI p1), (3, aI x3), (4, aI (mem 605 ((((mem 603 34) + 98) + (2 * x4)) + 1)))]) [3, 4, 5, 0] rfl h
                · have h := h.2 c1
                  refine v_lconst0 (pc := 348) dX12_reckonAll_348 ?_
                  refine v_goto (pc := 349) (tgt := 353) dX12_reckonAll_349 (by decide) ?_
                  refine v_lcmpne (pc := 353) (tgt := 364) dX12_reckonAll_353 dX12_reckonAll_354 (by decide) (fun c1 => ?_) (fun c1 => ?_)
                  · have h := h.1 c1
                    obtain ⟨o11, h⟩ := h
                    refine m_iinc (pc := 364) (al2 := [(3, aI (x3 + (-1))), (4, aI (x4 + 1)), (6, aI (mem 605 ((((mem 603 34) + 98) + (2 * x4)) + 1))), (5, aI (mem 605 (((mem 603 34) + 98) + (2 * x4)))), (0, aR 603), (2, aI p1)]) dX12_reckonAll_364 5 rfl (by decide) o11 rfl ?_
                    exact VG_sub (al' := [(0, aR 603), (2, aI p1), (3, aI (x3 + (-1))), (4, aI (x4 + 1))]) [4, 5, 0, 1] rfl h
                  · have h := h.2 c1
                    refine v_iload (pc := 357) dX12_reckonAll_357 1 rfl ?_
                    refine v_istore (pc := 359) (al2 := [(4, aI (mem 605 ((((mem 603 34) + 98) + (2 * x4)) + 1))), (6, aI (mem 605 ((((mem 603 34) + 98) + (2 * x4)) + 1))), (5, aI (mem 605 (((mem 603 34) + 98) + (2 * x4)))), (0, aR 603), (2, aI p1), (3, aI x3)]) dX12_reckonAll_359 (by decide) rfl ?_
                    refine v_goto (pc := 361) (tgt := 367) dX12_reckonAll_361 (by decide) ?_
                    exact VG_sub (al' := [(0, aR 603), (2, aI p1), (3, aI x3), (4, aI (mem 605 ((((mem 603 34) + 98) + (2 * x4)) + 1)))]) [3, 4, 5, 0] rfl h
              · have h := h.2 c1
                refine v_aload_n (pc := 312) dX12_reckonAll_312 3 rfl ?_
                refine m_getfin (pc := 313) (v := 623) hE dX12_reckonAll_313 flX12_109 rfl at603 rfl ?_
                refine v_iload_n (pc := 316) dX12_reckonAll_316 5 rfl ?_
                refine v_iconst (pc := 317) dX12_reckonAll_317 (by decide) ?_
                obtain ⟨o12, h⟩ := h
                refine m_isub (pc := 318) dX12_reckonAll_318 o12 ?_
                refine v_lconst1 (pc := 319) dX12_reckonAll_319 ?_
                refine v_aload_n (pc := 320) dX12_reckonAll_320 3 rfl ?_
                refine m_getfin (pc := 321) (v := 623) hE dX12_reckonAll_321 flX12_109 rfl at603 rfl ?_
                refine v_iload_n (pc := 324) dX12_reckonAll_324 5 rfl ?_
                refine v_iconst (pc := 325) dX12_reckonAll_325 (by decide) ?_
                refine m_isub (pc := 326) dX12_reckonAll_326 o12 ?_
                obtain ⟨o13, h⟩ := h
                refine m_lald (pc := 327) (v := (mem 623 (x3 - 1))) dX12_reckonAll_327 at623 o13.1 o13.2 rfl ?_
                obtain ⟨o14, h⟩ := h
                refine m_lsub (pc := 328) dX12_reckonAll_328 o14 ?_
                refine v_last (pc := 329) dX12_reckonAll_329 at623 o13.1 o13.2 ?_
                refine v_goto (pc := 330) (tgt := 367) dX12_reckonAll_330 (by decide) ?_
                exact VG_sub (al' := [(0, aR 603), (2, aI p1), (3, aI x3), (4, aI (x4 + 1))]) [3, 4, 5, 0] rfl h
            · have h := h.2 c1
              obtain ⟨o15, h⟩ := h
              refine m_iinc (pc := 235) (al2 := [(3, aI (x3 + (-1))), (4, aI (x4 + 1)), (6, aI (mem 605 ((((mem 603 34) + 98) + (2 * x4)) + 1))), (5, aI (mem 605 (((mem 603 34) + 98) + (2 * x4)))), (0, aR 603), (2, aI p1)]) dX12_reckonAll_235 5 rfl (by decide) o15 rfl ?_
              refine v_aload_n (pc := 238) dX12_reckonAll_238 4 rfl ?_
              refine m_getfin (pc := 239) (v := 623) hE dX12_reckonAll_239 flX12_109 rfl at603 rfl ?_
              refine v_iload_n (pc := 242) dX12_reckonAll_242 0 rfl ?_
              refine v_iconst (pc := 243) dX12_reckonAll_243 (by decide) ?_
              obtain ⟨o16, h⟩ := h
              refine m_isub (pc := 244) dX12_reckonAll_244 o16 ?_
              refine v_aload_n (pc := 245) dX12_reckonAll_245 4 rfl ?_
              refine v_iload (pc := 246) dX12_reckonAll_246 3 rfl ?_
              refine v_aload_n (pc := 248) dX12_reckonAll_248 4 rfl ?_
              refine m_getfin (pc := 249) (v := 623) hE dX12_reckonAll_249 flX12_109 rfl at603 rfl ?_
              refine v_iload_n (pc := 252) dX12_reckonAll_252 0 rfl ?_
              refine v_iconst (pc := 253) dX12_reckonAll_253 (by decide) ?_
              refine m_isub (pc := 254) dX12_reckonAll_254 o16 ?_
              obtain ⟨o17, h⟩ := h
              refine m_lald (pc := 255) (v := (mem 623 ((x3 + (-1)) - 1))) dX12_reckonAll_255 at623 o17.1 o17.2 rfl ?_
              refine v_aload_n (pc := 256) dX12_reckonAll_256 4 rfl ?_
              refine m_getfin (pc := 257) (v := 623) hE dX12_reckonAll_257 flX12_109 rfl at603 rfl ?_
              refine v_iload_n (pc := 260) dX12_reckonAll_260 0 rfl ?_
              obtain ⟨o18, h⟩ := h
              refine m_lald (pc := 261) (v := (mem 623 (x3 + (-1)))) dX12_reckonAll_261 at623 o18.1 o18.2 rfl ?_
              refine m_invL (pc := 262) (mi' := mX12_reckon) (rest := [aI ((x3 + (-1)) - 1), aR 623]) [aI (mem 605 (((mem 603 34) + 98) + (2 * x4))), aL (mem 623 ((x3 + (-1)) - 1)), aL (mem 623 (x3 + (-1)))] dX12_reckonAll_262 at603 (by decide) rfl msX12_reckon mvX12_reckon lkX12_395 rfl (Nat.le_of_ble_eq_true rfl) (fun hn => CL_mono (h (aaI hn 1 rfl) (aaL hn 2 rfl) (aaL hn 3 rfl)) (fun r20 m19 h => ?_))
              refine v_last (pc := 265) dX12_reckonAll_265 at623 o17.1 o17.2 ?_
              refine v_aload_n (pc := 266) dX12_reckonAll_266 4 rfl ?_
              refine v_aload_n (pc := 267) dX12_reckonAll_267 4 rfl ?_
              refine m_getf (pc := 268) (t := 0) (v := (m19 603 38)) dX12_reckonAll_268 flX12_389 rfl at603 (aUp_rn (by omega)) ?_
              refine v_ifne (pc := 271) (tgt := 294) dX12_reckonAll_271 (by decide) (fun c1 => ?_) (fun c1 => ?_)
              · have h := h.1 c1
                refine v_iconst (pc := 294) dX12_reckonAll_294 (by decide) ?_
                refine v_goto (pc := 295) (tgt := 299) dX12_reckonAll_295 (by decide) ?_
                refine v_putf (pc := 299) dX12_reckonAll_299 flX12_389 ⟨_, _, rfl, Or.inl rfl⟩ rfl (by decide) (fun _ => by decide) (Or.inl fun _ => rfl) at603 ?_
                refine v_goto (pc := 302) (tgt := 367) dX12_reckonAll_302 (by decide) ?_
                exact VG_sub (al' := [(0, aR 603), (2, aI p1), (3, aI (x3 + (-1))), (4, aI (x4 + 1))]) [4, 5, 0, 1] rfl h
              · have h := h.2 c1
                refine v_aload_n (pc := 274) dX12_reckonAll_274 4 rfl ?_
                refine m_getfin (pc := 275) (v := 623) hE dX12_reckonAll_275 flX12_109 rfl at603 rfl ?_
                refine v_iload_n (pc := 278) dX12_reckonAll_278 0 rfl ?_
                refine v_iconst (pc := 279) dX12_reckonAll_279 (by decide) ?_
                refine m_isub (pc := 280) dX12_reckonAll_280 o16 ?_
                refine m_lald (pc := 281) (v := r20) dX12_reckonAll_281 at623 o17.1 o17.2 (aUp_re) ?_
                refine v_ldc2 (pc := 282) (n := (-1000000000)) dX12_reckonAll_282 cnX12_399 (by decide) ?_
                refine v_ldc2 (pc := 285) (n := 1000000000) dX12_reckonAll_285 cnX12_401 (by decide) ?_
                refine m_invSI (pc := 288) (mi' := mX12_in) (rest := [aR 603]) [aL r20, aL (-1000000000), aL 1000000000] dX12_reckonAll_288 msX12_in stX12_in lkX12_182 rfl (Nat.le_of_ble_eq_true rfl) (fun hn => CI_mono (h (aaL hn 0 rfl)) (fun r22 m21 h => ?_))
                refine v_ifne (pc := 291) (tgt := 298) dX12_reckonAll_291 (by decide) (fun c1 => ?_) (fun c1 => ?_)
                · have h := h.1 c1
                  refine v_iconst (pc := 298) dX12_reckonAll_298 (by decide) ?_
                  refine v_putf (pc := 299) dX12_reckonAll_299 flX12_389 ⟨_, _, rfl, Or.inl rfl⟩ rfl (by decide) (fun _ => by decide) (Or.inl fun _ => rfl) at603 ?_
                  refine v_goto (pc := 302) (tgt := 367) dX12_reckonAll_302 (by decide) ?_
                  exact VG_sub (al' := [(0, aR 603), (2, aI p1), (3, aI (x3 + (-1))), (4, aI (x4 + 1))]) [4, 5, 0, 1] rfl h
                · have h := h.2 c1
                  refine v_iconst (pc := 294) dX12_reckonAll_294 (by decide) ?_
                  refine v_goto (pc := 295) (tgt := 299) dX12_reckonAll_295 (by decide) ?_
                  refine v_putf (pc := 299) dX12_reckonAll_299 flX12_389 ⟨_, _, rfl, Or.inl rfl⟩ rfl (by decide) (fun _ => by decide) (Or.inl fun _ => rfl) at603 ?_
                  refine v_goto (pc := 302) (tgt := 367) dX12_reckonAll_302 (by decide) ?_
                  exact VG_sub (al' := [(0, aR 603), (2, aI p1), (3, aI (x3 + (-1))), (4, aI (x4 + 1))]) [4, 5, 0, 1] rfl h
          · have h := h.2 c1
            refine v_aload_n (pc := 107) dX12_reckonAll_107 3 rfl ?_
            refine m_getfin (pc := 108) (v := 623) hE dX12_reckonAll_108 flX12_109 rfl at603 rfl ?_
            refine v_iload_n (pc := 111) dX12_reckonAll_111 5 rfl ?_
            refine v_iload (pc := 112) dX12_reckonAll_112 2 rfl ?_
            refine v_ifne (pc := 114) (tgt := 123) dX12_reckonAll_114 (by decide) (fun c1 => ?_) (fun c1 => ?_)
            · have h := h.1 c1
              refine v_aload_n (pc := 123) dX12_reckonAll_123 3 rfl ?_
              refine m_getf (pc := 124) (t := 0) (v := (mem 603 20)) dX12_reckonAll_124 flX12_317 rfl at603 rfl ?_
              refine v_ifne (pc := 127) (tgt := 140) dX12_reckonAll_127 (by decide) (fun c1 => ?_) (fun c1 => ?_)
              · have h := h.1 c1
                refine v_iload (pc := 140) dX12_reckonAll_140 2 rfl ?_
                refine v_iconst (pc := 142) dX12_reckonAll_142 (by decide) ?_
                refine v_icmpge (pc := 143) (tgt := 156) dX12_reckonAll_143 (by decide) (fun c1 => ?_) (fun c1 => ?_)
                · have h := h.1 c1
                  refine v_iload (pc := 156) dX12_reckonAll_156 2 rfl ?_
                  refine v_iconst (pc := 158) dX12_reckonAll_158 (by decide) ?_
                  refine v_icmpne (pc := 159) (tgt := 189) dX12_reckonAll_159 (by decide) (fun c1 => ?_) (fun c1 => ?_)
                  · have h := h.1 c1
                    refine v_iload (pc := 189) dX12_reckonAll_189 2 rfl ?_
                    refine v_bipush (pc := 191) dX12_reckonAll_191 (by decide) ?_
                    refine v_icmpne (pc := 193) (tgt := 210) dX12_reckonAll_193 (by decide) (fun c1 => ?_) (fun c1 => ?_)
                    · have h := h.1 c1
                      refine v_aload_n (pc := 210) dX12_reckonAll_210 3 rfl ?_
                      refine m_getfin (pc := 211) (v := 605) hE dX12_reckonAll_211 flX12_13 rfl at603 rfl ?_
                      refine v_bipush (pc := 214) dX12_reckonAll_214 (by decide) ?_
                      refine v_iload (pc := 216) dX12_reckonAll_216 1 rfl ?_
                      obtain ⟨o23, h⟩ := h
                      refine m_iadd (pc := 218) dX12_reckonAll_218 o23 ?_
                      obtain ⟨o24, h⟩ := h
                      refine m_iald (pc := 219) (v := (mem 605 (48 + (mem 605 ((((mem 603 34) + 98) + (2 * x4)) + 1))))) dX12_reckonAll_219 at605 o24.1 o24.2 rfl ?_
                      refine v_i2l (pc := 220) dX12_reckonAll_220 ?_
                      obtain ⟨o25, h⟩ := h
                      refine v_last (pc := 221) dX12_reckonAll_221 at623 o25.1 o25.2 ?_
                      obtain ⟨o26, h⟩ := h
                      refine m_iinc (pc := 222) (al2 := [(3, aI (x3 + 1)), (4, aI (x4 + 1)), (6, aI (mem 605 ((((mem 603 34) + 98) + (2 * x4)) + 1))), (5, aI (mem 605 (((mem 603 34) + 98) + (2 * x4)))), (0, aR 603), (2, aI p1)]) dX12_reckonAll_222 5 rfl (by decide) o26 rfl ?_
                      refine v_goto (pc := 225) (tgt := 367) dX12_reckonAll_225 (by decide) ?_
                      exact VG_sub (al' := [(0, aR 603), (2, aI p1), (3, aI (x3 + 1)), (4, aI (x4 + 1))]) [4, 5, 0, 1] rfl h
                    · have h := h.2 c1
                      refine v_aload_n (pc := 196) dX12_reckonAll_196 3 rfl ?_
                      refine m_getfin (pc := 197) (v := 605) hE dX12_reckonAll_197 flX12_13 rfl at603 rfl ?_
                      refine v_bipush (pc := 200) dX12_reckonAll_200 (by decide) ?_
                      refine v_iload (pc := 202) dX12_reckonAll_202 1 rfl ?_
                      obtain ⟨o27, h⟩ := h
                      refine m_iadd (pc := 204) dX12_reckonAll_204 o27 ?_
                      obtain ⟨o28, h⟩ := h
                      refine m_iald (pc := 205) (v := (mem 605 (80 + (mem 605 ((((mem 603 34) + 98) + (2 * x4)) + 1))))) dX12_reckonAll_205 at605 o28.1 o28.2 rfl ?_
                      refine v_i2l (pc := 206) dX12_reckonAll_206 ?_
                      refine v_goto (pc := 207) (tgt := 221) dX12_reckonAll_207 (by decide) ?_
                      obtain ⟨o29, h⟩ := h
                      refine v_last (pc := 221) dX12_reckonAll_221 at623 o29.1 o29.2 ?_
                      obtain ⟨o30, h⟩ := h
                      refine m_iinc (pc := 222) (al2 := [(3, aI (x3 + 1)), (4, aI (x4 + 1)), (6, aI (mem 605 ((((mem 603 34) + 98) + (2 * x4)) + 1))), (5, aI (mem 605 (((mem 603 34) + 98) + (2 * x4)))), (0, aR 603), (2, aI p1)]) dX12_reckonAll_222 5 rfl (by decide) o30 rfl ?_
                      refine v_goto (pc := 225) (tgt := 367) dX12_reckonAll_225 (by decide) ?_
                      exact VG_sub (al' := [(0, aR 603), (2, aI p1), (3, aI (x3 + 1)), (4, aI (x4 + 1))]) [4, 5, 0, 1] rfl h
                  · have h := h.2 c1
                    refine v_aload_n (pc := 162) dX12_reckonAll_162 3 rfl ?_
                    refine v_iload (pc := 163) dX12_reckonAll_163 1 rfl ?_
                    refine m_invI (pc := 165) (mi' := mX12_isPlot) (rest := [aI x3, aR 623]) [aI (mem 605 ((((mem 603 34) + 98) + (2 * x4)) + 1))] dX12_reckonAll_165 at603 (by decide) rfl msX12_isPlot mvX12_isPlot lkX12_214 rfl (Nat.le_of_ble_eq_true rfl) (fun hn => CI_mono (h (aaI hn 1 rfl)) (fun r32 m31 h => ?_))
                    refine v_ifeq (pc := 168) (tgt := 184) dX12_reckonAll_168 (by decide) (fun c1 => ?_) (fun c1 => ?_)
                    · have h := h.1 c1
                      refine v_iconst (pc := 184) dX12_reckonAll_184 (by decide) ?_
                      refine v_i2l (pc := 185) dX12_reckonAll_185 ?_
                      refine v_goto (pc := 186) (tgt := 221) dX12_reckonAll_186 (by decide) ?_
                      obtain ⟨o33, h⟩ := h
                      refine v_last (pc := 221) dX12_reckonAll_221 at623 o33.1 o33.2 ?_
                      obtain ⟨o34, h⟩ := h
                      refine m_iinc (pc := 222) (al2 := [(3, aI (x3 + 1)), (4, aI (x4 + 1)), (6, aI (mem 605 ((((mem 603 34) + 98) + (2 * x4)) + 1))), (5, aI (mem 605 (((mem 603 34) + 98) + (2 * x4)))), (0, aR 603), (2, aI p1)]) dX12_reckonAll_222 5 rfl (by decide) o34 rfl ?_
                      refine v_goto (pc := 225) (tgt := 367) dX12_reckonAll_225 (by decide) ?_
                      exact VG_sub (al' := [(0, aR 603), (2, aI p1), (3, aI (x3 + 1)), (4, aI (x4 + 1))]) [4, 5, 0, 1] rfl h
                    · have h := h.2 c1
                      refine v_aload_n (pc := 171) dX12_reckonAll_171 3 rfl ?_
                      refine m_getfin (pc := 172) (v := 605) hE dX12_reckonAll_172 flX12_13 rfl at603 rfl ?_
                      refine v_bipush (pc := 175) dX12_reckonAll_175 (by decide) ?_
                      refine v_iload (pc := 177) dX12_reckonAll_177 1 rfl ?_
                      obtain ⟨o35, h⟩ := h
                      refine m_iadd (pc := 179) dX12_reckonAll_179 o35 ?_
                      obtain ⟨o36, h⟩ := h
                      refine m_iald (pc := 180) (v := (m31 605 (8 + (mem 605 ((((mem 603 34) + 98) + (2 * x4)) + 1))))) dX12_reckonAll_180 at605 o36.1 o36.2 rfl ?_
                      refine v_goto (pc := 181) (tgt := 185) dX12_reckonAll_181 (by decide) ?_
                      refine v_i2l (pc := 185) dX12_reckonAll_185 ?_
                      refine v_goto (pc := 186) (tgt := 221) dX12_reckonAll_186 (by decide) ?_
                      obtain ⟨o37, h⟩ := h
                      refine v_last (pc := 221) dX12_reckonAll_221 at623 o37.1 o37.2 ?_
                      obtain ⟨o38, h⟩ := h
                      refine m_iinc (pc := 222) (al2 := [(3, aI (x3 + 1)), (4, aI (x4 + 1)), (6, aI (mem 605 ((((mem 603 34) + 98) + (2 * x4)) + 1))), (5, aI (mem 605 (((mem 603 34) + 98) + (2 * x4)))), (0, aR 603), (2, aI p1)]) dX12_reckonAll_222 5 rfl (by decide) o38 rfl ?_
                      refine v_goto (pc := 225) (tgt := 367) dX12_reckonAll_225 (by decide) ?_
                      exact VG_sub (al' := [(0, aR 603), (2, aI p1), (3, aI (x3 + 1)), (4, aI (x4 + 1))]) [4, 5, 0, 1] rfl h
                · have h := h.2 c1
                  refine v_aload_n (pc := 146) dX12_reckonAll_146 3 rfl ?_
                  refine m_getfin (pc := 147) (v := 622) hE dX12_reckonAll_147 flX12_106 rfl at603 rfl ?_
                  refine v_iload (pc := 150) dX12_reckonAll_150 2 rfl ?_
                  obtain ⟨o39, h⟩ := h
                  refine m_lald (pc := 152) (v := (mem 622 (mem 605 (((mem 603 34) + 98) + (2 * x4))))) dX12_reckonAll_152 at622 o39.1 o39.2 rfl ?_
                  refine v_goto (pc := 153) (tgt := 221) dX12_reckonAll_153 (by decide) ?_
                  obtain ⟨o40, h⟩ := h
                  refine v_last (pc := 221) dX12_reckonAll_221 at623 o40.1 o40.2 ?_
                  obtain ⟨o41, h⟩ := h
                  refine m_iinc (pc := 222) (al2 := [(3, aI (x3 + 1)), (4, aI (x4 + 1)), (6, aI (mem 605 ((((mem 603 34) + 98) + (2 * x4)) + 1))), (5, aI (mem 605 (((mem 603 34) + 98) + (2 * x4)))), (0, aR 603), (2, aI p1)]) dX12_reckonAll_222 5 rfl (by decide) o41 rfl ?_
                  refine v_goto (pc := 225) (tgt := 367) dX12_reckonAll_225 (by decide) ?_
                  exact VG_sub (al' := [(0, aR 603), (2, aI p1), (3, aI (x3 + 1)), (4, aI (x4 + 1))]) [4, 5, 0, 1] rfl h
              · have h := h.2 c1
                refine v_aload_n (pc := 130) dX12_reckonAll_130 3 rfl ?_
                refine m_getfin (pc := 131) (v := 621) hE dX12_reckonAll_131 flX12_103 rfl at603 rfl ?_
                refine v_iload (pc := 134) dX12_reckonAll_134 2 rfl ?_
                obtain ⟨o42, h⟩ := h
                refine m_lald (pc := 136) (v := (mem 621 (mem 605 (((mem 603 34) + 98) + (2 * x4))))) dX12_reckonAll_136 at621 o42.1 o42.2 rfl ?_
                refine v_goto (pc := 137) (tgt := 221) dX12_reckonAll_137 (by decide) ?_
                obtain ⟨o43, h⟩ := h
                refine v_last (pc := 221) dX12_reckonAll_221 at623 o43.1 o43.2 ?_
                obtain ⟨o44, h⟩ := h
                refine m_iinc (pc := 222) (al2 := [(3, aI (x3 + 1)), (4, aI (x4 + 1)), (6, aI (mem 605 ((((mem 603 34) + 98) + (2 * x4)) + 1))), (5, aI (mem 605 (((mem 603 34) + 98) + (2 * x4)))), (0, aR 603), (2, aI p1)]) dX12_reckonAll_222 5 rfl (by decide) o44 rfl ?_
                refine v_goto (pc := 225) (tgt := 367) dX12_reckonAll_225 (by decide) ?_
                exact VG_sub (al' := [(0, aR 603), (2, aI p1), (3, aI (x3 + 1)), (4, aI (x4 + 1))]) [4, 5, 0, 1] rfl h
            · have h := h.2 c1
              refine v_iload (pc := 117) dX12_reckonAll_117 1 rfl ?_
              refine v_i2l (pc := 119) dX12_reckonAll_119 ?_
              refine v_goto (pc := 120) (tgt := 221) dX12_reckonAll_120 (by decide) ?_
              obtain ⟨o45, h⟩ := h
              refine v_last (pc := 221) dX12_reckonAll_221 at623 o45.1 o45.2 ?_
              obtain ⟨o46, h⟩ := h
              refine m_iinc (pc := 222) (al2 := [(3, aI (x3 + 1)), (4, aI (x4 + 1)), (6, aI (mem 605 ((((mem 603 34) + 98) + (2 * x4)) + 1))), (5, aI (mem 605 (((mem 603 34) + 98) + (2 * x4)))), (0, aR 603), (2, aI p1)]) dX12_reckonAll_222 5 rfl (by decide) o46 rfl ?_
              refine v_goto (pc := 225) (tgt := 367) dX12_reckonAll_225 (by decide) ?_
              exact VG_sub (al' := [(0, aR 603), (2, aI p1), (3, aI (x3 + 1)), (4, aI (x4 + 1))]) [4, 5, 0, 1] rfl h
        · have h := h.2 c1
          refine v_aload_n (pc := 66) dX12_reckonAll_66 1 rfl ?_
          refine m_getfin (pc := 67) (v := 615) hE dX12_reckonAll_67 flX12_48 rfl at603 rfl ?_
          refine v_iload (pc := 70) dX12_reckonAll_70 4 rfl ?_
          obtain ⟨o47, h⟩ := h
          refine m_iald (pc := 72) (v := (mem 615 x4)) dX12_reckonAll_72 at615 o47.1 o47.2 rfl ?_
          refine v_goto (pc := 73) (tgt := 95) dX12_reckonAll_73 (by decide) ?_
          refine v_istore (pc := 95) (al2 := [(6, aI (mem 615 x4)), (5, aI (mem 605 (((mem 603 34) + 98) + (2 * x4)))), (0, aR 603), (2, aI p1), (3, aI x3), (4, aI x4)]) dX12_reckonAll_95 (by decide) rfl ?_
          obtain ⟨o48, h⟩ := h
          refine m_iinc (pc := 97) (al2 := [(4, aI (x4 + 1)), (6, aI (mem 615 x4)), (5, aI (mem 605 (((mem 603 34) + 98) + (2 * x4)))), (0, aR 603), (2, aI p1), (3, aI x3)]) dX12_reckonAll_97 5 rfl (by decide) o48 rfl ?_
          refine v_iload (pc := 100) dX12_reckonAll_100 2 rfl ?_
          refine v_bipush (pc := 102) dX12_reckonAll_102 (by decide) ?_
          refine v_icmpge (pc := 104) (tgt := 228) dX12_reckonAll_104 (by decide) (fun c1 => ?_) (fun c1 => ?_)
          · have h := h.1 c1
            refine v_iload (pc := 228) dX12_reckonAll_228 2 rfl ?_
            refine v_bipush (pc := 230) dX12_reckonAll_230 (by decide) ?_
            refine v_icmpge (pc := 232) (tgt := 305) dX12_reckonAll_232 (by decide) (fun c1 => ?_) (fun c1 => ?_)
            · have h := h.1 c1
              refine v_iload (pc := 305) dX12_reckonAll_305 2 rfl ?_
              refine v_bipush (pc := 307) dX12_reckonAll_307 (by decide) ?_
              refine v_icmpne (pc := 309) (tgt := 333) dX12_reckonAll_309 (by decide) (fun c1 => ?_) (fun c1 => ?_)
              · have h := h.1 c1
                refine v_aload_n (pc := 333) dX12_reckonAll_333 3 rfl ?_
                refine m_getfin (pc := 334) (v := 623) hE dX12_reckonAll_334 flX12_109 rfl at603 rfl ?_
                refine v_iload_n (pc := 337) dX12_reckonAll_337 5 rfl ?_
                refine v_iconst (pc := 338) dX12_reckonAll_338 (by decide) ?_
                obtain ⟨o49, h⟩ := h
                refine m_isub (pc := 339) dX12_reckonAll_339 o49 ?_
                obtain ⟨o50, h⟩ := h
                refine m_lald (pc := 340) (v := (mem 623 (x3 - 1))) dX12_reckonAll_340 at623 o50.1 o50.2 rfl ?_
                refine v_iload (pc := 341) dX12_reckonAll_341 2 rfl ?_
                refine v_bipush (pc := 343) dX12_reckonAll_343 (by decide) ?_
                refine v_icmpne (pc := 345) (tgt := 352) dX12_reckonAll_345 (by decide) (fun c1 => ?_) (fun c1 => ?_)
                · have h := h.1 c1
                  refine v_lconst1 (pc := 352) dX12_reckonAll_352 ?_
                  refine v_lcmpne (pc := 353) (tgt := 364) dX12_reckonAll_353 dX12_reckonAll_354 (by decide) (fun c1 => ?_) (fun c1 => ?_)
                  · have h := h.1 c1
                    obtain ⟨o51, h⟩ := h
                    refine m_iinc (pc := 364) (al2 := [(3, aI (x3 + (-1))), (4, aI (x4 + 1)), (6, aI (mem 615 x4)), (5, aI (mem 605 (((mem 603 34) + 98) + (2 * x4)))), (0, aR 603), (2, aI p1)]) dX12_reckonAll_364 5 rfl (by decide) o51 rfl ?_
                    exact VG_sub (al' := [(0, aR 603), (2, aI p1), (3, aI (x3 + (-1))), (4, aI (x4 + 1))]) [4, 5, 0, 1] rfl h
                  · have h := h.2 c1
                    refine v_iload (pc := 357) dX12_reckonAll_357 1 rfl ?_
                    refine v_istore (pc := 359) (al2 := [(4, aI (mem 615 x4)), (6, aI (mem 615 x4)), (5, aI (mem 605 (((mem 603 34) + 98) + (2 * x4)))), (0, aR 603), (2, aI p1), (3, aI x3)]) dX12_reckonAll_359 (by decide) rfl ?_
                    refine v_goto (pc := 361) (tgt := 367) dX12_reckonAll_361 (by decide) ?_
                    exact VG_sub (al' := [(0, aR 603), (2, aI p1), (3, aI x3), (4, aI (mem 615 x4))]) [3, 4, 5, 0] rfl h
                · have h := h.2 c1
                  refine v_lconst0 (pc := 348) dX12_reckonAll_348 ?_
                  refine v_goto (pc := 349) (tgt := 353) dX12_reckonAll_349 (by decide) ?_
                  refine v_lcmpne (pc := 353) (tgt := 364) dX12_reckonAll_353 dX12_reckonAll_354 (by decide) (fun c1 => ?_) (fun c1 => ?_)
                  · have h := h.1 c1
                    obtain ⟨o52, h⟩ := h
                    refine m_iinc (pc := 364) (al2 := [(3, aI (x3 + (-1))), (4, aI (x4 + 1)), (6, aI (mem 615 x4)), (5, aI (mem 605 (((mem 603 34) + 98) + (2 * x4)))), (0, aR 603), (2, aI p1)]) dX12_reckonAll_364 5 rfl (by decide) o52 rfl ?_
                    exact VG_sub (al' := [(0, aR 603), (2, aI p1), (3, aI (x3 + (-1))), (4, aI (x4 + 1))]) [4, 5, 0, 1] rfl h
                  · have h := h.2 c1
                    refine v_iload (pc := 357) dX12_reckonAll_357 1 rfl ?_
                    refine v_istore (pc := 359) (al2 := [(4, aI (mem 615 x4)), (6, aI (mem 615 x4)), (5, aI (mem 605 (((mem 603 34) + 98) + (2 * x4)))), (0, aR 603), (2, aI p1), (3, aI x3)]) dX12_reckonAll_359 (by decide) rfl ?_
                    refine v_goto (pc := 361) (tgt := 367) dX12_reckonAll_361 (by decide) ?_
                    exact VG_sub (al' := [(0, aR 603), (2, aI p1), (3, aI x3), (4, aI (mem 615 x4))]) [3, 4, 5, 0] rfl h
              · have h := h.2 c1
                refine v_aload_n (pc := 312) dX12_reckonAll_312 3 rfl ?_
                refine m_getfin (pc := 313) (v := 623) hE dX12_reckonAll_313 flX12_109 rfl at603 rfl ?_
                refine v_iload_n (pc := 316) dX12_reckonAll_316 5 rfl ?_
                refine v_iconst (pc := 317) dX12_reckonAll_317 (by decide) ?_
                obtain ⟨o53, h⟩ := h
                refine m_isub (pc := 318) dX12_reckonAll_318 o53 ?_
                refine v_lconst1 (pc := 319) dX12_reckonAll_319 ?_
                refine v_aload_n (pc := 320) dX12_reckonAll_320 3 rfl ?_
                refine m_getfin (pc := 321) (v := 623) hE dX12_reckonAll_321 flX12_109 rfl at603 rfl ?_
                refine v_iload_n (pc := 324) dX12_reckonAll_324 5 rfl ?_
                refine v_iconst (pc := 325) dX12_reckonAll_325 (by decide) ?_
                refine m_isub (pc := 326) dX12_reckonAll_326 o53 ?_
                obtain ⟨o54, h⟩ := h
                refine m_lald (pc := 327) (v := (mem 623 (x3 - 1))) dX12_reckonAll_327 at623 o54.1 o54.2 rfl ?_
                obtain ⟨o55, h⟩ := h
                refine m_lsub (pc := 328) dX12_reckonAll_328 o55 ?_
                refine v_last (pc := 329) dX12_reckonAll_329 at623 o54.1 o54.2 ?_
                refine v_goto (pc := 330) (tgt := 367) dX12_reckonAll_330 (by decide) ?_
                exact VG_sub (al' := [(0, aR 603), (2, aI p1), (3, aI x3), (4, aI (x4 + 1))]) [3, 4, 5, 0] rfl h
            · have h := h.2 c1
              obtain ⟨o56, h⟩ := h
              refine m_iinc (pc := 235) (al2 := [(3, aI (x3 + (-1))), (4, aI (x4 + 1)), (6, aI (mem 615 x4)), (5, aI (mem 605 (((mem 603 34) + 98) + (2 * x4)))), (0, aR 603), (2, aI p1)]) dX12_reckonAll_235 5 rfl (by decide) o56 rfl ?_
              refine v_aload_n (pc := 238) dX12_reckonAll_238 4 rfl ?_
              refine m_getfin (pc := 239) (v := 623) hE dX12_reckonAll_239 flX12_109 rfl at603 rfl ?_
              refine v_iload_n (pc := 242) dX12_reckonAll_242 0 rfl ?_
              refine v_iconst (pc := 243) dX12_reckonAll_243 (by decide) ?_
              obtain ⟨o57, h⟩ := h
              refine m_isub (pc := 244) dX12_reckonAll_244 o57 ?_
              refine v_aload_n (pc := 245) dX12_reckonAll_245 4 rfl ?_
              refine v_iload (pc := 246) dX12_reckonAll_246 3 rfl ?_
              refine v_aload_n (pc := 248) dX12_reckonAll_248 4 rfl ?_
              refine m_getfin (pc := 249) (v := 623) hE dX12_reckonAll_249 flX12_109 rfl at603 rfl ?_
              refine v_iload_n (pc := 252) dX12_reckonAll_252 0 rfl ?_
              refine v_iconst (pc := 253) dX12_reckonAll_253 (by decide) ?_
              refine m_isub (pc := 254) dX12_reckonAll_254 o57 ?_
              obtain ⟨o58, h⟩ := h
              refine m_lald (pc := 255) (v := (mem 623 ((x3 + (-1)) - 1))) dX12_reckonAll_255 at623 o58.1 o58.2 rfl ?_
              refine v_aload_n (pc := 256) dX12_reckonAll_256 4 rfl ?_
              refine m_getfin (pc := 257) (v := 623) hE dX12_reckonAll_257 flX12_109 rfl at603 rfl ?_
              refine v_iload_n (pc := 260) dX12_reckonAll_260 0 rfl ?_
              obtain ⟨o59, h⟩ := h
              refine m_lald (pc := 261) (v := (mem 623 (x3 + (-1)))) dX12_reckonAll_261 at623 o59.1 o59.2 rfl ?_
              refine m_invL (pc := 262) (mi' := mX12_reckon) (rest := [aI ((x3 + (-1)) - 1), aR 623]) [aI (mem 605 (((mem 603 34) + 98) + (2 * x4))), aL (mem 623 ((x3 + (-1)) - 1)), aL (mem 623 (x3 + (-1)))] dX12_reckonAll_262 at603 (by decide) rfl msX12_reckon mvX12_reckon lkX12_395 rfl (Nat.le_of_ble_eq_true rfl) (fun hn => CL_mono (h (aaI hn 1 rfl) (aaL hn 2 rfl) (aaL hn 3 rfl)) (fun r61 m60 h => ?_))
              refine v_last (pc := 265) dX12_reckonAll_265 at623 o58.1 o58.2 ?_
              refine v_aload_n (pc := 266) dX12_reckonAll_266 4 rfl ?_
              refine v_aload_n (pc := 267) dX12_reckonAll_267 4 rfl ?_
              refine m_getf (pc := 268) (t := 0) (v := (m60 603 38)) dX12_reckonAll_268 flX12_389 rfl at603 (aUp_rn (by omega)) ?_
              refine v_ifne (pc := 271) (tgt := 294) dX12_reckonAll_271 (by decide) (fun c1 => ?_) (fun c1 => ?_)
              · have h := h.1 c1
                refine v_iconst (pc := 294) dX12_reckonAll_294 (by decide) ?_
                refine v_goto (pc := 295) (tgt := 299) dX12_reckonAll_295 (by decide) ?_
                refine v_putf (pc := 299) dX12_reckonAll_299 flX12_389 ⟨_, _, rfl, Or.inl rfl⟩ rfl (by decide) (fun _ => by decide) (Or.inl fun _ => rfl) at603 ?_
                refine v_goto (pc := 302) (tgt := 367) dX12_reckonAll_302 (by decide) ?_
                exact VG_sub (al' := [(0, aR 603), (2, aI p1), (3, aI (x3 + (-1))), (4, aI (x4 + 1))]) [4, 5, 0, 1] rfl h
              · have h := h.2 c1
                refine v_aload_n (pc := 274) dX12_reckonAll_274 4 rfl ?_
                refine m_getfin (pc := 275) (v := 623) hE dX12_reckonAll_275 flX12_109 rfl at603 rfl ?_
                refine v_iload_n (pc := 278) dX12_reckonAll_278 0 rfl ?_
                refine v_iconst (pc := 279) dX12_reckonAll_279 (by decide) ?_
                refine m_isub (pc := 280) dX12_reckonAll_280 o57 ?_
                refine m_lald (pc := 281) (v := r61) dX12_reckonAll_281 at623 o58.1 o58.2 (aUp_re) ?_
                refine v_ldc2 (pc := 282) (n := (-1000000000)) dX12_reckonAll_282 cnX12_399 (by decide) ?_
                refine v_ldc2 (pc := 285) (n := 1000000000) dX12_reckonAll_285 cnX12_401 (by decide) ?_
                refine m_invSI (pc := 288) (mi' := mX12_in) (rest := [aR 603]) [aL r61, aL (-1000000000), aL 1000000000] dX12_reckonAll_288 msX12_in stX12_in lkX12_182 rfl (Nat.le_of_ble_eq_true rfl) (fun hn => CI_mono (h (aaL hn 0 rfl)) (fun r63 m62 h => ?_))
                refine v_ifne (pc := 291) (tgt := 298) dX12_reckonAll_291 (by decide) (fun c1 => ?_) (fun c1 => ?_)
                · have h := h.1 c1
                  refine v_iconst (pc := 298) dX12_reckonAll_298 (by decide) ?_
                  refine v_putf (pc := 299) dX12_reckonAll_299 flX12_389 ⟨_, _, rfl, Or.inl rfl⟩ rfl (by decide) (fun _ => by decide) (Or.inl fun _ => rfl) at603 ?_
                  refine v_goto (pc := 302) (tgt := 367) dX12_reckonAll_302 (by decide) ?_
                  exact VG_sub (al' := [(0, aR 603), (2, aI p1), (3, aI (x3 + (-1))), (4, aI (x4 + 1))]) [4, 5, 0, 1] rfl h
                · have h := h.2 c1
                  refine v_iconst (pc := 294) dX12_reckonAll_294 (by decide) ?_
                  refine v_goto (pc := 295) (tgt := 299) dX12_reckonAll_295 (by decide) ?_
                  refine v_putf (pc := 299) dX12_reckonAll_299 flX12_389 ⟨_, _, rfl, Or.inl rfl⟩ rfl (by decide) (fun _ => by decide) (Or.inl fun _ => rfl) at603 ?_
                  refine v_goto (pc := 302) (tgt := 367) dX12_reckonAll_302 (by decide) ?_
                  exact VG_sub (al' := [(0, aR 603), (2, aI p1), (3, aI (x3 + (-1))), (4, aI (x4 + 1))]) [4, 5, 0, 1] rfl h
          · have h := h.2 c1
            refine v_aload_n (pc := 107) dX12_reckonAll_107 3 rfl ?_
            refine m_getfin (pc := 108) (v := 623) hE dX12_reckonAll_108 flX12_109 rfl at603 rfl ?_
            refine v_iload_n (pc := 111) dX12_reckonAll_111 5 rfl ?_
            refine v_iload (pc := 112) dX12_reckonAll_112 2 rfl ?_
            refine v_ifne (pc := 114) (tgt := 123) dX12_reckonAll_114 (by decide) (fun c1 => ?_) (fun c1 => ?_)
            · have h := h.1 c1
              refine v_aload_n (pc := 123) dX12_reckonAll_123 3 rfl ?_
              refine m_getf (pc := 124) (t := 0) (v := (mem 603 20)) dX12_reckonAll_124 flX12_317 rfl at603 rfl ?_
              refine v_ifne (pc := 127) (tgt := 140) dX12_reckonAll_127 (by decide) (fun c1 => ?_) (fun c1 => ?_)
              · have h := h.1 c1
                refine v_iload (pc := 140) dX12_reckonAll_140 2 rfl ?_
                refine v_iconst (pc := 142) dX12_reckonAll_142 (by decide) ?_
                refine v_icmpge (pc := 143) (tgt := 156) dX12_reckonAll_143 (by decide) (fun c1 => ?_) (fun c1 => ?_)
                · have h := h.1 c1
                  refine v_iload (pc := 156) dX12_reckonAll_156 2 rfl ?_
                  refine v_iconst (pc := 158) dX12_reckonAll_158 (by decide) ?_
                  refine v_icmpne (pc := 159) (tgt := 189) dX12_reckonAll_159 (by decide) (fun c1 => ?_) (fun c1 => ?_)
                  · have h := h.1 c1
                    refine v_iload (pc := 189) dX12_reckonAll_189 2 rfl ?_
                    refine v_bipush (pc := 191) dX12_reckonAll_191 (by decide) ?_
                    refine v_icmpne (pc := 193) (tgt := 210) dX12_reckonAll_193 (by decide) (fun c1 => ?_) (fun c1 => ?_)
                    · have h := h.1 c1
                      refine v_aload_n (pc := 210) dX12_reckonAll_210 3 rfl ?_
                      refine m_getfin (pc := 211) (v := 605) hE dX12_reckonAll_211 flX12_13 rfl at603 rfl ?_
                      refine v_bipush (pc := 214) dX12_reckonAll_214 (by decide) ?_
                      refine v_iload (pc := 216) dX12_reckonAll_216 1 rfl ?_
                      obtain ⟨o64, h⟩ := h
                      refine m_iadd (pc := 218) dX12_reckonAll_218 o64 ?_
                      obtain ⟨o65, h⟩ := h
                      refine m_iald (pc := 219) (v := (mem 605 (48 + (mem 615 x4)))) dX12_reckonAll_219 at605 o65.1 o65.2 rfl ?_
                      refine v_i2l (pc := 220) dX12_reckonAll_220 ?_
                      obtain ⟨o66, h⟩ := h
                      refine v_last (pc := 221) dX12_reckonAll_221 at623 o66.1 o66.2 ?_
                      obtain ⟨o67, h⟩ := h
                      refine m_iinc (pc := 222) (al2 := [(3, aI (x3 + 1)), (4, aI (x4 + 1)), (6, aI (mem 615 x4)), (5, aI (mem 605 (((mem 603 34) + 98) + (2 * x4)))), (0, aR 603), (2, aI p1)]) dX12_reckonAll_222 5 rfl (by decide) o67 rfl ?_
                      refine v_goto (pc := 225) (tgt := 367) dX12_reckonAll_225 (by decide) ?_
                      exact VG_sub (al' := [(0, aR 603), (2, aI p1), (3, aI (x3 + 1)), (4, aI (x4 + 1))]) [4, 5, 0, 1] rfl h
                    · have h := h.2 c1
                      refine v_aload_n (pc := 196) dX12_reckonAll_196 3 rfl ?_
                      refine m_getfin (pc := 197) (v := 605) hE dX12_reckonAll_197 flX12_13 rfl at603 rfl ?_
                      refine v_bipush (pc := 200) dX12_reckonAll_200 (by decide) ?_
                      refine v_iload (pc := 202) dX12_reckonAll_202 1 rfl ?_
                      obtain ⟨o68, h⟩ := h
                      refine m_iadd (pc := 204) dX12_reckonAll_204 o68 ?_
                      obtain ⟨o69, h⟩ := h
                      refine m_iald (pc := 205) (v := (mem 605 (80 + (mem 615 x4)))) dX12_reckonAll_205 at605 o69.1 o69.2 rfl ?_
                      refine v_i2l (pc := 206) dX12_reckonAll_206 ?_
                      refine v_goto (pc := 207) (tgt := 221) dX12_reckonAll_207 (by decide) ?_
                      obtain ⟨o70, h⟩ := h
                      refine v_last (pc := 221) dX12_reckonAll_221 at623 o70.1 o70.2 ?_
                      obtain ⟨o71, h⟩ := h
                      refine m_iinc (pc := 222) (al2 := [(3, aI (x3 + 1)), (4, aI (x4 + 1)), (6, aI (mem 615 x4)), (5, aI (mem 605 (((mem 603 34) + 98) + (2 * x4)))), (0, aR 603), (2, aI p1)]) dX12_reckonAll_222 5 rfl (by decide) o71 rfl ?_
                      refine v_goto (pc := 225) (tgt := 367) dX12_reckonAll_225 (by decide) ?_
                      exact VG_sub (al' := [(0, aR 603), (2, aI p1), (3, aI (x3 + 1)), (4, aI (x4 + 1))]) [4, 5, 0, 1] rfl h
                  · have h := h.2 c1
                    refine v_aload_n (pc := 162) dX12_reckonAll_162 3 rfl ?_
                    refine v_iload (pc := 163) dX12_reckonAll_163 1 rfl ?_
                    refine m_invI (pc := 165) (mi' := mX12_isPlot) (rest := [aI x3, aR 623]) [aI (mem 615 x4)] dX12_reckonAll_165 at603 (by decide) rfl msX12_isPlot mvX12_isPlot lkX12_214 rfl (Nat.le_of_ble_eq_true rfl) (fun hn => CI_mono (h (aaI hn 1 rfl)) (fun r73 m72 h => ?_))
                    refine v_ifeq (pc := 168) (tgt := 184) dX12_reckonAll_168 (by decide) (fun c1 => ?_) (fun c1 => ?_)
                    · have h := h.1 c1
                      refine v_iconst (pc := 184) dX12_reckonAll_184 (by decide) ?_
                      refine v_i2l (pc := 185) dX12_reckonAll_185 ?_
                      refine v_goto (pc := 186) (tgt := 221) dX12_reckonAll_186 (by decide) ?_
                      obtain ⟨o74, h⟩ := h
                      refine v_last (pc := 221) dX12_reckonAll_221 at623 o74.1 o74.2 ?_
                      obtain ⟨o75, h⟩ := h
                      refine m_iinc (pc := 222) (al2 := [(3, aI (x3 + 1)), (4, aI (x4 + 1)), (6, aI (mem 615 x4)), (5, aI (mem 605 (((mem 603 34) + 98) + (2 * x4)))), (0, aR 603), (2, aI p1)]) dX12_reckonAll_222 5 rfl (by decide) o75 rfl ?_
                      refine v_goto (pc := 225) (tgt := 367) dX12_reckonAll_225 (by decide) ?_
                      exact VG_sub (al' := [(0, aR 603), (2, aI p1), (3, aI (x3 + 1)), (4, aI (x4 + 1))]) [4, 5, 0, 1] rfl h
                    · have h := h.2 c1
                      refine v_aload_n (pc := 171) dX12_reckonAll_171 3 rfl ?_
                      refine m_getfin (pc := 172) (v := 605) hE dX12_reckonAll_172 flX12_13 rfl at603 rfl ?_
                      refine v_bipush (pc := 175) dX12_reckonAll_175 (by decide) ?_
                      refine v_iload (pc := 177) dX12_reckonAll_177 1 rfl ?_
                      obtain ⟨o76, h⟩ := h
                      refine m_iadd (pc := 179) dX12_reckonAll_179 o76 ?_
                      obtain ⟨o77, h⟩ := h
                      refine m_iald (pc := 180) (v := (m72 605 (8 + (mem 615 x4)))) dX12_reckonAll_180 at605 o77.1 o77.2 rfl ?_
                      refine v_goto (pc := 181) (tgt := 185) dX12_reckonAll_181 (by decide) ?_
                      refine v_i2l (pc := 185) dX12_reckonAll_185 ?_
                      refine v_goto (pc := 186) (tgt := 221) dX12_reckonAll_186 (by decide) ?_
                      obtain ⟨o78, h⟩ := h
                      refine v_last (pc := 221) dX12_reckonAll_221 at623 o78.1 o78.2 ?_
                      obtain ⟨o79, h⟩ := h
                      refine m_iinc (pc := 222) (al2 := [(3, aI (x3 + 1)), (4, aI (x4 + 1)), (6, aI (mem 615 x4)), (5, aI (mem 605 (((mem 603 34) + 98) + (2 * x4)))), (0, aR 603), (2, aI p1)]) dX12_reckonAll_222 5 rfl (by decide) o79 rfl ?_
                      refine v_goto (pc := 225) (tgt := 367) dX12_reckonAll_225 (by decide) ?_
                      exact VG_sub (al' := [(0, aR 603), (2, aI p1), (3, aI (x3 + 1)), (4, aI (x4 + 1))]) [4, 5, 0, 1] rfl h
                · have h := h.2 c1
                  refine v_aload_n (pc := 146) dX12_reckonAll_146 3 rfl ?_
                  refine m_getfin (pc := 147) (v := 622) hE dX12_reckonAll_147 flX12_106 rfl at603 rfl ?_
                  refine v_iload (pc := 150) dX12_reckonAll_150 2 rfl ?_
                  obtain ⟨o80, h⟩ := h
                  refine m_lald (pc := 152) (v := (mem 622 (mem 605 (((mem 603 34) + 98) + (2 * x4))))) dX12_reckonAll_152 at622 o80.1 o80.2 rfl ?_
                  refine v_goto (pc := 153) (tgt := 221) dX12_reckonAll_153 (by decide) ?_
                  obtain ⟨o81, h⟩ := h
                  refine v_last (pc := 221) dX12_reckonAll_221 at623 o81.1 o81.2 ?_
                  obtain ⟨o82, h⟩ := h
                  refine m_iinc (pc := 222) (al2 := [(3, aI (x3 + 1)), (4, aI (x4 + 1)), (6, aI (mem 615 x4)), (5, aI (mem 605 (((mem 603 34) + 98) + (2 * x4)))), (0, aR 603), (2, aI p1)]) dX12_reckonAll_222 5 rfl (by decide) o82 rfl ?_
                  refine v_goto (pc := 225) (tgt := 367) dX12_reckonAll_225 (by decide) ?_
                  exact VG_sub (al' := [(0, aR 603), (2, aI p1), (3, aI (x3 + 1)), (4, aI (x4 + 1))]) [4, 5, 0, 1] rfl h
              · have h := h.2 c1
                refine v_aload_n (pc := 130) dX12_reckonAll_130 3 rfl ?_
                refine m_getfin (pc := 131) (v := 621) hE dX12_reckonAll_131 flX12_103 rfl at603 rfl ?_
                refine v_iload (pc := 134) dX12_reckonAll_134 2 rfl ?_
                obtain ⟨o83, h⟩ := h
                refine m_lald (pc := 136) (v := (mem 621 (mem 605 (((mem 603 34) + 98) + (2 * x4))))) dX12_reckonAll_136 at621 o83.1 o83.2 rfl ?_
                refine v_goto (pc := 137) (tgt := 221) dX12_reckonAll_137 (by decide) ?_
                obtain ⟨o84, h⟩ := h
                refine v_last (pc := 221) dX12_reckonAll_221 at623 o84.1 o84.2 ?_
                obtain ⟨o85, h⟩ := h
                refine m_iinc (pc := 222) (al2 := [(3, aI (x3 + 1)), (4, aI (x4 + 1)), (6, aI (mem 615 x4)), (5, aI (mem 605 (((mem 603 34) + 98) + (2 * x4)))), (0, aR 603), (2, aI p1)]) dX12_reckonAll_222 5 rfl (by decide) o85 rfl ?_
                refine v_goto (pc := 225) (tgt := 367) dX12_reckonAll_225 (by decide) ?_
                exact VG_sub (al' := [(0, aR 603), (2, aI p1), (3, aI (x3 + 1)), (4, aI (x4 + 1))]) [4, 5, 0, 1] rfl h
            · have h := h.2 c1
              refine v_iload (pc := 117) dX12_reckonAll_117 1 rfl ?_
              refine v_i2l (pc := 119) dX12_reckonAll_119 ?_
              refine v_goto (pc := 120) (tgt := 221) dX12_reckonAll_120 (by decide) ?_
              obtain ⟨o86, h⟩ := h
              refine v_last (pc := 221) dX12_reckonAll_221 at623 o86.1 o86.2 ?_
              obtain ⟨o87, h⟩ := h
              refine m_iinc (pc := 222) (al2 := [(3, aI (x3 + 1)), (4, aI (x4 + 1)), (6, aI (mem 615 x4)), (5, aI (mem 605 (((mem 603 34) + 98) + (2 * x4)))), (0, aR 603), (2, aI p1)]) dX12_reckonAll_222 5 rfl (by decide) o87 rfl ?_
              refine v_goto (pc := 225) (tgt := 367) dX12_reckonAll_225 (by decide) ?_
              exact VG_sub (al' := [(0, aR 603), (2, aI p1), (3, aI (x3 + 1)), (4, aI (x4 + 1))]) [4, 5, 0, 1] rfl h
      · have h := h.2 c1
        refine v_aload_n (pc := 30) dX12_reckonAll_30 0 rfl ?_
        refine m_getfin (pc := 31) (v := 614) hE dX12_reckonAll_31 flX12_45 rfl at603 rfl ?_
        refine v_iload (pc := 34) dX12_reckonAll_34 3 rfl ?_
        obtain ⟨o88, h⟩ := h
        refine m_iald (pc := 36) (v := (mem 614 x4)) dX12_reckonAll_36 at614 o88.1 o88.2 rfl ?_
        refine v_goto (pc := 37) (tgt := 57) dX12_reckonAll_37 (by decide) ?_
        refine v_istore (pc := 57) (al2 := [(5, aI (mem 614 x4)), (0, aR 603), (2, aI p1), (3, aI x3), (4, aI x4)]) dX12_reckonAll_57 (by decide) rfl ?_
        refine v_aload_n (pc := 59) dX12_reckonAll_59 1 rfl ?_
        refine m_getf (pc := 60) (t := 0) (v := (mem 603 20)) dX12_reckonAll_60 flX12_317 rfl at603 rfl ?_
        refine v_ifeq (pc := 63) (tgt := 76) dX12_reckonAll_63 (by decide) (fun c1 => ?_) (fun c1 => ?_)
        · have h := h.1 c1
          refine v_aload_n (pc := 76) dX12_reckonAll_76 1 rfl ?_
          refine m_getfin (pc := 77) (v := 605) hE dX12_reckonAll_77 flX12_13 rfl at603 rfl ?_
          refine v_aload_n (pc := 80) dX12_reckonAll_80 1 rfl ?_
          refine m_getf (pc := 81) (t := 0) (v := (mem 603 34)) dX12_reckonAll_81 flX12_392 rfl at603 rfl ?_
          refine v_bipush (pc := 84) dX12_reckonAll_84 (by decide) ?_
          obtain ⟨o89, h⟩ := h
          refine m_iadd (pc := 86) dX12_reckonAll_86 o89 ?_
          refine v_iconst (pc := 87) dX12_reckonAll_87 (by decide) ?_
          refine v_iload (pc := 88) dX12_reckonAll_88 4 rfl ?_
          obtain ⟨o90, h⟩ := h
          refine m_imul (pc := 90) dX12_reckonAll_90 o90 ?_
          obtain ⟨o91, h⟩ := h
          refine m_iadd (pc := 91) dX12_reckonAll_91 o91 ?_
          refine v_iconst (pc := 92) dX12_reckonAll_92 (by decide) ?_
          obtain ⟨o92, h⟩ := h
          refine m_iadd (pc := 93) dX12_reckonAll_93 o92 ?_
          obtain ⟨o93, h⟩ := h
          refine m_iald (pc := 94) (v := (mem 605 ((((mem 603 34) + 98) + (2 * x4)) + 1))) dX12_reckonAll_94 at605 o93.1 o93.2 rfl ?_
          refine v_istore (pc := 95) (al2 := [(6, aI (mem 605 ((((mem 603 34) + 98) + (2 * x4)) + 1))), (5, aI (mem 614 x4)), (0, aR 603), (2, aI p1), (3, aI x3), (4, aI x4)]) dX12_reckonAll_95 (by decide) rfl ?_
          obtain ⟨o94, h⟩ := h
          refine m_iinc (pc := 97) (al2 := [(4, aI (x4 + 1)), (6, aI (mem 605 ((((mem 603 34) + 98) + (2 * x4)) + 1))), (5, aI (mem 614 x4)), (0, aR 603), (2, aI p1), (3, aI x3)]) dX12_reckonAll_97 5 rfl (by decide) o94 rfl ?_
          refine v_iload (pc := 100) dX12_reckonAll_100 2 rfl ?_
          refine v_bipush (pc := 102) dX12_reckonAll_102 (by decide) ?_
          refine v_icmpge (pc := 104) (tgt := 228) dX12_reckonAll_104 (by decide) (fun c1 => ?_) (fun c1 => ?_)
          · have h := h.1 c1
            refine v_iload (pc := 228) dX12_reckonAll_228 2 rfl ?_
            refine v_bipush (pc := 230) dX12_reckonAll_230 (by decide) ?_
            refine v_icmpge (pc := 232) (tgt := 305) dX12_reckonAll_232 (by decide) (fun c1 => ?_) (fun c1 => ?_)
            · have h := h.1 c1
              refine v_iload (pc := 305) dX12_reckonAll_305 2 rfl ?_
              refine v_bipush (pc := 307) dX12_reckonAll_307 (by decide) ?_
              refine v_icmpne (pc := 309) (tgt := 333) dX12_reckonAll_309 (by decide) (fun c1 => ?_) (fun c1 => ?_)
              · have h := h.1 c1
                refine v_aload_n (pc := 333) dX12_reckonAll_333 3 rfl ?_
                refine m_getfin (pc := 334) (v := 623) hE dX12_reckonAll_334 flX12_109 rfl at603 rfl ?_
                refine v_iload_n (pc := 337) dX12_reckonAll_337 5 rfl ?_
                refine v_iconst (pc := 338) dX12_reckonAll_338 (by decide) ?_
                obtain ⟨o95, h⟩ := h
                refine m_isub (pc := 339) dX12_reckonAll_339 o95 ?_
                obtain ⟨o96, h⟩ := h
                refine m_lald (pc := 340) (v := (mem 623 (x3 - 1))) dX12_reckonAll_340 at623 o96.1 o96.2 rfl ?_
                refine v_iload (pc := 341) dX12_reckonAll_341 2 rfl ?_
                refine v_bipush (pc := 343) dX12_reckonAll_343 (by decide) ?_
                refine v_icmpne (pc := 345) (tgt := 352) dX12_reckonAll_345 (by decide) (fun c1 => ?_) (fun c1 => ?_)
                · have h := h.1 c1
                  refine v_lconst1 (pc := 352) dX12_reckonAll_352 ?_
                  refine v_lcmpne (pc := 353) (tgt := 364) dX12_reckonAll_353 dX12_reckonAll_354 (by decide) (fun c1 => ?_) (fun c1 => ?_)
                  · have h := h.1 c1
                    obtain ⟨o97, h⟩ := h
                    refine m_iinc (pc := 364) (al2 := [(3, aI (x3 + (-1))), (4, aI (x4 + 1)), (6, aI (mem 605 ((((mem 603 34) + 98) + (2 * x4)) + 1))), (5, aI (mem 614 x4)), (0, aR 603), (2, aI p1)]) dX12_reckonAll_364 5 rfl (by decide) o97 rfl ?_
                    exact VG_sub (al' := [(0, aR 603), (2, aI p1), (3, aI (x3 + (-1))), (4, aI (x4 + 1))]) [4, 5, 0, 1] rfl h
                  · have h := h.2 c1
                    refine v_iload (pc := 357) dX12_reckonAll_357 1 rfl ?_
                    refine v_istore (pc := 359) (al2 := [(4, aI (mem 605 ((((mem 603 34) + 98) + (2 * x4)) + 1))), (6, aI (mem 605 ((((mem 603 34) + 98) + (2 * x4)) + 1))), (5, aI (mem 614 x4)), (0, aR 603), (2, aI p1), (3, aI x3)]) dX12_reckonAll_359 (by decide) rfl ?_
                    refine v_goto (pc := 361) (tgt := 367) dX12_reckonAll_361 (by decide) ?_
                    exact VG_sub (al' := [(0, aR 603), (2, aI p1), (3, aI x3), (4, aI (mem 605 ((((mem 603 34) + 98) + (2 * x4)) + 1)))]) [3, 4, 5, 0] rfl h
                · have h := h.2 c1
                  refine v_lconst0 (pc := 348) dX12_reckonAll_348 ?_
                  refine v_goto (pc := 349) (tgt := 353) dX12_reckonAll_349 (by decide) ?_
                  refine v_lcmpne (pc := 353) (tgt := 364) dX12_reckonAll_353 dX12_reckonAll_354 (by decide) (fun c1 => ?_) (fun c1 => ?_)
                  · have h := h.1 c1
                    obtain ⟨o98, h⟩ := h
                    refine m_iinc (pc := 364) (al2 := [(3, aI (x3 + (-1))), (4, aI (x4 + 1)), (6, aI (mem 605 ((((mem 603 34) + 98) + (2 * x4)) + 1))), (5, aI (mem 614 x4)), (0, aR 603), (2, aI p1)]) dX12_reckonAll_364 5 rfl (by decide) o98 rfl ?_
                    exact VG_sub (al' := [(0, aR 603), (2, aI p1), (3, aI (x3 + (-1))), (4, aI (x4 + 1))]) [4, 5, 0, 1] rfl h
                  · have h := h.2 c1
                    refine v_iload (pc := 357) dX12_reckonAll_357 1 rfl ?_
                    refine v_istore (pc := 359) (al2 := [(4, aI (mem 605 ((((mem 603 34) + 98) + (2 * x4)) + 1))), (6, aI (mem 605 ((((mem 603 34) + 98) + (2 * x4)) + 1))), (5, aI (mem 614 x4)), (0, aR 603), (2, aI p1), (3, aI x3)]) dX12_reckonAll_359 (by decide) rfl ?_
                    refine v_goto (pc := 361) (tgt := 367) dX12_reckonAll_361 (by decide) ?_
                    exact VG_sub (al' := [(0, aR 603), (2, aI p1), (3, aI x3), (4, aI (mem 605 ((((mem 603 34) + 98) + (2 * x4)) + 1)))]) [3, 4, 5, 0] rfl h
              · have h := h.2 c1
                refine v_aload_n (pc := 312) dX12_reckonAll_312 3 rfl ?_
                refine m_getfin (pc := 313) (v := 623) hE dX12_reckonAll_313 flX12_109 rfl at603 rfl ?_
                refine v_iload_n (pc := 316) dX12_reckonAll_316 5 rfl ?_
                refine v_iconst (pc := 317) dX12_reckonAll_317 (by decide) ?_
                obtain ⟨o99, h⟩ := h
                refine m_isub (pc := 318) dX12_reckonAll_318 o99 ?_
                refine v_lconst1 (pc := 319) dX12_reckonAll_319 ?_
                refine v_aload_n (pc := 320) dX12_reckonAll_320 3 rfl ?_
                refine m_getfin (pc := 321) (v := 623) hE dX12_reckonAll_321 flX12_109 rfl at603 rfl ?_
                refine v_iload_n (pc := 324) dX12_reckonAll_324 5 rfl ?_
                refine v_iconst (pc := 325) dX12_reckonAll_325 (by decide) ?_
                refine m_isub (pc := 326) dX12_reckonAll_326 o99 ?_
                obtain ⟨o100, h⟩ := h
                refine m_lald (pc := 327) (v := (mem 623 (x3 - 1))) dX12_reckonAll_327 at623 o100.1 o100.2 rfl ?_
                obtain ⟨o101, h⟩ := h
                refine m_lsub (pc := 328) dX12_reckonAll_328 o101 ?_
                refine v_last (pc := 329) dX12_reckonAll_329 at623 o100.1 o100.2 ?_
                refine v_goto (pc := 330) (tgt := 367) dX12_reckonAll_330 (by decide) ?_
                exact VG_sub (al' := [(0, aR 603), (2, aI p1), (3, aI x3), (4, aI (x4 + 1))]) [3, 4, 5, 0] rfl h
            · have h := h.2 c1
              obtain ⟨o102, h⟩ := h
              refine m_iinc (pc := 235) (al2 := [(3, aI (x3 + (-1))), (4, aI (x4 + 1)), (6, aI (mem 605 ((((mem 603 34) + 98) + (2 * x4)) + 1))), (5, aI (mem 614 x4)), (0, aR 603), (2, aI p1)]) dX12_reckonAll_235 5 rfl (by decide) o102 rfl ?_
              refine v_aload_n (pc := 238) dX12_reckonAll_238 4 rfl ?_
              refine m_getfin (pc := 239) (v := 623) hE dX12_reckonAll_239 flX12_109 rfl at603 rfl ?_
              refine v_iload_n (pc := 242) dX12_reckonAll_242 0 rfl ?_
              refine v_iconst (pc := 243) dX12_reckonAll_243 (by decide) ?_
              obtain ⟨o103, h⟩ := h
              refine m_isub (pc := 244) dX12_reckonAll_244 o103 ?_
              refine v_aload_n (pc := 245) dX12_reckonAll_245 4 rfl ?_
              refine v_iload (pc := 246) dX12_reckonAll_246 3 rfl ?_
              refine v_aload_n (pc := 248) dX12_reckonAll_248 4 rfl ?_
              refine m_getfin (pc := 249) (v := 623) hE dX12_reckonAll_249 flX12_109 rfl at603 rfl ?_
              refine v_iload_n (pc := 252) dX12_reckonAll_252 0 rfl ?_
              refine v_iconst (pc := 253) dX12_reckonAll_253 (by decide) ?_
              refine m_isub (pc := 254) dX12_reckonAll_254 o103 ?_
              obtain ⟨o104, h⟩ := h
              refine m_lald (pc := 255) (v := (mem 623 ((x3 + (-1)) - 1))) dX12_reckonAll_255 at623 o104.1 o104.2 rfl ?_
              refine v_aload_n (pc := 256) dX12_reckonAll_256 4 rfl ?_
              refine m_getfin (pc := 257) (v := 623) hE dX12_reckonAll_257 flX12_109 rfl at603 rfl ?_
              refine v_iload_n (pc := 260) dX12_reckonAll_260 0 rfl ?_
              obtain ⟨o105, h⟩ := h
              refine m_lald (pc := 261) (v := (mem 623 (x3 + (-1)))) dX12_reckonAll_261 at623 o105.1 o105.2 rfl ?_
              refine m_invL (pc := 262) (mi' := mX12_reckon) (rest := [aI ((x3 + (-1)) - 1), aR 623]) [aI (mem 614 x4), aL (mem 623 ((x3 + (-1)) - 1)), aL (mem 623 (x3 + (-1)))] dX12_reckonAll_262 at603 (by decide) rfl msX12_reckon mvX12_reckon lkX12_395 rfl (Nat.le_of_ble_eq_true rfl) (fun hn => CL_mono (h (aaI hn 1 rfl) (aaL hn 2 rfl) (aaL hn 3 rfl)) (fun r107 m106 h => ?_))
              refine v_last (pc := 265) dX12_reckonAll_265 at623 o104.1 o104.2 ?_
              refine v_aload_n (pc := 266) dX12_reckonAll_266 4 rfl ?_
              refine v_aload_n (pc := 267) dX12_reckonAll_267 4 rfl ?_
              refine m_getf (pc := 268) (t := 0) (v := (m106 603 38)) dX12_reckonAll_268 flX12_389 rfl at603 (aUp_rn (by omega)) ?_
              refine v_ifne (pc := 271) (tgt := 294) dX12_reckonAll_271 (by decide) (fun c1 => ?_) (fun c1 => ?_)
              · have h := h.1 c1
                refine v_iconst (pc := 294) dX12_reckonAll_294 (by decide) ?_
                refine v_goto (pc := 295) (tgt := 299) dX12_reckonAll_295 (by decide) ?_
                refine v_putf (pc := 299) dX12_reckonAll_299 flX12_389 ⟨_, _, rfl, Or.inl rfl⟩ rfl (by decide) (fun _ => by decide) (Or.inl fun _ => rfl) at603 ?_
                refine v_goto (pc := 302) (tgt := 367) dX12_reckonAll_302 (by decide) ?_
                exact VG_sub (al' := [(0, aR 603), (2, aI p1), (3, aI (x3 + (-1))), (4, aI (x4 + 1))]) [4, 5, 0, 1] rfl h
              · have h := h.2 c1
                refine v_aload_n (pc := 274) dX12_reckonAll_274 4 rfl ?_
                refine m_getfin (pc := 275) (v := 623) hE dX12_reckonAll_275 flX12_109 rfl at603 rfl ?_
                refine v_iload_n (pc := 278) dX12_reckonAll_278 0 rfl ?_
                refine v_iconst (pc := 279) dX12_reckonAll_279 (by decide) ?_
                refine m_isub (pc := 280) dX12_reckonAll_280 o103 ?_
                refine m_lald (pc := 281) (v := r107) dX12_reckonAll_281 at623 o104.1 o104.2 (aUp_re) ?_
                refine v_ldc2 (pc := 282) (n := (-1000000000)) dX12_reckonAll_282 cnX12_399 (by decide) ?_
                refine v_ldc2 (pc := 285) (n := 1000000000) dX12_reckonAll_285 cnX12_401 (by decide) ?_
                refine m_invSI (pc := 288) (mi' := mX12_in) (rest := [aR 603]) [aL r107, aL (-1000000000), aL 1000000000] dX12_reckonAll_288 msX12_in stX12_in lkX12_182 rfl (Nat.le_of_ble_eq_true rfl) (fun hn => CI_mono (h (aaL hn 0 rfl)) (fun r109 m108 h => ?_))
                refine v_ifne (pc := 291) (tgt := 298) dX12_reckonAll_291 (by decide) (fun c1 => ?_) (fun c1 => ?_)
                · have h := h.1 c1
                  refine v_iconst (pc := 298) dX12_reckonAll_298 (by decide) ?_
                  refine v_putf (pc := 299) dX12_reckonAll_299 flX12_389 ⟨_, _, rfl, Or.inl rfl⟩ rfl (by decide) (fun _ => by decide) (Or.inl fun _ => rfl) at603 ?_
                  refine v_goto (pc := 302) (tgt := 367) dX12_reckonAll_302 (by decide) ?_
                  exact VG_sub (al' := [(0, aR 603), (2, aI p1), (3, aI (x3 + (-1))), (4, aI (x4 + 1))]) [4, 5, 0, 1] rfl h
                · have h := h.2 c1
                  refine v_iconst (pc := 294) dX12_reckonAll_294 (by decide) ?_
                  refine v_goto (pc := 295) (tgt := 299) dX12_reckonAll_295 (by decide) ?_
                  refine v_putf (pc := 299) dX12_reckonAll_299 flX12_389 ⟨_, _, rfl, Or.inl rfl⟩ rfl (by decide) (fun _ => by decide) (Or.inl fun _ => rfl) at603 ?_
                  refine v_goto (pc := 302) (tgt := 367) dX12_reckonAll_302 (by decide) ?_
                  exact VG_sub (al' := [(0, aR 603), (2, aI p1), (3, aI (x3 + (-1))), (4, aI (x4 + 1))]) [4, 5, 0, 1] rfl h
          · have h := h.2 c1
            refine v_aload_n (pc := 107) dX12_reckonAll_107 3 rfl ?_
            refine m_getfin (pc := 108) (v := 623) hE dX12_reckonAll_108 flX12_109 rfl at603 rfl ?_
            refine v_iload_n (pc := 111) dX12_reckonAll_111 5 rfl ?_
            refine v_iload (pc := 112) dX12_reckonAll_112 2 rfl ?_
            refine v_ifne (pc := 114) (tgt := 123) dX12_reckonAll_114 (by decide) (fun c1 => ?_) (fun c1 => ?_)
            · have h := h.1 c1
              refine v_aload_n (pc := 123) dX12_reckonAll_123 3 rfl ?_
              refine m_getf (pc := 124) (t := 0) (v := (mem 603 20)) dX12_reckonAll_124 flX12_317 rfl at603 rfl ?_
              refine v_ifne (pc := 127) (tgt := 140) dX12_reckonAll_127 (by decide) (fun c1 => ?_) (fun c1 => ?_)
              · have h := h.1 c1
                refine v_iload (pc := 140) dX12_reckonAll_140 2 rfl ?_
                refine v_iconst (pc := 142) dX12_reckonAll_142 (by decide) ?_
                refine v_icmpge (pc := 143) (tgt := 156) dX12_reckonAll_143 (by decide) (fun c1 => ?_) (fun c1 => ?_)
                · have h := h.1 c1
                  refine v_iload (pc := 156) dX12_reckonAll_156 2 rfl ?_
                  refine v_iconst (pc := 158) dX12_reckonAll_158 (by decide) ?_
                  refine v_icmpne (pc := 159) (tgt := 189) dX12_reckonAll_159 (by decide) (fun c1 => ?_) (fun c1 => ?_)
                  · have h := h.1 c1
                    refine v_iload (pc := 189) dX12_reckonAll_189 2 rfl ?_
                    refine v_bipush (pc := 191) dX12_reckonAll_191 (by decide) ?_
                    refine v_icmpne (pc := 193) (tgt := 210) dX12_reckonAll_193 (by decide) (fun c1 => ?_) (fun c1 => ?_)
                    · have h := h.1 c1
                      refine v_aload_n (pc := 210) dX12_reckonAll_210 3 rfl ?_
                      refine m_getfin (pc := 211) (v := 605) hE dX12_reckonAll_211 flX12_13 rfl at603 rfl ?_
                      refine v_bipush (pc := 214) dX12_reckonAll_214 (by decide) ?_
                      refine v_iload (pc := 216) dX12_reckonAll_216 1 rfl ?_
                      obtain ⟨o110, h⟩ := h
                      refine m_iadd (pc := 218) dX12_reckonAll_218 o110 ?_
                      obtain ⟨o111, h⟩ := h
                      refine m_iald (pc := 219) (v := (mem 605 (48 + (mem 605 ((((mem 603 34) + 98) + (2 * x4)) + 1))))) dX12_reckonAll_219 at605 o111.1 o111.2 rfl ?_
                      refine v_i2l (pc := 220) dX12_reckonAll_220 ?_
                      obtain ⟨o112, h⟩ := h
                      refine v_last (pc := 221) dX12_reckonAll_221 at623 o112.1 o112.2 ?_
                      obtain ⟨o113, h⟩ := h
                      refine m_iinc (pc := 222) (al2 := [(3, aI (x3 + 1)), (4, aI (x4 + 1)), (6, aI (mem 605 ((((mem 603 34) + 98) + (2 * x4)) + 1))), (5, aI (mem 614 x4)), (0, aR 603), (2, aI p1)]) dX12_reckonAll_222 5 rfl (by decide) o113 rfl ?_
                      refine v_goto (pc := 225) (tgt := 367) dX12_reckonAll_225 (by decide) ?_
                      exact VG_sub (al' := [(0, aR 603), (2, aI p1), (3, aI (x3 + 1)), (4, aI (x4 + 1))]) [4, 5, 0, 1] rfl h
                    · have h := h.2 c1
                      refine v_aload_n (pc := 196) dX12_reckonAll_196 3 rfl ?_
                      refine m_getfin (pc := 197) (v := 605) hE dX12_reckonAll_197 flX12_13 rfl at603 rfl ?_
                      refine v_bipush (pc := 200) dX12_reckonAll_200 (by decide) ?_
                      refine v_iload (pc := 202) dX12_reckonAll_202 1 rfl ?_
                      obtain ⟨o114, h⟩ := h
                      refine m_iadd (pc := 204) dX12_reckonAll_204 o114 ?_
                      obtain ⟨o115, h⟩ := h
                      refine m_iald (pc := 205) (v := (mem 605 (80 + (mem 605 ((((mem 603 34) + 98) + (2 * x4)) + 1))))) dX12_reckonAll_205 at605 o115.1 o115.2 rfl ?_
                      refine v_i2l (pc := 206) dX12_reckonAll_206 ?_
                      refine v_goto (pc := 207) (tgt := 221) dX12_reckonAll_207 (by decide) ?_
                      obtain ⟨o116, h⟩ := h
                      refine v_last (pc := 221) dX12_reckonAll_221 at623 o116.1 o116.2 ?_
                      obtain ⟨o117, h⟩ := h
                      refine m_iinc (pc := 222) (al2 := [(3, aI (x3 + 1)), (4, aI (x4 + 1)), (6, aI (mem 605 ((((mem 603 34) + 98) + (2 * x4)) + 1))), (5, aI (mem 614 x4)), (0, aR 603), (2, aI p1)]) dX12_reckonAll_222 5 rfl (by decide) o117 rfl ?_
                      refine v_goto (pc := 225) (tgt := 367) dX12_reckonAll_225 (by decide) ?_
                      exact VG_sub (al' := [(0, aR 603), (2, aI p1), (3, aI (x3 + 1)), (4, aI (x4 + 1))]) [4, 5, 0, 1] rfl h
                  · have h := h.2 c1
                    refine v_aload_n (pc := 162) dX12_reckonAll_162 3 rfl ?_
                    refine v_iload (pc := 163) dX12_reckonAll_163 1 rfl ?_
                    refine m_invI (pc := 165) (mi' := mX12_isPlot) (rest := [aI x3, aR 623]) [aI (mem 605 ((((mem 603 34) + 98) + (2 * x4)) + 1))] dX12_reckonAll_165 at603 (by decide) rfl msX12_isPlot mvX12_isPlot lkX12_214 rfl (Nat.le_of_ble_eq_true rfl) (fun hn => CI_mono (h (aaI hn 1 rfl)) (fun r119 m118 h => ?_))
                    refine v_ifeq (pc := 168) (tgt := 184) dX12_reckonAll_168 (by decide) (fun c1 => ?_) (fun c1 => ?_)
                    · have h := h.1 c1
                      refine v_iconst (pc := 184) dX12_reckonAll_184 (by decide) ?_
                      refine v_i2l (pc := 185) dX12_reckonAll_185 ?_
                      refine v_goto (pc := 186) (tgt := 221) dX12_reckonAll_186 (by decide) ?_
                      obtain ⟨o120, h⟩ := h
                      refine v_last (pc := 221) dX12_reckonAll_221 at623 o120.1 o120.2 ?_
                      obtain ⟨o121, h⟩ := h
                      refine m_iinc (pc := 222) (al2 := [(3, aI (x3 + 1)), (4, aI (x4 + 1)), (6, aI (mem 605 ((((mem 603 34) + 98) + (2 * x4)) + 1))), (5, aI (mem 614 x4)), (0, aR 603), (2, aI p1)]) dX12_reckonAll_222 5 rfl (by decide) o121 rfl ?_
                      refine v_goto (pc := 225) (tgt := 367) dX12_reckonAll_225 (by decide) ?_
                      exact VG_sub (al' := [(0, aR 603), (2, aI p1), (3, aI (x3 + 1)), (4, aI (x4 + 1))]) [4, 5, 0, 1] rfl h
                    · have h := h.2 c1
                      refine v_aload_n (pc := 171) dX12_reckonAll_171 3 rfl ?_
                      refine m_getfin (pc := 172) (v := 605) hE dX12_reckonAll_172 flX12_13 rfl at603 rfl ?_
                      refine v_bipush (pc := 175) dX12_reckonAll_175 (by decide) ?_
                      refine v_iload (pc := 177) dX12_reckonAll_177 1 rfl ?_
                      obtain ⟨o122, h⟩ := h
                      refine m_iadd (pc := 179) dX12_reckonAll_179 o122 ?_
                      obtain ⟨o123, h⟩ := h
                      refine m_iald (pc := 180) (v := (m118 605 (8 + (mem 605 ((((mem 603 34) + 98) + (2 * x4)) + 1))))) dX12_reckonAll_180 at605 o123.1 o123.2 rfl ?_
                      refine v_goto (pc := 181) (tgt := 185) dX12_reckonAll_181 (by decide) ?_
                      refine v_i2l (pc := 185) dX12_reckonAll_185 ?_
                      refine v_goto (pc := 186) (tgt := 221) dX12_reckonAll_186 (by decide) ?_
                      obtain ⟨o124, h⟩ := h
                      refine v_last (pc := 221) dX12_reckonAll_221 at623 o124.1 o124.2 ?_
                      obtain ⟨o125, h⟩ := h
                      refine m_iinc (pc := 222) (al2 := [(3, aI (x3 + 1)), (4, aI (x4 + 1)), (6, aI (mem 605 ((((mem 603 34) + 98) + (2 * x4)) + 1))), (5, aI (mem 614 x4)), (0, aR 603), (2, aI p1)]) dX12_reckonAll_222 5 rfl (by decide) o125 rfl ?_
                      refine v_goto (pc := 225) (tgt := 367) dX12_reckonAll_225 (by decide) ?_
                      exact VG_sub (al' := [(0, aR 603), (2, aI p1), (3, aI (x3 + 1)), (4, aI (x4 + 1))]) [4, 5, 0, 1] rfl h
                · have h := h.2 c1
                  refine v_aload_n (pc := 146) dX12_reckonAll_146 3 rfl ?_
                  refine m_getfin (pc := 147) (v := 622) hE dX12_reckonAll_147 flX12_106 rfl at603 rfl ?_
                  refine v_iload (pc := 150) dX12_reckonAll_150 2 rfl ?_
                  obtain ⟨o126, h⟩ := h
                  refine m_lald (pc := 152) (v := (mem 622 (mem 614 x4))) dX12_reckonAll_152 at622 o126.1 o126.2 rfl ?_
                  refine v_goto (pc := 153) (tgt := 221) dX12_reckonAll_153 (by decide) ?_
                  obtain ⟨o127, h⟩ := h
                  refine v_last (pc := 221) dX12_reckonAll_221 at623 o127.1 o127.2 ?_
                  obtain ⟨o128, h⟩ := h
                  refine m_iinc (pc := 222) (al2 := [(3, aI (x3 + 1)), (4, aI (x4 + 1)), (6, aI (mem 605 ((((mem 603 34) + 98) + (2 * x4)) + 1))), (5, aI (mem 614 x4)), (0, aR 603), (2, aI p1)]) dX12_reckonAll_222 5 rfl (by decide) o128 rfl ?_
                  refine v_goto (pc := 225) (tgt := 367) dX12_reckonAll_225 (by decide) ?_
                  exact VG_sub (al' := [(0, aR 603), (2, aI p1), (3, aI (x3 + 1)), (4, aI (x4 + 1))]) [4, 5, 0, 1] rfl h
              · have h := h.2 c1
                refine v_aload_n (pc := 130) dX12_reckonAll_130 3 rfl ?_
                refine m_getfin (pc := 131) (v := 621) hE dX12_reckonAll_131 flX12_103 rfl at603 rfl ?_
                refine v_iload (pc := 134) dX12_reckonAll_134 2 rfl ?_
                obtain ⟨o129, h⟩ := h
                refine m_lald (pc := 136) (v := (mem 621 (mem 614 x4))) dX12_reckonAll_136 at621 o129.1 o129.2 rfl ?_
                refine v_goto (pc := 137) (tgt := 221) dX12_reckonAll_137 (by decide) ?_
                obtain ⟨o130, h⟩ := h
                refine v_last (pc := 221) dX12_reckonAll_221 at623 o130.1 o130.2 ?_
                obtain ⟨o131, h⟩ := h
                refine m_iinc (pc := 222) (al2 := [(3, aI (x3 + 1)), (4, aI (x4 + 1)), (6, aI (mem 605 ((((mem 603 34) + 98) + (2 * x4)) + 1))), (5, aI (mem 614 x4)), (0, aR 603), (2, aI p1)]) dX12_reckonAll_222 5 rfl (by decide) o131 rfl ?_
                refine v_goto (pc := 225) (tgt := 367) dX12_reckonAll_225 (by decide) ?_
                exact VG_sub (al' := [(0, aR 603), (2, aI p1), (3, aI (x3 + 1)), (4, aI (x4 + 1))]) [4, 5, 0, 1] rfl h
            · have h := h.2 c1
              refine v_iload (pc := 117) dX12_reckonAll_117 1 rfl ?_
              refine v_i2l (pc := 119) dX12_reckonAll_119 ?_
              refine v_goto (pc := 120) (tgt := 221) dX12_reckonAll_120 (by decide) ?_
              obtain ⟨o132, h⟩ := h
              refine v_last (pc := 221) dX12_reckonAll_221 at623 o132.1 o132.2 ?_
              obtain ⟨o133, h⟩ := h
              refine m_iinc (pc := 222) (al2 := [(3, aI (x3 + 1)), (4, aI (x4 + 1)), (6, aI (mem 605 ((((mem 603 34) + 98) + (2 * x4)) + 1))), (5, aI (mem 614 x4)), (0, aR 603), (2, aI p1)]) dX12_reckonAll_222 5 rfl (by decide) o133 rfl ?_
              refine v_goto (pc := 225) (tgt := 367) dX12_reckonAll_225 (by decide) ?_
              exact VG_sub (al' := [(0, aR 603), (2, aI p1), (3, aI (x3 + 1)), (4, aI (x4 + 1))]) [4, 5, 0, 1] rfl h
        · have h := h.2 c1
          refine v_aload_n (pc := 66) dX12_reckonAll_66 1 rfl ?_
          refine m_getfin (pc := 67) (v := 615) hE dX12_reckonAll_67 flX12_48 rfl at603 rfl ?_
          refine v_iload (pc := 70) dX12_reckonAll_70 4 rfl ?_
          refine m_iald (pc := 72) (v := (mem 615 x4)) dX12_reckonAll_72 at615 o88.1 o88.2 rfl ?_
          refine v_goto (pc := 73) (tgt := 95) dX12_reckonAll_73 (by decide) ?_
          refine v_istore (pc := 95) (al2 := [(6, aI (mem 615 x4)), (5, aI (mem 614 x4)), (0, aR 603), (2, aI p1), (3, aI x3), (4, aI x4)]) dX12_reckonAll_95 (by decide) rfl ?_
          obtain ⟨o134, h⟩ := h
          refine m_iinc (pc := 97) (al2 := [(4, aI (x4 + 1)), (6, aI (mem 615 x4)), (5, aI (mem 614 x4)), (0, aR 603), (2, aI p1), (3, aI x3)]) dX12_reckonAll_97 5 rfl (by decide) o134 rfl ?_
          refine v_iload (pc := 100) dX12_reckonAll_100 2 rfl ?_
          refine v_bipush (pc := 102) dX12_reckonAll_102 (by decide) ?_
          refine v_icmpge (pc := 104) (tgt := 228) dX12_reckonAll_104 (by decide) (fun c1 => ?_) (fun c1 => ?_)
          · have h := h.1 c1
            refine v_iload (pc := 228) dX12_reckonAll_228 2 rfl ?_
            refine v_bipush (pc := 230) dX12_reckonAll_230 (by decide) ?_
            refine v_icmpge (pc := 232) (tgt := 305) dX12_reckonAll_232 (by decide) (fun c1 => ?_) (fun c1 => ?_)
            · have h := h.1 c1
              refine v_iload (pc := 305) dX12_reckonAll_305 2 rfl ?_
              refine v_bipush (pc := 307) dX12_reckonAll_307 (by decide) ?_
              refine v_icmpne (pc := 309) (tgt := 333) dX12_reckonAll_309 (by decide) (fun c1 => ?_) (fun c1 => ?_)
              · have h := h.1 c1
                refine v_aload_n (pc := 333) dX12_reckonAll_333 3 rfl ?_
                refine m_getfin (pc := 334) (v := 623) hE dX12_reckonAll_334 flX12_109 rfl at603 rfl ?_
                refine v_iload_n (pc := 337) dX12_reckonAll_337 5 rfl ?_
                refine v_iconst (pc := 338) dX12_reckonAll_338 (by decide) ?_
                obtain ⟨o135, h⟩ := h
                refine m_isub (pc := 339) dX12_reckonAll_339 o135 ?_
                obtain ⟨o136, h⟩ := h
                refine m_lald (pc := 340) (v := (mem 623 (x3 - 1))) dX12_reckonAll_340 at623 o136.1 o136.2 rfl ?_
                refine v_iload (pc := 341) dX12_reckonAll_341 2 rfl ?_
                refine v_bipush (pc := 343) dX12_reckonAll_343 (by decide) ?_
                refine v_icmpne (pc := 345) (tgt := 352) dX12_reckonAll_345 (by decide) (fun c1 => ?_) (fun c1 => ?_)
                · have h := h.1 c1
                  refine v_lconst1 (pc := 352) dX12_reckonAll_352 ?_
                  refine v_lcmpne (pc := 353) (tgt := 364) dX12_reckonAll_353 dX12_reckonAll_354 (by decide) (fun c1 => ?_) (fun c1 => ?_)
                  · have h := h.1 c1
                    obtain ⟨o137, h⟩ := h
                    refine m_iinc (pc := 364) (al2 := [(3, aI (x3 + (-1))), (4, aI (x4 + 1)), (6, aI (mem 615 x4)), (5, aI (mem 614 x4)), (0, aR 603), (2, aI p1)]) dX12_reckonAll_364 5 rfl (by decide) o137 rfl ?_
                    exact VG_sub (al' := [(0, aR 603), (2, aI p1), (3, aI (x3 + (-1))), (4, aI (x4 + 1))]) [4, 5, 0, 1] rfl h
                  · have h := h.2 c1
                    refine v_iload (pc := 357) dX12_reckonAll_357 1 rfl ?_
                    refine v_istore (pc := 359) (al2 := [(4, aI (mem 615 x4)), (6, aI (mem 615 x4)), (5, aI (mem 614 x4)), (0, aR 603), (2, aI p1), (3, aI x3)]) dX12_reckonAll_359 (by decide) rfl ?_
                    refine v_goto (pc := 361) (tgt := 367) dX12_reckonAll_361 (by decide) ?_
                    exact VG_sub (al' := [(0, aR 603), (2, aI p1), (3, aI x3), (4, aI (mem 615 x4))]) [3, 4, 5, 0] rfl h
                · have h := h.2 c1
                  refine v_lconst0 (pc := 348) dX12_reckonAll_348 ?_
                  refine v_goto (pc := 349) (tgt := 353) dX12_reckonAll_349 (by decide) ?_
                  refine v_lcmpne (pc := 353) (tgt := 364) dX12_reckonAll_353 dX12_reckonAll_354 (by decide) (fun c1 => ?_) (fun c1 => ?_)
                  · have h := h.1 c1
                    obtain ⟨o138, h⟩ := h
                    refine m_iinc (pc := 364) (al2 := [(3, aI (x3 + (-1))), (4, aI (x4 + 1)), (6, aI (mem 615 x4)), (5, aI (mem 614 x4)), (0, aR 603), (2, aI p1)]) dX12_reckonAll_364 5 rfl (by decide) o138 rfl ?_
                    exact VG_sub (al' := [(0, aR 603), (2, aI p1), (3, aI (x3 + (-1))), (4, aI (x4 + 1))]) [4, 5, 0, 1] rfl h
                  · have h := h.2 c1
                    refine v_iload (pc := 357) dX12_reckonAll_357 1 rfl ?_
                    refine v_istore (pc := 359) (al2 := [(4, aI (mem 615 x4)), (6, aI (mem 615 x4)), (5, aI (mem 614 x4)), (0, aR 603), (2, aI p1), (3, aI x3)]) dX12_reckonAll_359 (by decide) rfl ?_
                    refine v_goto (pc := 361) (tgt := 367) dX12_reckonAll_361 (by decide) ?_
                    exact VG_sub (al' := [(0, aR 603), (2, aI p1), (3, aI x3), (4, aI (mem 615 x4))]) [3, 4, 5, 0] rfl h
              · have h := h.2 c1
                refine v_aload_n (pc := 312) dX12_reckonAll_312 3 rfl ?_
                refine m_getfin (pc := 313) (v := 623) hE dX12_reckonAll_313 flX12_109 rfl at603 rfl ?_
                refine v_iload_n (pc := 316) dX12_reckonAll_316 5 rfl ?_
                refine v_iconst (pc := 317) dX12_reckonAll_317 (by decide) ?_
                obtain ⟨o139, h⟩ := h
                refine m_isub (pc := 318) dX12_reckonAll_318 o139 ?_
                refine v_lconst1 (pc := 319) dX12_reckonAll_319 ?_
                refine v_aload_n (pc := 320) dX12_reckonAll_320 3 rfl ?_
                refine m_getfin (pc := 321) (v := 623) hE dX12_reckonAll_321 flX12_109 rfl at603 rfl ?_
                refine v_iload_n (pc := 324) dX12_reckonAll_324 5 rfl ?_
                refine v_iconst (pc := 325) dX12_reckonAll_325 (by decide) ?_
                refine m_isub (pc := 326) dX12_reckonAll_326 o139 ?_
                obtain ⟨o140, h⟩ := h
                refine m_lald (pc := 327) (v := (mem 623 (x3 - 1))) dX12_reckonAll_327 at623 o140.1 o140.2 rfl ?_
                obtain ⟨o141, h⟩ := h
                refine m_lsub (pc := 328) dX12_reckonAll_328 o141 ?_
                refine v_last (pc := 329) dX12_reckonAll_329 at623 o140.1 o140.2 ?_
                refine v_goto (pc := 330) (tgt := 367) dX12_reckonAll_330 (by decide) ?_
                exact VG_sub (al' := [(0, aR 603), (2, aI p1), (3, aI x3), (4, aI (x4 + 1))]) [3, 4, 5, 0] rfl h
            · have h := h.2 c1
              obtain ⟨o142, h⟩ := h
              refine m_iinc (pc := 235) (al2 := [(3, aI (x3 + (-1))), (4, aI (x4 + 1)), (6, aI (mem 615 x4)), (5, aI (mem 614 x4)), (0, aR 603), (2, aI p1)]) dX12_reckonAll_235 5 rfl (by decide) o142 rfl ?_
              refine v_aload_n (pc := 238) dX12_reckonAll_238 4 rfl ?_
              refine m_getfin (pc := 239) (v := 623) hE dX12_reckonAll_239 flX12_109 rfl at603 rfl ?_
              refine v_iload_n (pc := 242) dX12_reckonAll_242 0 rfl ?_
              refine v_iconst (pc := 243) dX12_reckonAll_243 (by decide) ?_
              obtain ⟨o143, h⟩ := h
              refine m_isub (pc := 244) dX12_reckonAll_244 o143 ?_
              refine v_aload_n (pc := 245) dX12_reckonAll_245 4 rfl ?_
              refine v_iload (pc := 246) dX12_reckonAll_246 3 rfl ?_
              refine v_aload_n (pc := 248) dX12_reckonAll_248 4 rfl ?_
              refine m_getfin (pc := 249) (v := 623) hE dX12_reckonAll_249 flX12_109 rfl at603 rfl ?_
              refine v_iload_n (pc := 252) dX12_reckonAll_252 0 rfl ?_
              refine v_iconst (pc := 253) dX12_reckonAll_253 (by decide) ?_
              refine m_isub (pc := 254) dX12_reckonAll_254 o143 ?_
              obtain ⟨o144, h⟩ := h
              refine m_lald (pc := 255) (v := (mem 623 ((x3 + (-1)) - 1))) dX12_reckonAll_255 at623 o144.1 o144.2 rfl ?_
              refine v_aload_n (pc := 256) dX12_reckonAll_256 4 rfl ?_
              refine m_getfin (pc := 257) (v := 623) hE dX12_reckonAll_257 flX12_109 rfl at603 rfl ?_
              refine v_iload_n (pc := 260) dX12_reckonAll_260 0 rfl ?_
              obtain ⟨o145, h⟩ := h
              refine m_lald (pc := 261) (v := (mem 623 (x3 + (-1)))) dX12_reckonAll_261 at623 o145.1 o145.2 rfl ?_
              refine m_invL (pc := 262) (mi' := mX12_reckon) (rest := [aI ((x3 + (-1)) - 1), aR 623]) [aI (mem 614 x4), aL (mem 623 ((x3 + (-1)) - 1)), aL (mem 623 (x3 + (-1)))] dX12_reckonAll_262 at603 (by decide) rfl msX12_reckon mvX12_reckon lkX12_395 rfl (Nat.le_of_ble_eq_true rfl) (fun hn => CL_mono (h (aaI hn 1 rfl) (aaL hn 2 rfl) (aaL hn 3 rfl)) (fun r147 m146 h => ?_))
              refine v_last (pc := 265) dX12_reckonAll_265 at623 o144.1 o144.2 ?_
              refine v_aload_n (pc := 266) dX12_reckonAll_266 4 rfl ?_
              refine v_aload_n (pc := 267) dX12_reckonAll_267 4 rfl ?_
              refine m_getf (pc := 268) (t := 0) (v := (m146 603 38)) dX12_reckonAll_268 flX12_389 rfl at603 (aUp_rn (by omega)) ?_
              refine v_ifne (pc := 271) (tgt := 294) dX12_reckonAll_271 (by decide) (fun c1 => ?_) (fun c1 => ?_)
              · have h := h.1 c1
                refine v_iconst (pc := 294) dX12_reckonAll_294 (by decide) ?_
                refine v_goto (pc := 295) (tgt := 299) dX12_reckonAll_295 (by decide) ?_
                refine v_putf (pc := 299) dX12_reckonAll_299 flX12_389 ⟨_, _, rfl, Or.inl rfl⟩ rfl (by decide) (fun _ => by decide) (Or.inl fun _ => rfl) at603 ?_
                refine v_goto (pc := 302) (tgt := 367) dX12_reckonAll_302 (by decide) ?_
                exact VG_sub (al' := [(0, aR 603), (2, aI p1), (3, aI (x3 + (-1))), (4, aI (x4 + 1))]) [4, 5, 0, 1] rfl h
              · have h := h.2 c1
                refine v_aload_n (pc := 274) dX12_reckonAll_274 4 rfl ?_
                refine m_getfin (pc := 275) (v := 623) hE dX12_reckonAll_275 flX12_109 rfl at603 rfl ?_
                refine v_iload_n (pc := 278) dX12_reckonAll_278 0 rfl ?_
                refine v_iconst (pc := 279) dX12_reckonAll_279 (by decide) ?_
                refine m_isub (pc := 280) dX12_reckonAll_280 o143 ?_
                refine m_lald (pc := 281) (v := r147) dX12_reckonAll_281 at623 o144.1 o144.2 (aUp_re) ?_
                refine v_ldc2 (pc := 282) (n := (-1000000000)) dX12_reckonAll_282 cnX12_399 (by decide) ?_
                refine v_ldc2 (pc := 285) (n := 1000000000) dX12_reckonAll_285 cnX12_401 (by decide) ?_
                refine m_invSI (pc := 288) (mi' := mX12_in) (rest := [aR 603]) [aL r147, aL (-1000000000), aL 1000000000] dX12_reckonAll_288 msX12_in stX12_in lkX12_182 rfl (Nat.le_of_ble_eq_true rfl) (fun hn => CI_mono (h (aaL hn 0 rfl)) (fun r149 m148 h => ?_))
                refine v_ifne (pc := 291) (tgt := 298) dX12_reckonAll_291 (by decide) (fun c1 => ?_) (fun c1 => ?_)
                · have h := h.1 c1
                  refine v_iconst (pc := 298) dX12_reckonAll_298 (by decide) ?_
                  refine v_putf (pc := 299) dX12_reckonAll_299 flX12_389 ⟨_, _, rfl, Or.inl rfl⟩ rfl (by decide) (fun _ => by decide) (Or.inl fun _ => rfl) at603 ?_
                  refine v_goto (pc := 302) (tgt := 367) dX12_reckonAll_302 (by decide) ?_
                  exact VG_sub (al' := [(0, aR 603), (2, aI p1), (3, aI (x3 + (-1))), (4, aI (x4 + 1))]) [4, 5, 0, 1] rfl h
                · have h := h.2 c1
                  refine v_iconst (pc := 294) dX12_reckonAll_294 (by decide) ?_
                  refine v_goto (pc := 295) (tgt := 299) dX12_reckonAll_295 (by decide) ?_
                  refine v_putf (pc := 299) dX12_reckonAll_299 flX12_389 ⟨_, _, rfl, Or.inl rfl⟩ rfl (by decide) (fun _ => by decide) (Or.inl fun _ => rfl) at603 ?_
                  refine v_goto (pc := 302) (tgt := 367) dX12_reckonAll_302 (by decide) ?_
                  exact VG_sub (al' := [(0, aR 603), (2, aI p1), (3, aI (x3 + (-1))), (4, aI (x4 + 1))]) [4, 5, 0, 1] rfl h
          · have h := h.2 c1
            refine v_aload_n (pc := 107) dX12_reckonAll_107 3 rfl ?_
            refine m_getfin (pc := 108) (v := 623) hE dX12_reckonAll_108 flX12_109 rfl at603 rfl ?_
            refine v_iload_n (pc := 111) dX12_reckonAll_111 5 rfl ?_
            refine v_iload (pc := 112) dX12_reckonAll_112 2 rfl ?_
            refine v_ifne (pc := 114) (tgt := 123) dX12_reckonAll_114 (by decide) (fun c1 => ?_) (fun c1 => ?_)
            · have h := h.1 c1
              refine v_aload_n (pc := 123) dX12_reckonAll_123 3 rfl ?_
              refine m_getf (pc := 124) (t := 0) (v := (mem 603 20)) dX12_reckonAll_124 flX12_317 rfl at603 rfl ?_
              refine v_ifne (pc := 127) (tgt := 140) dX12_reckonAll_127 (by decide) (fun c1 => ?_) (fun c1 => ?_)
              · have h := h.1 c1
                refine v_iload (pc := 140) dX12_reckonAll_140 2 rfl ?_
                refine v_iconst (pc := 142) dX12_reckonAll_142 (by decide) ?_
                refine v_icmpge (pc := 143) (tgt := 156) dX12_reckonAll_143 (by decide) (fun c1 => ?_) (fun c1 => ?_)
                · have h := h.1 c1
                  refine v_iload (pc := 156) dX12_reckonAll_156 2 rfl ?_
                  refine v_iconst (pc := 158) dX12_reckonAll_158 (by decide) ?_
                  refine v_icmpne (pc := 159) (tgt := 189) dX12_reckonAll_159 (by decide) (fun c1 => ?_) (fun c1 => ?_)
                  · have h := h.1 c1
                    refine v_iload (pc := 189) dX12_reckonAll_189 2 rfl ?_
                    refine v_bipush (pc := 191) dX12_reckonAll_191 (by decide) ?_
                    refine v_icmpne (pc := 193) (tgt := 210) dX12_reckonAll_193 (by decide) (fun c1 => ?_) (fun c1 => ?_)
                    · have h := h.1 c1
                      refine v_aload_n (pc := 210) dX12_reckonAll_210 3 rfl ?_
                      refine m_getfin (pc := 211) (v := 605) hE dX12_reckonAll_211 flX12_13 rfl at603 rfl ?_
                      refine v_bipush (pc := 214) dX12_reckonAll_214 (by decide) ?_
                      refine v_iload (pc := 216) dX12_reckonAll_216 1 rfl ?_
                      obtain ⟨o150, h⟩ := h
                      refine m_iadd (pc := 218) dX12_reckonAll_218 o150 ?_
                      obtain ⟨o151, h⟩ := h
                      refine m_iald (pc := 219) (v := (mem 605 (48 + (mem 615 x4)))) dX12_reckonAll_219 at605 o151.1 o151.2 rfl ?_
                      refine v_i2l (pc := 220) dX12_reckonAll_220 ?_
                      obtain ⟨o152, h⟩ := h
                      refine v_last (pc := 221) dX12_reckonAll_221 at623 o152.1 o152.2 ?_
                      obtain ⟨o153, h⟩ := h
                      refine m_iinc (pc := 222) (al2 := [(3, aI (x3 + 1)), (4, aI (x4 + 1)), (6, aI (mem 615 x4)), (5, aI (mem 614 x4)), (0, aR 603), (2, aI p1)]) dX12_reckonAll_222 5 rfl (by decide) o153 rfl ?_
                      refine v_goto (pc := 225) (tgt := 367) dX12_reckonAll_225 (by decide) ?_
                      exact VG_sub (al' := [(0, aR 603), (2, aI p1), (3, aI (x3 + 1)), (4, aI (x4 + 1))]) [4, 5, 0, 1] rfl h
                    · have h := h.2 c1
                      refine v_aload_n (pc := 196) dX12_reckonAll_196 3 rfl ?_
                      refine m_getfin (pc := 197) (v := 605) hE dX12_reckonAll_197 flX12_13 rfl at603 rfl ?_
                      refine v_bipush (pc := 200) dX12_reckonAll_200 (by decide) ?_
                      refine v_iload (pc := 202) dX12_reckonAll_202 1 rfl ?_
                      obtain ⟨o154, h⟩ := h
                      refine m_iadd (pc := 204) dX12_reckonAll_204 o154 ?_
                      obtain ⟨o155, h⟩ := h
                      refine m_iald (pc := 205) (v := (mem 605 (80 + (mem 615 x4)))) dX12_reckonAll_205 at605 o155.1 o155.2 rfl ?_
                      refine v_i2l (pc := 206) dX12_reckonAll_206 ?_
                      refine v_goto (pc := 207) (tgt := 221) dX12_reckonAll_207 (by decide) ?_
                      obtain ⟨o156, h⟩ := h
                      refine v_last (pc := 221) dX12_reckonAll_221 at623 o156.1 o156.2 ?_
                      obtain ⟨o157, h⟩ := h
                      refine m_iinc (pc := 222) (al2 := [(3, aI (x3 + 1)), (4, aI (x4 + 1)), (6, aI (mem 615 x4)), (5, aI (mem 614 x4)), (0, aR 603), (2, aI p1)]) dX12_reckonAll_222 5 rfl (by decide) o157 rfl ?_
                      refine v_goto (pc := 225) (tgt := 367) dX12_reckonAll_225 (by decide) ?_
                      exact VG_sub (al' := [(0, aR 603), (2, aI p1), (3, aI (x3 + 1)), (4, aI (x4 + 1))]) [4, 5, 0, 1] rfl h
                  · have h := h.2 c1
                    refine v_aload_n (pc := 162) dX12_reckonAll_162 3 rfl ?_
                    refine v_iload (pc := 163) dX12_reckonAll_163 1 rfl ?_
                    refine m_invI (pc := 165) (mi' := mX12_isPlot) (rest := [aI x3, aR 623]) [aI (mem 615 x4)] dX12_reckonAll_165 at603 (by decide) rfl msX12_isPlot mvX12_isPlot lkX12_214 rfl (Nat.le_of_ble_eq_true rfl) (fun hn => CI_mono (h (aaI hn 1 rfl)) (fun r159 m158 h => ?_))
                    refine v_ifeq (pc := 168) (tgt := 184) dX12_reckonAll_168 (by decide) (fun c1 => ?_) (fun c1 => ?_)
                    · have h := h.1 c1
                      refine v_iconst (pc := 184) dX12_reckonAll_184 (by decide) ?_
                      refine v_i2l (pc := 185) dX12_reckonAll_185 ?_
                      refine v_goto (pc := 186) (tgt := 221) dX12_reckonAll_186 (by decide) ?_
                      obtain ⟨o160, h⟩ := h
                      refine v_last (pc := 221) dX12_reckonAll_221 at623 o160.1 o160.2 ?_
                      obtain ⟨o161, h⟩ := h
                      refine m_iinc (pc := 222) (al2 := [(3, aI (x3 + 1)), (4, aI (x4 + 1)), (6, aI (mem 615 x4)), (5, aI (mem 614 x4)), (0, aR 603), (2, aI p1)]) dX12_reckonAll_222 5 rfl (by decide) o161 rfl ?_
                      refine v_goto (pc := 225) (tgt := 367) dX12_reckonAll_225 (by decide) ?_
                      exact VG_sub (al' := [(0, aR 603), (2, aI p1), (3, aI (x3 + 1)), (4, aI (x4 + 1))]) [4, 5, 0, 1] rfl h
                    · have h := h.2 c1
                      refine v_aload_n (pc := 171) dX12_reckonAll_171 3 rfl ?_
                      refine m_getfin (pc := 172) (v := 605) hE dX12_reckonAll_172 flX12_13 rfl at603 rfl ?_
                      refine v_bipush (pc := 175) dX12_reckonAll_175 (by decide) ?_
                      refine v_iload (pc := 177) dX12_reckonAll_177 1 rfl ?_
                      obtain ⟨o162, h⟩ := h
                      refine m_iadd (pc := 179) dX12_reckonAll_179 o162 ?_
                      obtain ⟨o163, h⟩ := h
                      refine m_iald (pc := 180) (v := (m158 605 (8 + (mem 615 x4)))) dX12_reckonAll_180 at605 o163.1 o163.2 rfl ?_
                      refine v_goto (pc := 181) (tgt := 185) dX12_reckonAll_181 (by decide) ?_
                      refine v_i2l (pc := 185) dX12_reckonAll_185 ?_
                      refine v_goto (pc := 186) (tgt := 221) dX12_reckonAll_186 (by decide) ?_
                      obtain ⟨o164, h⟩ := h
                      refine v_last (pc := 221) dX12_reckonAll_221 at623 o164.1 o164.2 ?_
                      obtain ⟨o165, h⟩ := h
                      refine m_iinc (pc := 222) (al2 := [(3, aI (x3 + 1)), (4, aI (x4 + 1)), (6, aI (mem 615 x4)), (5, aI (mem 614 x4)), (0, aR 603), (2, aI p1)]) dX12_reckonAll_222 5 rfl (by decide) o165 rfl ?_
                      refine v_goto (pc := 225) (tgt := 367) dX12_reckonAll_225 (by decide) ?_
                      exact VG_sub (al' := [(0, aR 603), (2, aI p1), (3, aI (x3 + 1)), (4, aI (x4 + 1))]) [4, 5, 0, 1] rfl h
                · have h := h.2 c1
                  refine v_aload_n (pc := 146) dX12_reckonAll_146 3 rfl ?_
                  refine m_getfin (pc := 147) (v := 622) hE dX12_reckonAll_147 flX12_106 rfl at603 rfl ?_
                  refine v_iload (pc := 150) dX12_reckonAll_150 2 rfl ?_
                  obtain ⟨o166, h⟩ := h
                  refine m_lald (pc := 152) (v := (mem 622 (mem 614 x4))) dX12_reckonAll_152 at622 o166.1 o166.2 rfl ?_
                  refine v_goto (pc := 153) (tgt := 221) dX12_reckonAll_153 (by decide) ?_
                  obtain ⟨o167, h⟩ := h
                  refine v_last (pc := 221) dX12_reckonAll_221 at623 o167.1 o167.2 ?_
                  obtain ⟨o168, h⟩ := h
                  refine m_iinc (pc := 222) (al2 := [(3, aI (x3 + 1)), (4, aI (x4 + 1)), (6, aI (mem 615 x4)), (5, aI (mem 614 x4)), (0, aR 603), (2, aI p1)]) dX12_reckonAll_222 5 rfl (by decide) o168 rfl ?_
                  refine v_goto (pc := 225) (tgt := 367) dX12_reckonAll_225 (by decide) ?_
                  exact VG_sub (al' := [(0, aR 603), (2, aI p1), (3, aI (x3 + 1)), (4, aI (x4 + 1))]) [4, 5, 0, 1] rfl h
              · have h := h.2 c1
                refine v_aload_n (pc := 130) dX12_reckonAll_130 3 rfl ?_
                refine m_getfin (pc := 131) (v := 621) hE dX12_reckonAll_131 flX12_103 rfl at603 rfl ?_
                refine v_iload (pc := 134) dX12_reckonAll_134 2 rfl ?_
                obtain ⟨o169, h⟩ := h
                refine m_lald (pc := 136) (v := (mem 621 (mem 614 x4))) dX12_reckonAll_136 at621 o169.1 o169.2 rfl ?_
                refine v_goto (pc := 137) (tgt := 221) dX12_reckonAll_137 (by decide) ?_
                obtain ⟨o170, h⟩ := h
                refine v_last (pc := 221) dX12_reckonAll_221 at623 o170.1 o170.2 ?_
                obtain ⟨o171, h⟩ := h
                refine m_iinc (pc := 222) (al2 := [(3, aI (x3 + 1)), (4, aI (x4 + 1)), (6, aI (mem 615 x4)), (5, aI (mem 614 x4)), (0, aR 603), (2, aI p1)]) dX12_reckonAll_222 5 rfl (by decide) o171 rfl ?_
                refine v_goto (pc := 225) (tgt := 367) dX12_reckonAll_225 (by decide) ?_
                exact VG_sub (al' := [(0, aR 603), (2, aI p1), (3, aI (x3 + 1)), (4, aI (x4 + 1))]) [4, 5, 0, 1] rfl h
            · have h := h.2 c1
              refine v_iload (pc := 117) dX12_reckonAll_117 1 rfl ?_
              refine v_i2l (pc := 119) dX12_reckonAll_119 ?_
              refine v_goto (pc := 120) (tgt := 221) dX12_reckonAll_120 (by decide) ?_
              obtain ⟨o172, h⟩ := h
              refine v_last (pc := 221) dX12_reckonAll_221 at623 o172.1 o172.2 ?_
              obtain ⟨o173, h⟩ := h
              refine m_iinc (pc := 222) (al2 := [(3, aI (x3 + 1)), (4, aI (x4 + 1)), (6, aI (mem 615 x4)), (5, aI (mem 614 x4)), (0, aR 603), (2, aI p1)]) dX12_reckonAll_222 5 rfl (by decide) o173 rfl ?_
              refine v_goto (pc := 225) (tgt := 367) dX12_reckonAll_225 (by decide) ?_
              exact VG_sub (al' := [(0, aR 603), (2, aI p1), (3, aI (x3 + 1)), (4, aI (x4 + 1))]) [4, 5, 0, 1] rfl h
set_option maxRecDepth 20000 in
theorem rX12_reckonAll_370 {E : EN} (hE : Ep E) {k : Nat} {mem : Mm} {Q : Mm → Prop} {p0 p1 x3 : Int}
    (h : ((x3 ≤ 0 → Q (aUp mem 603 39 0)) ∧ (0 < x3 → Q (aUp mem 603 39 (mem 623 0))))) :
    VM E mX12_reckonAll (k + 1) mem 370 [(0, aR 603), (3, aI x3)] [] (retV Q) := by
  refine v_aload_n (pc := 370) dX12_reckonAll_370 0 rfl ?_
  refine v_iload_n (pc := 371) dX12_reckonAll_371 1 rfl ?_
  refine v_ifle (pc := 372) (tgt := 384) dX12_reckonAll_372 (by decide) (fun c1 => ?_) (fun c1 => ?_)
  · have h := h.1 c1
    refine v_lconst0 (pc := 384) dX12_reckonAll_384 ?_
    refine v_putf (pc := 385) dX12_reckonAll_385 flX12_403 ⟨_, _, rfl, Or.inl rfl⟩ rfl (by decide) (fun q => nomatch q) (Or.inl fun _ => rfl) at603 ?_
    exact m_retV (pc := 388) dX12_reckonAll_388 rfl h
  · have h := h.2 c1
    refine v_aload_n (pc := 375) dX12_reckonAll_375 0 rfl ?_
    refine m_getfin (pc := 376) (v := 623) hE dX12_reckonAll_376 flX12_109 rfl at603 rfl ?_
    refine v_iconst (pc := 379) dX12_reckonAll_379 (by decide) ?_
    refine m_lald (pc := 380) (v := (mem 623 0)) dX12_reckonAll_380 at623 (by omega) (by omega) rfl ?_
    refine v_goto (pc := 381) (tgt := 385) dX12_reckonAll_381 (by decide) ?_
    refine v_putf (pc := 385) dX12_reckonAll_385 flX12_403 ⟨_, _, rfl, Or.inl rfl⟩ rfl (by decide) (fun q => nomatch q) (Or.inl fun _ => rfl) at603 ?_
    exact m_retV (pc := 388) dX12_reckonAll_388 rfl h
set_option maxRecDepth 20000 in
theorem rX12_reckonAll_367 {E : EN} (hE : Ep E) {k : Nat} {mem : Mm} {Q : Mm → Prop} {p0 p1 x3 x4 : Int}
    (h : VM E mX12_reckonAll (k + 1) mem 10 [(0, aR 603), (2, aI p1), (3, aI x3), (4, aI x4)] [] (retV Q)) :
    VM E mX12_reckonAll (k + 1) mem 367 [(0, aR 603), (2, aI p1), (3, aI x3), (4, aI x4)] [] (retV Q) := by
  refine v_goto (pc := 367) (tgt := 10) dX12_reckonAll_367 (by decide) ?_
  exact VG_sub (al' := [(0, aR 603), (2, aI p1), (3, aI x3), (4, aI x4)]) [0, 1, 2, 3] rfl h

theorem dX12_isSo_0 : decode cX12_isSo 0 = .ok (.aload_n 0, 1) := by decide +kernel
theorem dX12_isSo_1 : decode cX12_isSo 1 = .ok (.getfield 13, 3) := by decide +kernel
theorem dX12_isSo_4 : decode cX12_isSo 4 = .ok (.iload_n 1, 1) := by decide +kernel
theorem dX12_isSo_5 : decode cX12_isSo 5 = .ok (.iconst 5, 1) := by decide +kernel
theorem dX12_isSo_6 : decode cX12_isSo 6 = .ok (.iadd, 1) := by decide +kernel
theorem dX12_isSo_7 : decode cX12_isSo 7 = .ok (.iaload, 1) := by decide +kernel
theorem dX12_isSo_8 : decode cX12_isSo 8 = .ok (.aload_n 0, 1) := by decide +kernel
theorem dX12_isSo_9 : decode cX12_isSo 9 = .ok (.getfield 13, 3) := by decide +kernel
theorem dX12_isSo_12 : decode cX12_isSo 12 = .ok (.iload_n 1, 1) := by decide +kernel
theorem dX12_isSo_13 : decode cX12_isSo 13 = .ok (.bipush 6, 2) := by decide +kernel
theorem dX12_isSo_15 : decode cX12_isSo 15 = .ok (.iadd, 1) := by decide +kernel
theorem dX12_isSo_16 : decode cX12_isSo 16 = .ok (.iaload, 1) := by decide +kernel
theorem dX12_isSo_17 : decode cX12_isSo 17 = .ok (.if_icmp .ge 42, 3) := by decide +kernel
theorem dX12_isSo_20 : decode cX12_isSo 20 = .ok (.aload_n 0, 1) := by decide +kernel
theorem dX12_isSo_21 : decode cX12_isSo 21 = .ok (.aload_n 0, 1) := by decide +kernel
theorem dX12_isSo_22 : decode cX12_isSo 22 = .ok (.getfield 13, 3) := by decide +kernel
theorem dX12_isSo_25 : decode cX12_isSo 25 = .ok (.iload_n 1, 1) := by decide +kernel
theorem dX12_isSo_26 : decode cX12_isSo 26 = .ok (.iconst 5, 1) := by decide +kernel
theorem dX12_isSo_27 : decode cX12_isSo 27 = .ok (.iadd, 1) := by decide +kernel
theorem dX12_isSo_28 : decode cX12_isSo 28 = .ok (.iaload, 1) := by decide +kernel
theorem dX12_isSo_29 : decode cX12_isSo 29 = .ok (.aload_n 0, 1) := by decide +kernel
theorem dX12_isSo_30 : decode cX12_isSo 30 = .ok (.getfield 13, 3) := by decide +kernel
theorem dX12_isSo_33 : decode cX12_isSo 33 = .ok (.iload_n 1, 1) := by decide +kernel
theorem dX12_isSo_34 : decode cX12_isSo 34 = .ok (.bipush 6, 2) := by decide +kernel
theorem dX12_isSo_36 : decode cX12_isSo 36 = .ok (.iadd, 1) := by decide +kernel
theorem dX12_isSo_37 : decode cX12_isSo 37 = .ok (.iaload, 1) := by decide +kernel
theorem dX12_isSo_38 : decode cX12_isSo 38 = .ok (.invokevirtual 406, 3) := by decide +kernel
theorem dX12_isSo_41 : decode cX12_isSo 41 = .ok (.aload_n 0, 1) := by decide +kernel
theorem dX12_isSo_42 : decode cX12_isSo 42 = .ok (.getfield 389, 3) := by decide +kernel
theorem dX12_isSo_45 : decode cX12_isSo 45 = .ok (.ifCond .ne 12, 3) := by decide +kernel
theorem dX12_isSo_48 : decode cX12_isSo 48 = .ok (.aload_n 0, 1) := by decide +kernel
theorem dX12_isSo_49 : decode cX12_isSo 49 = .ok (.getfield 403, 3) := by decide +kernel
theorem dX12_isSo_52 : decode cX12_isSo 52 = .ok (.lconst 0, 1) := by decide +kernel
theorem dX12_isSo_53 : decode cX12_isSo 53 = .ok (.lcmp, 1) := by decide +kernel
theorem dX12_isSo_54 : decode cX12_isSo 54 = .ok (.ifCond .ne 5, 3) := by decide +kernel
theorem dX12_isSo_57 : decode cX12_isSo 57 = .ok (.iconst 0, 1) := by decide +kernel
theorem dX12_isSo_58 : decode cX12_isSo 58 = .ok (.ireturn, 1) := by decide +kernel
theorem dX12_isSo_59 : decode cX12_isSo 59 = .ok (.aload_n 0, 1) := by decide +kernel
theorem dX12_isSo_60 : decode cX12_isSo 60 = .ok (.getfield 13, 3) := by decide +kernel
theorem dX12_isSo_63 : decode cX12_isSo 63 = .ok (.iload_n 1, 1) := by decide +kernel
theorem dX12_isSo_64 : decode cX12_isSo 64 = .ok (.iaload, 1) := by decide +kernel
theorem dX12_isSo_65 : decode cX12_isSo 65 = .ok (.iconst 2, 1) := by decide +kernel
theorem dX12_isSo_66 : decode cX12_isSo 66 = .ok (.if_icmp .ge 44, 3) := by decide +kernel
theorem dX12_isSo_69 : decode cX12_isSo 69 = .ok (.aload_n 0, 1) := by decide +kernel
theorem dX12_isSo_70 : decode cX12_isSo 70 = .ok (.aload_n 0, 1) := by decide +kernel
theorem dX12_isSo_71 : decode cX12_isSo 71 = .ok (.getfield 13, 3) := by decide +kernel
theorem dX12_isSo_74 : decode cX12_isSo 74 = .ok (.iload_n 1, 1) := by decide +kernel
theorem dX12_isSo_75 : decode cX12_isSo 75 = .ok (.iconst 3, 1) := by decide +kernel
theorem dX12_isSo_76 : decode cX12_isSo 76 = .ok (.iadd, 1) := by decide +kernel
theorem dX12_isSo_77 : decode cX12_isSo 77 = .ok (.iaload, 1) := by decide +kernel
theorem dX12_isSo_78 : decode cX12_isSo 78 = .ok (.aload_n 0, 1) := by decide +kernel
theorem dX12_isSo_79 : decode cX12_isSo 79 = .ok (.getfield 13, 3) := by decide +kernel
theorem dX12_isSo_82 : decode cX12_isSo 82 = .ok (.iload_n 1, 1) := by decide +kernel
theorem dX12_isSo_83 : decode cX12_isSo 83 = .ok (.iconst 4, 1) := by decide +kernel
theorem dX12_isSo_84 : decode cX12_isSo 84 = .ok (.iadd, 1) := by decide +kernel
theorem dX12_isSo_85 : decode cX12_isSo 85 = .ok (.iaload, 1) := by decide +kernel
theorem dX12_isSo_86 : decode cX12_isSo 86 = .ok (.invokevirtual 406, 3) := by decide +kernel
theorem dX12_isSo_89 : decode cX12_isSo 89 = .ok (.aload_n 0, 1) := by decide +kernel
theorem dX12_isSo_90 : decode cX12_isSo 90 = .ok (.aload_n 0, 1) := by decide +kernel
theorem dX12_isSo_91 : decode cX12_isSo 91 = .ok (.getfield 403, 3) := by decide +kernel
theorem dX12_isSo_94 : decode cX12_isSo 94 = .ok (.putfield 409, 3) := by decide +kernel
theorem dX12_isSo_97 : decode cX12_isSo 97 = .ok (.aload_n 0, 1) := by decide +kernel
theorem dX12_isSo_98 : decode cX12_isSo 98 = .ok (.getfield 389, 3) := by decide +kernel
theorem dX12_isSo_101 : decode cX12_isSo 101 = .ok (.ifCond .ne 7, 3) := by decide +kernel
theorem dX12_isSo_104 : decode cX12_isSo 104 = .ok (.iconst 1, 1) := by decide +kernel
theorem dX12_isSo_105 : decode cX12_isSo 105 = .ok (.goto 4, 3) := by decide +kernel
theorem dX12_isSo_108 : decode cX12_isSo 108 = .ok (.iconst 0, 1) := by decide +kernel
theorem dX12_isSo_109 : decode cX12_isSo 109 = .ok (.ireturn, 1) := by decide +kernel
theorem dX12_isSo_110 : decode cX12_isSo 110 = .ok (.iconst 1, 1) := by decide +kernel
theorem dX12_isSo_111 : decode cX12_isSo 111 = .ok (.ireturn, 1) := by decide +kernel
set_option maxRecDepth 20000 in
theorem rX12_isSo_0 {E : EN} (hE : Ep E) {k : Nat} {mem : Mm} {Q : Int → Mm → Prop} {p0 : Int}
    (h : (R32 (p0 + 5)) ∧ (0 ≤ (p0 + 5) ∧ (p0 + 5) < 5570) ∧ (R32 (p0 + 6)) ∧ (0 ≤ (p0 + 6) ∧ (p0 + 6) < 5570) ∧ (((mem 605 (p0 + 6)) ≤ (mem 605 (p0 + 5)) → (0 ≤ p0 ∧ p0 < 5570) ∧ ((2 ≤ (mem 605 p0) → Q 1 mem) ∧ ((mem 605 p0) < 2 → (R32 (p0 + 3)) ∧ (0 ≤ (p0 + 3) ∧ (p0 + 3) < 5570) ∧ (R32 (p0 + 4)) ∧ (0 ≤ (p0 + 4) ∧ (p0 + 4) < 5570) ∧ (R32 (mem 605 (p0 + 3)) → R32 (mem 605 (p0 + 4)) → CV E mX12_reckonAll k mem [aR 603, aI (mem 605 (p0 + 3)), aI (mem 605 (p0 + 4))] (fun m10 => ((¬ (m10 603 38) = 0 → Q 0 (aUp m10 603 40 (m10 603 39))) ∧ ((m10 603 38) = 0 → Q 1 (aUp m10 603 40 (m10 603 39))))))))) ∧ ((mem 605 (p0 + 5)) < (mem 605 (p0 + 6)) → (R32 (mem 605 (p0 + 5)) → R32 (mem 605 (p0 + 6)) → CV E mX12_reckonAll k mem [aR 603, aI (mem 605 (p0 + 5)), aI (mem 605 (p0 + 6))] (fun m11 => ((¬ (m11 603 38) = 0 → Q 0 m11) ∧ ((m11 603 38) = 0 → ((¬ (m11 603 39) = 0 → (0 ≤ p0 ∧ p0 < 5570) ∧ ((2 ≤ (m11 605 p0) → Q 1 m11) ∧ ((m11 605 p0) < 2 → (R32 (p0 + 3)) ∧ (0 ≤ (p0 + 3) ∧ (p0 + 3) < 5570) ∧ (R32 (p0 + 4)) ∧ (0 ≤ (p0 + 4) ∧ (p0 + 4) < 5570) ∧ (R32 (m11 605 (p0 + 3)) → R32 (m11 605 (p0 + 4)) → CV E mX12_reckonAll k m11 [aR 603, aI (m11 605 (p0 + 3)), aI (m11 605 (p0 + 4))] (fun m17 => ((¬ (m17 603 38) = 0 → Q 0 (aUp m17 603 40 (m17 603 39))) ∧ ((m17 603 38) = 0 → Q 1 (aUp m17 603 40 (m17 603 39))))))))) ∧ ((m11 603 39) = 0 → Q 0 m11))))))))) :
    VM E mX12_isSo (k + 1) mem 0 [(0, aR 603), (1, aI p0)] [] (retI Q) := by
  refine v_aload_n (pc := 0) dX12_isSo_0 0 rfl ?_
  refine m_getfin (pc := 1) (v := 605) hE dX12_isSo_1 flX12_13 rfl at603 rfl ?_
  refine v_iload_n (pc := 4) dX12_isSo_4 1 rfl ?_
  refine v_iconst (pc := 5) dX12_isSo_5 (by decide) ?_
  obtain ⟨o1, h⟩ := h
  refine m_iadd (pc := 6) dX12_isSo_6 o1 ?_
  obtain ⟨o2, h⟩ := h
  refine m_iald (pc := 7) (v := (mem 605 (p0 + 5))) dX12_isSo_7 at605 o2.1 o2.2 rfl ?_
  refine v_aload_n (pc := 8) dX12_isSo_8 0 rfl ?_
  refine m_getfin (pc := 9) (v := 605) hE dX12_isSo_9 flX12_13 rfl at603 rfl ?_
  refine v_iload_n (pc := 12) dX12_isSo_12 1 rfl ?_
  refine v_bipush (pc := 13) dX12_isSo_13 (by decide) ?_
  obtain ⟨o3, h⟩ := h
  refine m_iadd (pc := 15) dX12_isSo_15 o3 ?_
  obtain ⟨o4, h⟩ := h
  refine m_iald (pc := 16) (v := (mem 605 (p0 + 6))) dX12_isSo_16 at605 o4.1 o4.2 rfl ?_
  refine v_icmpge (pc := 17) (tgt := 59) dX12_isSo_17 (by decide) (fun c1 => ?_) (fun c1 => ?_)
  · have h := h.1 c1
    refine v_aload_n (pc := 59) dX12_isSo_59 0 rfl ?_
    refine m_getfin (pc := 60) (v := 605) hE dX12_isSo_60 flX12_13 rfl at603 rfl ?_
    refine v_iload_n (pc := 63) dX12_isSo_63 1 rfl ?_
    obtain ⟨o5, h⟩ := h
    refine m_iald (pc := 64) (v := (mem 605 p0)) dX12_isSo_64 at605 o5.1 o5.2 rfl ?_
    refine v_iconst (pc := 65) dX12_isSo_65 (by decide) ?_
    refine v_icmpge (pc := 66) (tgt := 110) dX12_isSo_66 (by decide) (fun c1 => ?_) (fun c1 => ?_)
    · have h := h.1 c1
      refine v_iconst (pc := 110) dX12_isSo_110 (by decide) ?_
      exact m_retZ (pc := 111) dX12_isSo_111 rfl (by decide) h
    · have h := h.2 c1
      refine v_aload_n (pc := 69) dX12_isSo_69 0 rfl ?_
      refine v_aload_n (pc := 70) dX12_isSo_70 0 rfl ?_
      refine m_getfin (pc := 71) (v := 605) hE dX12_isSo_71 flX12_13 rfl at603 rfl ?_
      refine v_iload_n (pc := 74) dX12_isSo_74 1 rfl ?_
      refine v_iconst (pc := 75) dX12_isSo_75 (by decide) ?_
      obtain ⟨o6, h⟩ := h
      refine m_iadd (pc := 76) dX12_isSo_76 o6 ?_
      obtain ⟨o7, h⟩ := h
      refine m_iald (pc := 77) (v := (mem 605 (p0 + 3))) dX12_isSo_77 at605 o7.1 o7.2 rfl ?_
      refine v_aload_n (pc := 78) dX12_isSo_78 0 rfl ?_
      refine m_getfin (pc := 79) (v := 605) hE dX12_isSo_79 flX12_13 rfl at603 rfl ?_
      refine v_iload_n (pc := 82) dX12_isSo_82 1 rfl ?_
      refine v_iconst (pc := 83) dX12_isSo_83 (by decide) ?_
      obtain ⟨o8, h⟩ := h
      refine m_iadd (pc := 84) dX12_isSo_84 o8 ?_
      obtain ⟨o9, h⟩ := h
      refine m_iald (pc := 85) (v := (mem 605 (p0 + 4))) dX12_isSo_85 at605 o9.1 o9.2 rfl ?_
      refine m_invV (pc := 86) (mi' := mX12_reckonAll) (rest := []) [aI (mem 605 (p0 + 3)), aI (mem 605 (p0 + 4))] dX12_isSo_86 at603 (by decide) rfl msX12_reckonAll mvX12_reckonAll lkX12_406 rfl (Nat.le_of_ble_eq_true rfl) (fun hn => CV_mono (h (aaI hn 1 rfl) (aaI hn 2 rfl)) (fun m10 h => ?_))
      refine v_aload_n (pc := 89) dX12_isSo_89 0 rfl ?_
      refine v_aload_n (pc := 90) dX12_isSo_90 0 rfl ?_
      refine m_getf (pc := 91) (t := 1) (v := (m10 603 39)) dX12_isSo_91 flX12_403 rfl at603 rfl ?_
      refine v_putf (pc := 94) dX12_isSo_94 flX12_409 ⟨_, _, rfl, Or.inl rfl⟩ rfl (by decide) (fun q => nomatch q) (Or.inl fun _ => rfl) at603 ?_
      refine v_aload_n (pc := 97) dX12_isSo_97 0 rfl ?_
      refine m_getf (pc := 98) (t := 0) (v := (m10 603 38)) dX12_isSo_98 flX12_389 rfl at603 (aUp_ri (by decide)) ?_
      refine v_ifne (pc := 101) (tgt := 108) dX12_isSo_101 (by decide) (fun c1 => ?_) (fun c1 => ?_)
      · have h := h.1 c1
        refine v_iconst (pc := 108) dX12_isSo_108 (by decide) ?_
        exact m_retZ (pc := 109) dX12_isSo_109 rfl (by decide) h
      · have h := h.2 c1
        refine v_iconst (pc := 104) dX12_isSo_104 (by decide) ?_
        refine v_goto (pc := 105) (tgt := 109) dX12_isSo_105 (by decide) ?_
        exact m_retZ (pc := 109) dX12_isSo_109 rfl (by decide) h
  · have h := h.2 c1
    refine v_aload_n (pc := 20) dX12_isSo_20 0 rfl ?_
    refine v_aload_n (pc := 21) dX12_isSo_21 0 rfl ?_
    refine m_getfin (pc := 22) (v := 605) hE dX12_isSo_22 flX12_13 rfl at603 rfl ?_
    refine v_iload_n (pc := 25) dX12_isSo_25 1 rfl ?_
    refine v_iconst (pc := 26) dX12_isSo_26 (by decide) ?_
    refine m_iadd (pc := 27) dX12_isSo_27 o1 ?_
    refine m_iald (pc := 28) (v := (mem 605 (p0 + 5))) dX12_isSo_28 at605 o2.1 o2.2 rfl ?_
    refine v_aload_n (pc := 29) dX12_isSo_29 0 rfl ?_
    refine m_getfin (pc := 30) (v := 605) hE dX12_isSo_30 flX12_13 rfl at603 rfl ?_
    refine v_iload_n (pc := 33) dX12_isSo_33 1 rfl ?_
    refine v_bipush (pc := 34) dX12_isSo_34 (by decide) ?_
    refine m_iadd (pc := 36) dX12_isSo_36 o3 ?_
    refine m_iald (pc := 37) (v := (mem 605 (p0 + 6))) dX12_isSo_37 at605 o4.1 o4.2 rfl ?_
    refine m_invV (pc := 38) (mi' := mX12_reckonAll) (rest := []) [aI (mem 605 (p0 + 5)), aI (mem 605 (p0 + 6))] dX12_isSo_38 at603 (by decide) rfl msX12_reckonAll mvX12_reckonAll lkX12_406 rfl (Nat.le_of_ble_eq_true rfl) (fun hn => CV_mono (h (aaI hn 1 rfl) (aaI hn 2 rfl)) (fun m11 h => ?_))
    refine v_aload_n (pc := 41) dX12_isSo_41 0 rfl ?_
    refine m_getf (pc := 42) (t := 0) (v := (m11 603 38)) dX12_isSo_42 flX12_389 rfl at603 rfl ?_
    refine v_ifne (pc := 45) (tgt := 57) dX12_isSo_45 (by decide) (fun c1 => ?_) (fun c1 => ?_)
    · have h := h.1 c1
      refine v_iconst (pc := 57) dX12_isSo_57 (by decide) ?_
      exact m_retZ (pc := 58) dX12_isSo_58 rfl (by decide) h
    · have h := h.2 c1
      refine v_aload_n (pc := 48) dX12_isSo_48 0 rfl ?_
      refine m_getf (pc := 49) (t := 1) (v := (m11 603 39)) dX12_isSo_49 flX12_403 rfl at603 rfl ?_
      refine v_lconst0 (pc := 52) dX12_isSo_52 ?_
      refine v_lcmpne (pc := 53) (tgt := 59) dX12_isSo_53 dX12_isSo_54 (by decide) (fun c1 => ?_) (fun c1 => ?_)
      · have h := h.1 c1
        refine v_aload_n (pc := 59) dX12_isSo_59 0 rfl ?_
        refine m_getfin (pc := 60) (v := 605) hE dX12_isSo_60 flX12_13 rfl at603 rfl ?_
        refine v_iload_n (pc := 63) dX12_isSo_63 1 rfl ?_
        obtain ⟨o12, h⟩ := h
        refine m_iald (pc := 64) (v := (m11 605 p0)) dX12_isSo_64 at605 o12.1 o12.2 rfl ?_
        refine v_iconst (pc := 65) dX12_isSo_65 (by decide) ?_
        refine v_icmpge (pc := 66) (tgt := 110) dX12_isSo_66 (by decide) (fun c1 => ?_) (fun c1 => ?_)
        · have h := h.1 c1
          refine v_iconst (pc := 110) dX12_isSo_110 (by decide) ?_
          exact m_retZ (pc := 111) dX12_isSo_111 rfl (by decide) h
        · have h := h.2 c1
          refine v_aload_n (pc := 69) dX12_isSo_69 0 rfl ?_
          refine v_aload_n (pc := 70) dX12_isSo_70 0 rfl ?_
          refine m_getfin (pc := 71) (v := 605) hE dX12_isSo_71 flX12_13 rfl at603 rfl ?_
          refine v_iload_n (pc := 74) dX12_isSo_74 1 rfl ?_
          refine v_iconst (pc := 75) dX12_isSo_75 (by decide) ?_
          obtain ⟨o13, h⟩ := h
          refine m_iadd (pc := 76) dX12_isSo_76 o13 ?_
          obtain ⟨o14, h⟩ := h
          refine m_iald (pc := 77) (v := (m11 605 (p0 + 3))) dX12_isSo_77 at605 o14.1 o14.2 rfl ?_
          refine v_aload_n (pc := 78) dX12_isSo_78 0 rfl ?_
          refine m_getfin (pc := 79) (v := 605) hE dX12_isSo_79 flX12_13 rfl at603 rfl ?_
          refine v_iload_n (pc := 82) dX12_isSo_82 1 rfl ?_
          refine v_iconst (pc := 83) dX12_isSo_83 (by decide) ?_
          obtain ⟨o15, h⟩ := h
          refine m_iadd (pc := 84) dX12_isSo_84 o15 ?_
          obtain ⟨o16, h⟩ := h
          refine m_iald (pc := 85) (v := (m11 605 (p0 + 4))) dX12_isSo_85 at605 o16.1 o16.2 rfl ?_
          refine m_invV (pc := 86) (mi' := mX12_reckonAll) (rest := []) [aI (m11 605 (p0 + 3)), aI (m11 605 (p0 + 4))] dX12_isSo_86 at603 (by decide) rfl msX12_reckonAll mvX12_reckonAll lkX12_406 rfl (Nat.le_of_ble_eq_true rfl) (fun hn => CV_mono (h (aaI hn 1 rfl) (aaI hn 2 rfl)) (fun m17 h => ?_))
          refine v_aload_n (pc := 89) dX12_isSo_89 0 rfl ?_
          refine v_aload_n (pc := 90) dX12_isSo_90 0 rfl ?_
          refine m_getf (pc := 91) (t := 1) (v := (m17 603 39)) dX12_isSo_91 flX12_403 rfl at603 rfl ?_
          refine v_putf (pc := 94) dX12_isSo_94 flX12_409 ⟨_, _, rfl, Or.inl rfl⟩ rfl (by decide) (fun q => nomatch q) (Or.inl fun _ => rfl) at603 ?_
          refine v_aload_n (pc := 97) dX12_isSo_97 0 rfl ?_
          refine m_getf (pc := 98) (t := 0) (v := (m17 603 38)) dX12_isSo_98 flX12_389 rfl at603 (aUp_ri (by decide)) ?_
          refine v_ifne (pc := 101) (tgt := 108) dX12_isSo_101 (by decide) (fun c1 => ?_) (fun c1 => ?_)
          · have h := h.1 c1
            refine v_iconst (pc := 108) dX12_isSo_108 (by decide) ?_
            exact m_retZ (pc := 109) dX12_isSo_109 rfl (by decide) h
          · have h := h.2 c1
            refine v_iconst (pc := 104) dX12_isSo_104 (by decide) ?_
            refine v_goto (pc := 105) (tgt := 109) dX12_isSo_105 (by decide) ?_
            exact m_retZ (pc := 109) dX12_isSo_109 rfl (by decide) h
      · have h := h.2 c1
        refine v_iconst (pc := 57) dX12_isSo_57 (by decide) ?_
        exact m_retZ (pc := 58) dX12_isSo_58 rfl (by decide) h
theorem eX12_isSo {E : EN} {k : Nat} {mem : Mm} {Q : Int → Mm → Prop} {p0 : Int} (hr_p0 : R32 p0) (h : VM E mX12_isSo (k + 1) mem 0 [(0, aR 603), (1, aI p0)] [] (retI Q)) : CI E mX12_isSo (k + 1) mem [aR 603, aI p0] Q := CI_of rfl (Nat.le_of_ble_eq_true rfl) h (aNs_c (aNr_R _) (aNs_c (aNr_I hr_p0) (fun _ q => nomatch q)))
