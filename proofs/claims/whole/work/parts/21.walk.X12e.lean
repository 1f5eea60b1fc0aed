theorem dX12_ways_0 : decode cX12_ways 0 = .ok (.aload_n 0, 1) := by decide +kernel
theorem dX12_ways_1 : decode cX12_ways 1 = .ok (.iconst 0, 1) := by decide +kernel
theorem dX12_ways_2 : decode cX12_ways 2 = .ok (.putfield 162, 3) := by decide +kernel
theorem dX12_ways_5 : decode cX12_ways 5 = .ok (.aload_n 0, 1) := by decide +kernel
theorem dX12_ways_6 : decode cX12_ways 6 = .ok (.iload_n 1, 1) := by decide +kernel
theorem dX12_ways_7 : decode cX12_ways 7 = .ok (.invokevirtual 214, 3) := by decide +kernel
theorem dX12_ways_10 : decode cX12_ways 10 = .ok (.ifCond .eq 33, 3) := by decide +kernel
theorem dX12_ways_13 : decode cX12_ways 13 = .ok (.iload_n 2, 1) := by decide +kernel
theorem dX12_ways_14 : decode cX12_ways 14 = .ok (.invokestatic 192, 3) := by decide +kernel
theorem dX12_ways_17 : decode cX12_ways 17 = .ok (.ifCond .eq 26, 3) := by decide +kernel
theorem dX12_ways_20 : decode cX12_ways 20 = .ok (.iload_n 3, 1) := by decide +kernel
theorem dX12_ways_21 : decode cX12_ways 21 = .ok (.i2l, 1) := by decide +kernel
theorem dX12_ways_22 : decode cX12_ways 22 = .ok (.lconst 0, 1) := by decide +kernel
theorem dX12_ways_23 : decode cX12_ways 23 = .ok (.ldc2_w 485, 3) := by decide +kernel
theorem dX12_ways_26 : decode cX12_ways 26 = .ok (.invokestatic 182, 3) := by decide +kernel
theorem dX12_ways_29 : decode cX12_ways 29 = .ok (.ifCond .eq 14, 3) := by decide +kernel
theorem dX12_ways_32 : decode cX12_ways 32 = .ok (.iload 4, 2) := by decide +kernel
theorem dX12_ways_34 : decode cX12_ways 34 = .ok (.i2l, 1) := by decide +kernel
theorem dX12_ways_35 : decode cX12_ways 35 = .ok (.lconst 0, 1) := by decide +kernel
theorem dX12_ways_36 : decode cX12_ways 36 = .ok (.lconst 1, 1) := by decide +kernel
theorem dX12_ways_37 : decode cX12_ways 37 = .ok (.invokestatic 182, 3) := by decide +kernel
theorem dX12_ways_40 : decode cX12_ways 40 = .ok (.ifCond .ne 7, 3) := by decide +kernel
theorem dX12_ways_43 : decode cX12_ways 43 = .ok (.ldc2_w 268, 3) := by decide +kernel
theorem dX12_ways_46 : decode cX12_ways 46 = .ok (.lreturn, 1) := by decide +kernel
theorem dX12_ways_47 : decode cX12_ways 47 = .ok (.iconst 0, 1) := by decide +kernel
theorem dX12_ways_48 : decode cX12_ways 48 = .ok (.istore 5, 2) := by decide +kernel
theorem dX12_ways_50 : decode cX12_ways 50 = .ok (.iconst 0, 1) := by decide +kernel
theorem dX12_ways_51 : decode cX12_ways 51 = .ok (.istore 6, 2) := by decide +kernel
theorem dX12_ways_53 : decode cX12_ways 53 = .ok (.iload 6, 2) := by decide +kernel
theorem dX12_ways_55 : decode cX12_ways 55 = .ok (.bipush 32, 2) := by decide +kernel
theorem dX12_ways_57 : decode cX12_ways 57 = .ok (.if_icmp .ge 59, 3) := by decide +kernel
theorem dX12_ways_60 : decode cX12_ways 60 = .ok (.aload_n 0, 1) := by decide +kernel
theorem dX12_ways_61 : decode cX12_ways 61 = .ok (.getfield 13, 3) := by decide +kernel
theorem dX12_ways_64 : decode cX12_ways 64 = .ok (.bipush 80, 2) := by decide +kernel
theorem dX12_ways_66 : decode cX12_ways 66 = .ok (.iload 6, 2) := by decide +kernel
theorem dX12_ways_68 : decode cX12_ways 68 = .ok (.iadd, 1) := by decide +kernel
theorem dX12_ways_69 : decode cX12_ways 69 = .ok (.iaload, 1) := by decide +kernel
theorem dX12_ways_70 : decode cX12_ways 70 = .ok (.iconst 1, 1) := by decide +kernel
theorem dX12_ways_71 : decode cX12_ways 71 = .ok (.if_icmp .ne 39, 3) := by decide +kernel
theorem dX12_ways_74 : decode cX12_ways 74 = .ok (.aload_n 0, 1) := by decide +kernel
theorem dX12_ways_75 : decode cX12_ways 75 = .ok (.getfield 13, 3) := by decide +kernel
theorem dX12_ways_78 : decode cX12_ways 78 = .ok (.bipush 48, 2) := by decide +kernel
theorem dX12_ways_80 : decode cX12_ways 80 = .ok (.iload 6, 2) := by decide +kernel
theorem dX12_ways_82 : decode cX12_ways 82 = .ok (.iadd, 1) := by decide +kernel
theorem dX12_ways_83 : decode cX12_ways 83 = .ok (.iaload, 1) := by decide +kernel
theorem dX12_ways_84 : decode cX12_ways 84 = .ok (.ifCond .ne 26, 3) := by decide +kernel
theorem dX12_ways_87 : decode cX12_ways 87 = .ok (.iload 5, 2) := by decide +kernel
theorem dX12_ways_89 : decode cX12_ways 89 = .ok (.bipush 8, 2) := by decide +kernel
theorem dX12_ways_91 : decode cX12_ways 91 = .ok (.if_icmp .ne 7, 3) := by decide +kernel
theorem dX12_ways_94 : decode cX12_ways 94 = .ok (.ldc2_w 268, 3) := by decide +kernel
theorem dX12_ways_97 : decode cX12_ways 97 = .ok (.lreturn, 1) := by decide +kernel
theorem dX12_ways_98 : decode cX12_ways 98 = .ok (.aload_n 0, 1) := by decide +kernel
theorem dX12_ways_99 : decode cX12_ways 99 = .ok (.getfield 115, 3) := by decide +kernel
theorem dX12_ways_102 : decode cX12_ways 102 = .ok (.iload 5, 2) := by decide +kernel
theorem dX12_ways_104 : decode cX12_ways 104 = .ok (.iload 6, 2) := by decide +kernel
theorem dX12_ways_106 : decode cX12_ways 106 = .ok (.iastore, 1) := by decide +kernel
theorem dX12_ways_107 : decode cX12_ways 107 = .ok (.iinc 5 1, 3) := by decide +kernel
theorem dX12_ways_110 : decode cX12_ways 110 = .ok (.iinc 6 1, 3) := by decide +kernel
theorem dX12_ways_113 : decode cX12_ways 113 = .ok (.goto (-60), 3) := by decide +kernel
theorem dX12_ways_116 : decode cX12_ways 116 = .ok (.ldc_w 484, 3) := by decide +kernel
theorem dX12_ways_119 : decode cX12_ways 119 = .ok (.istore 6, 2) := by decide +kernel
theorem dX12_ways_121 : decode cX12_ways 121 = .ok (.lconst 0, 1) := by decide +kernel
theorem dX12_ways_122 : decode cX12_ways 122 = .ok (.lstore 7, 2) := by decide +kernel
theorem dX12_ways_124 : decode cX12_ways 124 = .ok (.iconst 0, 1) := by decide +kernel
theorem dX12_ways_125 : decode cX12_ways 125 = .ok (.istore 9, 2) := by decide +kernel
theorem dX12_ways_127 : decode cX12_ways 127 = .ok (.iload 9, 2) := by decide +kernel
theorem dX12_ways_129 : decode cX12_ways 129 = .ok (.iconst 1, 1) := by decide +kernel
theorem dX12_ways_130 : decode cX12_ways 130 = .ok (.iload 5, 2) := by decide +kernel
theorem dX12_ways_132 : decode cX12_ways 132 = .ok (.ishl, 1) := by decide +kernel
theorem dX12_ways_133 : decode cX12_ways 133 = .ok (.if_icmp .ge 132, 3) := by decide +kernel
theorem dX12_ways_136 : decode cX12_ways 136 = .ok (.iconst 0, 1) := by decide +kernel
theorem dX12_ways_137 : decode cX12_ways 137 = .ok (.istore 10, 2) := by decide +kernel
theorem dX12_ways_139 : decode cX12_ways 139 = .ok (.lconst 0, 1) := by decide +kernel
theorem dX12_ways_140 : decode cX12_ways 140 = .ok (.lstore 11, 2) := by decide +kernel
theorem dX12_ways_142 : decode cX12_ways 142 = .ok (.aload_n 0, 1) := by decide +kernel
theorem dX12_ways_143 : decode cX12_ways 143 = .ok (.bipush 16, 2) := by decide +kernel
theorem dX12_ways_145 : decode cX12_ways 145 = .ok (.invokevirtual 171, 3) := by decide +kernel
theorem dX12_ways_148 : decode cX12_ways 148 = .ok (.iconst 0, 1) := by decide +kernel
theorem dX12_ways_149 : decode cX12_ways 149 = .ok (.istore 13, 2) := by decide +kernel
theorem dX12_ways_151 : decode cX12_ways 151 = .ok (.iload 13, 2) := by decide +kernel
theorem dX12_ways_153 : decode cX12_ways 153 = .ok (.iload 5, 2) := by decide +kernel
theorem dX12_ways_155 : decode cX12_ways 155 = .ok (.if_icmp .ge 70, 3) := by decide +kernel
theorem dX12_ways_158 : decode cX12_ways 158 = .ok (.iload 9, 2) := by decide +kernel
theorem dX12_ways_160 : decode cX12_ways 160 = .ok (.iload 13, 2) := by decide +kernel
theorem dX12_ways_162 : decode cX12_ways 162 = .ok (.ishr, 1) := by decide +kernel
theorem dX12_ways_163 : decode cX12_ways 163 = .ok (.iconst 1, 1) := by decide +kernel
theorem dX12_ways_164 : decode cX12_ways 164 = .ok (.iand, 1) := by decide +kernel
theorem dX12_ways_165 : decode cX12_ways 165 = .ok (.iconst 1, 1) := by decide +kernel
theorem dX12_ways_166 : decode cX12_ways 166 = .ok (.if_icmp .ne 53, 3) := by decide +kernel
theorem dX12_ways_169 : decode cX12_ways 169 = .ok (.iload 10, 2) := by decide +kernel
theorem dX12_ways_171 : decode cX12_ways 171 = .ok (.aload_n 0, 1) := by decide +kernel
theorem dX12_ways_172 : decode cX12_ways 172 = .ok (.getfield 13, 3) := by decide +kernel
theorem dX12_ways_175 : decode cX12_ways 175 = .ok (.bipush 112, 2) := by decide +kernel
theorem dX12_ways_177 : decode cX12_ways 177 = .ok (.aload_n 0, 1) := by decide +kernel
theorem dX12_ways_178 : decode cX12_ways 178 = .ok (.getfield 115, 3) := by decide +kernel
theorem dX12_ways_181 : decode cX12_ways 181 = .ok (.iload 13, 2) := by decide +kernel
theorem dX12_ways_183 : decode cX12_ways 183 = .ok (.iaload, 1) := by decide +kernel
theorem dX12_ways_184 : decode cX12_ways 184 = .ok (.iadd, 1) := by decide +kernel
theorem dX12_ways_185 : decode cX12_ways 185 = .ok (.iaload, 1) := by decide +kernel
theorem dX12_ways_186 : decode cX12_ways 186 = .ok (.iadd, 1) := by decide +kernel
theorem dX12_ways_187 : decode cX12_ways 187 = .ok (.istore 10, 2) := by decide +kernel
theorem dX12_ways_189 : decode cX12_ways 189 = .ok (.lload 11, 2) := by decide +kernel
theorem dX12_ways_191 : decode cX12_ways 191 = .ok (.lconst 1, 1) := by decide +kernel
theorem dX12_ways_192 : decode cX12_ways 192 = .ok (.aload_n 0, 1) := by decide +kernel
theorem dX12_ways_193 : decode cX12_ways 193 = .ok (.getfield 115, 3) := by decide +kernel
theorem dX12_ways_196 : decode cX12_ways 196 = .ok (.iload 13, 2) := by decide +kernel
theorem dX12_ways_198 : decode cX12_ways 198 = .ok (.iaload, 1) := by decide +kernel
theorem dX12_ways_199 : decode cX12_ways 199 = .ok (.lshl, 1) := by decide +kernel
theorem dX12_ways_200 : decode cX12_ways 200 = .ok (.lor, 1) := by decide +kernel
theorem dX12_ways_201 : decode cX12_ways 201 = .ok (.lstore 11, 2) := by decide +kernel
theorem dX12_ways_203 : decode cX12_ways 203 = .ok (.aload_n 0, 1) := by decide +kernel
theorem dX12_ways_204 : decode cX12_ways 204 = .ok (.getfield 13, 3) := by decide +kernel
theorem dX12_ways_207 : decode cX12_ways 207 = .ok (.bipush 48, 2) := by decide +kernel
theorem dX12_ways_209 : decode cX12_ways 209 = .ok (.aload_n 0, 1) := by decide +kernel
theorem dX12_ways_210 : decode cX12_ways 210 = .ok (.getfield 115, 3) := by decide +kernel
theorem dX12_ways_213 : decode cX12_ways 213 = .ok (.iload 13, 2) := by decide +kernel
theorem dX12_ways_215 : decode cX12_ways 215 = .ok (.iaload, 1) := by decide +kernel
theorem dX12_ways_216 : decode cX12_ways 216 = .ok (.iadd, 1) := by decide +kernel
theorem dX12_ways_217 : decode cX12_ways 217 = .ok (.iconst 1, 1) := by decide +kernel
theorem dX12_ways_218 : decode cX12_ways 218 = .ok (.iastore, 1) := by decide +kernel
theorem dX12_ways_219 : decode cX12_ways 219 = .ok (.iinc 13 1, 3) := by decide +kernel
theorem dX12_ways_222 : decode cX12_ways 222 = .ok (.goto (-71), 3) := by decide +kernel
theorem dX12_ways_225 : decode cX12_ways 225 = .ok (.iload 10, 2) := by decide +kernel
theorem dX12_ways_227 : decode cX12_ways 227 = .ok (.iload 6, 2) := by decide +kernel
theorem dX12_ways_229 : decode cX12_ways 229 = .ok (.if_icmp .ge 24, 3) := by decide +kernel
theorem dX12_ways_232 : decode cX12_ways 232 = .ok (.aload_n 0, 1) := by decide +kernel
theorem dX12_ways_233 : decode cX12_ways 233 = .ok (.iload_n 1, 1) := by decide +kernel
theorem dX12_ways_234 : decode cX12_ways 234 = .ok (.iload_n 2, 1) := by decide +kernel
theorem dX12_ways_235 : decode cX12_ways 235 = .ok (.iload_n 3, 1) := by decide +kernel
theorem dX12_ways_236 : decode cX12_ways 236 = .ok (.invokevirtual 487, 3) := by decide +kernel
theorem dX12_ways_239 : decode cX12_ways 239 = .ok (.ldc_w 484, 3) := by decide +kernel
theorem dX12_ways_242 : decode cX12_ways 242 = .ok (.if_icmp .eq 11, 3) := by decide +kernel
theorem dX12_ways_245 : decode cX12_ways 245 = .ok (.iload 10, 2) := by decide +kernel
theorem dX12_ways_247 : decode cX12_ways 247 = .ok (.istore 6, 2) := by decide +kernel
theorem dX12_ways_249 : decode cX12_ways 249 = .ok (.lload 11, 2) := by decide +kernel
theorem dX12_ways_251 : decode cX12_ways 251 = .ok (.lstore 7, 2) := by decide +kernel
theorem dX12_ways_253 : decode cX12_ways 253 = .ok (.aload_n 0, 1) := by decide +kernel
theorem dX12_ways_254 : decode cX12_ways 254 = .ok (.bipush 16, 2) := by decide +kernel
theorem dX12_ways_256 : decode cX12_ways 256 = .ok (.invokevirtual 179, 3) := by decide +kernel
theorem dX12_ways_259 : decode cX12_ways 259 = .ok (.iinc 9 1, 3) := by decide +kernel
theorem dX12_ways_262 : decode cX12_ways 262 = .ok (.goto (-135), 3) := by decide +kernel
theorem dX12_ways_265 : decode cX12_ways 265 = .ok (.iload 6, 2) := by decide +kernel
theorem dX12_ways_267 : decode cX12_ways 267 = .ok (.ldc_w 484, 3) := by decide +kernel
theorem dX12_ways_270 : decode cX12_ways 270 = .ok (.if_icmp .ne 9, 3) := by decide +kernel
theorem dX12_ways_273 : decode cX12_ways 273 = .ok (.ldc2_w 268, 3) := by decide +kernel
theorem dX12_ways_276 : decode cX12_ways 276 = .ok (.goto 16, 3) := by decide +kernel
theorem dX12_ways_279 : decode cX12_ways 279 = .ok (.iload 4, 2) := by decide +kernel
theorem dX12_ways_281 : decode cX12_ways 281 = .ok (.ifCond .ne 9, 3) := by decide +kernel
theorem dX12_ways_284 : decode cX12_ways 284 = .ok (.iload 6, 2) := by decide +kernel
theorem dX12_ways_286 : decode cX12_ways 286 = .ok (.i2l, 1) := by decide +kernel
theorem dX12_ways_287 : decode cX12_ways 287 = .ok (.goto 5, 3) := by decide +kernel
theorem dX12_ways_290 : decode cX12_ways 290 = .ok (.lload 7, 2) := by decide +kernel
theorem dX12_ways_292 : decode cX12_ways 292 = .ok (.lreturn, 1) := by decide +kernel
set_option maxRecDepth 20000 in
theorem rX12_ways_0 {E : EN} (hE : Ep E) {k : Nat} {mem : Mm} {Q : Int → Mm → Prop} {p0 p1 p2 p3 : Int}
    (h : (R32 p0 → CI E mX12_isPlot k (aUp mem 603 0 0) [aR 603, aI p0] (fun r2 m1 => ((r2 = 0 → VM E mX12_ways (k + 1) m1 43 [] [] (retL Q)) ∧ (¬ r2 = 0 → (R32 p1 → CI E mX12_isCell k m1 [aI p1] (fun r4 m3 => ((r4 = 0 → VM E mX12_ways (k + 1) m3 43 [] [] (retL Q)) ∧ (¬ r4 = 0 → (R64 p2 → CI E mX12_in k m3 [aL p2, aL 0, aL 30] (fun r6 m5 => ((r6 = 0 → VM E mX12_ways (k + 1) m5 43 [] [] (retL Q)) ∧ (¬ r6 = 0 → (R64 p3 → CI E mX12_in k m5 [aL p3, aL 0, aL 1] (fun r8 m7 => ((¬ r8 = 0 → VM E mX12_ways (k + 1) m7 53 [(0, aR 603), (1, aI p0), (2, aI p1), (3, aI p2), (4, aI p3), (5, aI 0), (6, aI 0)] [] (retL Q)) ∧ (r8 = 0 → VM E mX12_ways (k + 1) m7 43 [] [] (retL Q)))))))))))))))))) :
    VM E mX12_ways (k + 1) mem 0 [(0, aR 603), (1, aI p0), (2, aI p1), (3, aI p2), (4, aI p3)] [] (retL Q) := by
  refine v_aload_n (pc := 0) dX12_ways_0 0 rfl ?_
  refine v_iconst (pc := 1) dX12_ways_1 (by decide) ?_
  refine v_putf (pc := 2) dX12_ways_2 flX12_162 ⟨_, _, rfl, Or.inl rfl⟩ rfl (by decide) (fun q => nomatch q) (Or.inl fun _ => rfl) at603 ?_
  refine v_aload_n (pc := 5) dX12_ways_5 0 rfl ?_
  refine v_iload_n (pc := 6) dX12_ways_6 1 rfl ?_
  refine m_invI (pc := 7) (mi' := mX12_isPlot) (rest := []) [aI p0] dX12_ways_7 at603 (by decide) rfl msX12_isPlot mvX12_isPlot lkX12_214 rfl (Nat.le_of_ble_eq_true rfl) (fun hn => CI_mono (h (aaI hn 1 rfl)) (fun r2 m1 h => ?_))
  refine v_ifeq (pc := 10) (tgt := 43) dX12_ways_10 (by decide) (fun c1 => ?_) (fun c1 => ?_)
  · have h := h.1 c1
    exact VG_sub (al' := []) [] rfl h
  · have h := h.2 c1
    refine v_iload_n (pc := 13) dX12_ways_13 2 rfl ?_
    refine m_invSI (pc := 14) (mi' := mX12_isCell) (rest := []) [aI p1] dX12_ways_14 msX12_isCell stX12_isCell lkX12_192 rfl (Nat.le_of_ble_eq_true rfl) (fun hn => CI_mono (h (aaI hn 0 rfl)) (fun r4 m3 h => ?_))
    refine v_ifeq (pc := 17) (tgt := 43) dX12_ways_17 (by decide) (fun c1 => ?_) (fun c1 => ?_)
    · have h := h.1 c1
      exact VG_sub (al' := []) [] rfl h
    · have h := h.2 c1
      refine v_iload_n (pc := 20) dX12_ways_20 3 rfl ?_
      refine v_i2l (pc := 21) dX12_ways_21 ?_
      refine v_lconst0 (pc := 22) dX12_ways_22 ?_
      refine v_ldc2 (pc := 23) (n := 30) dX12_ways_23 cnX12_485 (by decide) ?_
      refine m_invSI (pc := 26) (mi' := mX12_in) (rest := []) [aL p2, aL 0, aL 30] dX12_ways_26 msX12_in stX12_in lkX12_182 rfl (Nat.le_of_ble_eq_true rfl) (fun hn => CI_mono (h (aaL hn 0 rfl)) (fun r6 m5 h => ?_))
      refine v_ifeq (pc := 29) (tgt := 43) dX12_ways_29 (by decide) (fun c1 => ?_) (fun c1 => ?_)
      · have h := h.1 c1
        exact VG_sub (al' := []) [] rfl h
      · have h := h.2 c1
        refine v_iload (pc := 32) dX12_ways_32 4 rfl ?_
        refine v_i2l (pc := 34) dX12_ways_34 ?_
        refine v_lconst0 (pc := 35) dX12_ways_35 ?_
        refine v_lconst1 (pc := 36) dX12_ways_36 ?_
        refine m_invSI (pc := 37) (mi' := mX12_in) (rest := []) [aL p3, aL 0, aL 1] dX12_ways_37 msX12_in stX12_in lkX12_182 rfl (Nat.le_of_ble_eq_true rfl) (fun hn => CI_mono (h (aaL hn 0 rfl)) (fun r8 m7 h => ?_))
        refine v_ifne (pc := 40) (tgt := 47) dX12_ways_40 (by decide) (fun c1 => ?_) (fun c1 => ?_)
        · have h := h.1 c1
          refine v_iconst (pc := 47) dX12_ways_47 (by decide) ?_
          refine v_istore (pc := 48) (al2 := [(5, aI 0), (0, aR 603), (1, aI p0), (2, aI p1), (3, aI p2), (4, aI p3)]) dX12_ways_48 (by decide) rfl ?_
          refine v_iconst (pc := 50) dX12_ways_50 (by decide) ?_
          refine v_istore (pc := 51) (al2 := [(6, aI 0), (5, aI 0), (0, aR 603), (1, aI p0), (2, aI p1), (3, aI p2), (4, aI p3)]) dX12_ways_51 (by decide) rfl ?_
          exact VG_sub (al' := [(0, aR 603), (1, aI p0), (2, aI p1), (3, aI p2), (4, aI p3), (5, aI 0), (6, aI 0)]) [2, 3, 4, 5, 6, 1, 0] rfl h
        · have h := h.2 c1
          exact VG_sub (al' := []) [] rfl h
theorem eX12_ways {E : EN} {k : Nat} {mem : Mm} {Q : Int → Mm → Prop} {p0 p1 p2 p3 : Int} (hr_p0 : R32 p0) (hr_p1 : R32 p1) (hr_p2 : R32 p2) (hr_p3 : R32 p3) (h : VM E mX12_ways (k + 1) mem 0 [(0, aR 603), (1, aI p0), (2, aI p1), (3, aI p2), (4, aI p3)] [] (retL Q)) : CL E mX12_ways (k + 1) mem [aR 603, aI p0, aI p1, aI p2, aI p3] Q := CL_of rfl (Nat.le_of_ble_eq_true rfl) h (aNs_c (aNr_R _) (aNs_c (aNr_I hr_p0) (aNs_c (aNr_I hr_p1) (aNs_c (aNr_I hr_p2) (aNs_c (aNr_I hr_p3) (fun _ q => nomatch q))))))
set_option maxRecDepth 20000 in
theorem rX12_ways_43 {E : EN} (hE : Ep E) {k : Nat} {mem : Mm} {Q : Int → Mm → Prop} {p0 p1 p2 p3 : Int}
    (h : Q (-1) mem) :
    VM E mX12_ways (k + 1) mem 43 [] [] (retL Q) := by
  refine v_ldc2 (pc := 43) (n := (-1)) dX12_ways_43 cnX12_268 (by decide) ?_
  exact m_retL (pc := 46) dX12_ways_46 rfl h
set_option maxRecDepth 20000 in
theorem rX12_ways_53 {E : EN} (hE : Ep E) {k : Nat} {mem : Mm} {Q : Int → Mm → Prop} {p0 p1 p2 p3 x5 x6 : Int}
    (h : ((32 ≤ x6 → VM E mX12_ways (k + 1) mem 127 [(0, aR 603), (1, aI p0), (2, aI p1), (3, aI p2), (4, aI p3), (5, aI x5), (6, aI 100000000), (7, aL 0), (9, aI 0)] [] (retL Q)) ∧ (x6 < 32 → (R32 (80 + x6)) ∧ (0 ≤ (80 + x6) ∧ (80 + x6) < 5570) ∧ ((¬ (mem 605 (80 + x6)) = 1 → VM E mX12_ways (k + 1) mem 110 [(0, aR 603), (1, aI p0), (2, aI p1), (3, aI p2), (4, aI p3), (5, aI x5), (6, aI x6)] [] (retL Q)) ∧ ((mem 605 (80 + x6)) = 1 → (R32 (48 + x6)) ∧ (0 ≤ (48 + x6) ∧ (48 + x6) < 5570) ∧ ((¬ (mem 605 (48 + x6)) = 0 → VM E mX12_ways (k + 1) mem 110 [(0, aR 603), (1, aI p0), (2, aI p1), (3, aI p2), (4, aI p3), (5, aI x5), (6, aI x6)] [] (retL Q)) ∧ ((mem 605 (48 + x6)) = 0 → ((¬ x5 = 8 → (0 ≤ x5 ∧ x5 < 8) ∧ (R32 (x5 + 1)) ∧ VM E mX12_ways (k + 1) (aUp mem 625 x5 x6) 110 [(0, aR 603), (1, aI p0), (2, aI p1), (3, aI p2), (4, aI p3), (5, aI (x5 + 1)), (6, aI x6)] [] (retL Q)) ∧ (x5 = 8 → Q (-1) mem))))))))) :
    VM E mX12_ways (k + 1) mem 53 [(0, aR 603), (1, aI p0), (2, aI p1), (3, aI p2), (4, aI p3), (5, aI x5), (6, aI x6)] [] (retL Q) := by
  refine v_iload (pc := 53) dX12_ways_53 6 rfl ?_
  refine v_bipush (pc := 55) dX12_ways_55 (by decide) ?_
  refine v_icmpge (pc := 57) (tgt := 116) dX12_ways_57 (by decide) (fun c1 => ?_) (fun c1 => ?_)
  · have h := h.1 c1
    refine v_ldcw (pc := 116) (n := 100000000) dX12_ways_116 cnX12_484 (by decide) ?_
    refine v_istore (pc := 119) (al2 := [(6, aI 100000000), (0, aR 603), (1, aI p0), (2, aI p1), (3, aI p2), (4, aI p3), (5, aI x5)]) dX12_ways_119 (by decide) rfl ?_
    refine v_lconst0 (pc := 121) dX12_ways_121 ?_
    refine v_lstore (pc := 122) (al2 := [(7, aL 0), (6, aI 100000000), (0, aR 603), (1, aI p0), (2, aI p1), (3, aI p2), (4, aI p3), (5, aI x5)]) dX12_ways_122 (by decide) rfl ?_
    refine v_iconst (pc := 124) dX12_ways_124 (by decide) ?_
    refine v_istore (pc := 125) (al2 := [(9, aI 0), (7, aL 0), (6, aI 100000000), (0, aR 603), (1, aI p0), (2, aI p1), (3, aI p2), (4, aI p3), (5, aI x5)]) dX12_ways_125 (by decide) rfl ?_
    exact VG_sub (al' := [(0, aR 603), (1, aI p0), (2, aI p1), (3, aI p2), (4, aI p3), (5, aI x5), (6, aI 100000000), (7, aL 0), (9, aI 0)]) [3, 4, 5, 6, 7, 8, 2, 1, 0] rfl h
  · have h := h.2 c1
    refine v_aload_n (pc := 60) dX12_ways_60 0 rfl ?_
    refine m_getfin (pc := 61) (v := 605) hE dX12_ways_61 flX12_13 rfl at603 rfl ?_
    refine v_bipush (pc := 64) dX12_ways_64 (by decide) ?_
    refine v_iload (pc := 66) dX12_ways_66 6 rfl ?_
    obtain ⟨o1, h⟩ := h
    refine m_iadd (pc := 68) dX12_ways_68 o1 ?_
    obtain ⟨o2, h⟩ := h
    refine m_iald (pc := 69) (v := (mem 605 (80 + x6))) dX12_ways_69 at605 o2.1 o2.2 rfl ?_
    refine v_iconst (pc := 70) dX12_ways_70 (by decide) ?_
    refine v_icmpne (pc := 71) (tgt := 110) dX12_ways_71 (by decide) (fun c1 => ?_) (fun c1 => ?_)
    · have h := h.1 c1
      exact VG_sub (al' := [(0, aR 603), (1, aI p0), (2, aI p1), (3, aI p2), (4, aI p3), (5, aI x5), (6, aI x6)]) [0, 1, 2, 3, 4, 5, 6] rfl h
    · have h := h.2 c1
      refine v_aload_n (pc := 74) dX12_ways_74 0 rfl ?_
      refine m_getfin (pc := 75) (v := 605) hE dX12_ways_75 flX12_13 rfl at603 rfl ?_
      refine v_bipush (pc := 78) dX12_ways_78 (by decide) ?_
      refine v_iload (pc := 80) dX12_ways_80 6 rfl ?_
      obtain ⟨o3, h⟩ := h
      refine m_iadd (pc := 82) dX12_ways_82 o3 ?_
      obtain ⟨o4, h⟩ := h
      refine m_iald (pc := 83) (v := (mem 605 (48 + x6))) dX12_ways_83 at605 o4.1 o4.2 rfl ?_
      refine v_ifne (pc := 84) (tgt := 110) dX12_ways_84 (by decide) (fun c1 => ?_) (fun c1 => ?_)
      · have h := h.1 c1
        exact VG_sub (al' := [(0, aR 603), (1, aI p0), (2, aI p1), (3, aI p2), (4, aI p3), (5, aI x5), (6, aI x6)]) [0, 1, 2, 3, 4, 5, 6] rfl h
      · have h := h.2 c1
        refine v_iload (pc := 87) dX12_ways_87 5 rfl ?_
        refine v_bipush (pc := 89) dX12_ways_89 (by decide) ?_
        refine v_icmpne (pc := 91) (tgt := 98) dX12_ways_91 (by decide) (fun c1 => ?_) (fun c1 => ?_)
        · have h := h.1 c1
          refine v_aload_n (pc := 98) dX12_ways_98 0 rfl ?_
          refine m_getfin (pc := 99) (v := 625) hE dX12_ways_99 flX12_115 rfl at603 rfl ?_
          refine v_iload (pc := 102) dX12_ways_102 5 rfl ?_
          refine v_iload (pc := 104) dX12_ways_104 6 rfl ?_
          obtain ⟨o5, h⟩ := h
          refine v_iast (pc := 106) dX12_ways_106 at625 o5.1 o5.2 ?_
          obtain ⟨o6, h⟩ := h
          refine m_iinc (pc := 107) (al2 := [(5, aI (x5 + 1)), (0, aR 603), (1, aI p0), (2, aI p1), (3, aI p2), (4, aI p3), (6, aI x6)]) dX12_ways_107 5 rfl (by decide) o6 rfl ?_
          exact VG_sub (al' := [(0, aR 603), (1, aI p0), (2, aI p1), (3, aI p2), (4, aI p3), (5, aI (x5 + 1)), (6, aI x6)]) [1, 2, 3, 4, 5, 0, 6] rfl h
        · have h := h.2 c1
          refine v_ldc2 (pc := 94) (n := (-1)) dX12_ways_94 cnX12_268 (by decide) ?_
          exact m_retL (pc := 97) dX12_ways_97 rfl h
set_option maxRecDepth 20000 in
theorem rX12_ways_127 {E : EN} (hE : Ep E) {k : Nat} {mem : Mm} {Q : Int → Mm → Prop} {p0 p1 p2 p3 x5 x6 x7 x9 : Int}
    (h : (((xShl 1 x5) ≤ x9 → ((¬ x6 = 100000000 → ((¬ p3 = 0 → Q x7 mem) ∧ (p3 = 0 → Q x6 mem))) ∧ (x6 = 100000000 → Q (-1) mem))) ∧ (x9 < (xShl 1 x5) → (CV E mX12_keepAll k mem [aR 603, aI 16] (fun m1 => VM E mX12_ways (k + 1) m1 151 [(0, aR 603), (1, aI p0), (2, aI p1), (3, aI p2), (4, aI p3), (5, aI x5), (6, aI x6), (7, aL x7), (9, aI x9), (10, aI 0), (11, aL 0), (13, aI 0)] [] (retL Q)))))) :
    VM E mX12_ways (k + 1) mem 127 [(0, aR 603), (1, aI p0), (2, aI p1), (3, aI p2), (4, aI p3), (5, aI x5), (6, aI x6), (7, aL x7), (9, aI x9)] [] (retL Q) := by
  refine v_iload (pc := 127) dX12_ways_127 8 rfl ?_
  refine v_iconst (pc := 129) dX12_ways_129 (by decide) ?_
  refine v_iload (pc := 130) dX12_ways_130 5 rfl ?_
  refine v_ishl (pc := 132) dX12_ways_132 ?_
  refine v_icmpge (pc := 133) (tgt := 265) dX12_ways_133 (by decide) (fun c1 => ?_) (fun c1 => ?_)
  · have h := h.1 c1
    refine v_iload (pc := 265) dX12_ways_265 6 rfl ?_
    refine v_ldcw (pc := 267) (n := 100000000) dX12_ways_267 cnX12_484 (by decide) ?_
    refine v_icmpne (pc := 270) (tgt := 279) dX12_ways_270 (by decide) (fun c1 => ?_) (fun c1 => ?_)
    · have h := h.1 c1
      refine v_iload (pc := 279) dX12_ways_279 4 rfl ?_
      refine v_ifne (pc := 281) (tgt := 290) dX12_ways_281 (by decide) (fun c1 => ?_) (fun c1 => ?_)
      · have h := h.1 c1
        refine v_lload (pc := 290) dX12_ways_290 7 rfl ?_
        exact m_retL (pc := 292) dX12_ways_292 rfl h
      · have h := h.2 c1
        refine v_iload (pc := 284) dX12_ways_284 6 rfl ?_
        refine v_i2l (pc := 286) dX12_ways_286 ?_
        refine v_goto (pc := 287) (tgt := 292) dX12_ways_287 (by decide) ?_
        exact m_retL (pc := 292) dX12_ways_292 rfl h
    · have h := h.2 c1
      refine v_ldc2 (pc := 273) (n := (-1)) dX12_ways_273 cnX12_268 (by decide) ?_
      refine v_goto (pc := 276) (tgt := 292) dX12_ways_276 (by decide) ?_
      exact m_retL (pc := 292) dX12_ways_292 rfl h
  · have h := h.2 c1
    refine v_iconst (pc := 136) dX12_ways_136 (by decide) ?_
    refine v_istore (pc := 137) (al2 := [(10, aI 0), (0, aR 603), (1, aI p0), (2, aI p1), (3, aI p2), (4, aI p3), (5, aI x5), (6, aI x6), (7, aL x7), (9, aI x9)]) dX12_ways_137 (by decide) rfl ?_
    refine v_lconst0 (pc := 139) dX12_ways_139 ?_
    refine v_lstore (pc := 140) (al2 := [(11, aL 0), (10, aI 0), (0, aR 603), (1, aI p0), (2, aI p1), (3, aI p2), (4, aI p3), (5, aI x5), (6, aI x6), (7, aL x7), (9, aI x9)]) dX12_ways_140 (by decide) rfl ?_
    refine v_aload_n (pc := 142) dX12_ways_142 2 rfl ?_
    refine v_bipush (pc := 143) dX12_ways_143 (by decide) ?_
    refine m_invV (pc := 145) (mi' := mX12_keepAll) (rest := []) [aI 16] dX12_ways_145 at603 (by decide) rfl msX12_keepAll mvX12_keepAll lkX12_171 rfl (Nat.le_of_ble_eq_true rfl) (fun hn => CV_mono (h) (fun m1 h => ?_))
    refine v_iconst (pc := 148) dX12_ways_148 (by decide) ?_
    refine v_istore (pc := 149) (al2 := [(13, aI 0), (11, aL 0), (10, aI 0), (0, aR 603), (1, aI p0), (2, aI p1), (3, aI p2), (4, aI p3), (5, aI x5), (6, aI x6), (7, aL x7), (9, aI x9)]) dX12_ways_149 (by decide) rfl ?_
    exact VG_sub (al' := [(0, aR 603), (1, aI p0), (2, aI p1), (3, aI p2), (4, aI p3), (5, aI x5), (6, aI x6), (7, aL x7), (9, aI x9), (10, aI 0), (11, aL 0), (13, aI 0)]) [3, 4, 5, 6, 7, 8, 9, 10, 11, 2, 1, 0] rfl h
set_option maxRecDepth 20000 in
theorem rX12_ways_110 {E : EN} (hE : Ep E) {k : Nat} {mem : Mm} {Q : Int → Mm → Prop} {p0 p1 p2 p3 x5 x6 : Int}
    (h : (R32 (x6 + 1)) ∧ VM E mX12_ways (k + 1) mem 53 [(0, aR 603), (1, aI p0), (2, aI p1), (3, aI p2), (4, aI p3), (5, aI x5), (6, aI (x6 + 1))] [] (retL Q)) :
    VM E mX12_ways (k + 1) mem 110 [(0, aR 603), (1, aI p0), (2, aI p1), (3, aI p2), (4, aI p3), (5, aI x5), (6, aI x6)] [] (retL Q) := by
  obtain ⟨o1, h⟩ := h
  refine m_iinc (pc := 110) (al2 := [(6, aI (x6 + 1)), (0, aR 603), (1, aI p0), (2, aI p1), (3, aI p2), (4, aI p3), (5, aI x5)]) dX12_ways_110 6 rfl (by decide) o1 rfl ?_
  refine v_goto (pc := 113) (tgt := 53) dX12_ways_113 (by decide) ?_
  exact VG_sub (al' := [(0, aR 603), (1, aI p0), (2, aI p1), (3, aI p2), (4, aI p3), (5, aI x5), (6, aI (x6 + 1))]) [1, 2, 3, 4, 5, 6, 0] rfl h
set_option maxRecDepth 20000 in
theorem rX12_ways_151 {E : EN} (hE : Ep E) {k : Nat} {mem : Mm} {Q : Int → Mm → Prop} {p0 p1 p2 p3 x5 x6 x7 x9 x10 x11 x13 : Int}
    (h : ((x5 ≤ x13 → ((x6 ≤ x10 → VM E mX12_ways (k + 1) mem 253 [(0, aR 603), (1, aI p0), (2, aI p1), (3, aI p2), (4, aI p3), (5, aI x5), (6, aI x6), (7, aL x7), (9, aI x9)] [] (retL Q)) ∧ (x10 < x6 → (R32 p0 → R32 p1 → R32 p2 → CI E mX12_yearIn k mem [aR 603, aI p0, aI p1, aI p2] (fun r2 m1 => ((r2 = 100000000 → VM E mX12_ways (k + 1) m1 253 [(0, aR 603), (1, aI p0), (2, aI p1), (3, aI p2), (4, aI p3), (5, aI x5), (6, aI x6), (7, aL x7), (9, aI x9)] [] (retL Q)) ∧ (¬ r2 = 100000000 → VM E mX12_ways (k + 1) m1 253 [(0, aR 603), (1, aI p0), (2, aI p1), (3, aI p2), (4, aI p3), (5, aI x5), (6, aI x10), (7, aL x11), (9, aI x9)] [] (retL Q)))))))) ∧ (x13 < x5 → ((¬ (xAnd (xShr x9 x13) 1) = 1 → VM E mX12_ways (k + 1) mem 219 [(0, aR 603), (1, aI p0), (2, aI p1), (3, aI p2), (4, aI p3), (5, aI x5), (6, aI x6), (7, aL x7), (9, aI x9), (10, aI x10), (11, aL x11), (13, aI x13)] [] (retL Q)) ∧ ((xAnd (xShr x9 x13) 1) = 1 → (0 ≤ x13 ∧ x13 < 8) ∧ (R32 (112 + (mem 625 x13))) ∧ (0 ≤ (112 + (mem 625 x13)) ∧ (112 + (mem 625 x13)) < 5570) ∧ (R32 (x10 + (mem 605 (112 + (mem 625 x13))))) ∧ (R32 (48 + (mem 625 x13))) ∧ (0 ≤ (48 + (mem 625 x13)) ∧ (48 + (mem 625 x13)) < 5570) ∧ VM E mX12_ways (k + 1) (aUp mem 605 (48 + (mem 625 x13)) 1) 219 [(0, aR 603), (1, aI p0), (2, aI p1), (3, aI p2), (4, aI p3), (5, aI x5), (6, aI x6), (7, aL x7), (9, aI x9), (10, aI (x10 + (mem 605 (112 + (mem 625 x13))))), (11, aL (xLor x11 (xLshl 1 (mem 625 x13)))), (13, aI x13)] [] (retL Q)))))) :
    VM E mX12_ways (k + 1) mem 151 [(0, aR 603), (1, aI p0), (2, aI p1), (3, aI p2), (4, aI p3), (5, aI x5), (6, aI x6), (7, aL x7), (9, aI x9), (10, aI x10), (11, aL x11), (13, aI x13)] [] (retL Q) := by
  refine v_iload (pc := 151) dX12_ways_151 11 rfl ?_
  refine v_iload (pc := 153) dX12_ways_153 5 rfl ?_
  refine v_icmpge (pc := 155) (tgt := 225) dX12_ways_155 (by decide) (fun c1 => ?_) (fun c1 => ?_)
  · have h := h.1 c1
    refine v_iload (pc := 225) dX12_ways_225 9 rfl ?_
    refine v_iload (pc := 227) dX12_ways_227 6 rfl ?_
    refine v_icmpge (pc := 229) (tgt := 253) dX12_ways_229 (by decide) (fun c1 => ?_) (fun c1 => ?_)
    · have h := h.1 c1
      exact VG_sub (al' := [(0, aR 603), (1, aI p0), (2, aI p1), (3, aI p2), (4, aI p3), (5, aI x5), (6, aI x6), (7, aL x7), (9, aI x9)]) [0, 1, 2, 3, 4, 5, 6, 7, 8] rfl h
    · have h := h.2 c1
      refine v_aload_n (pc := 232) dX12_ways_232 0 rfl ?_
      refine v_iload_n (pc := 233) dX12_ways_233 1 rfl ?_
      refine v_iload_n (pc := 234) dX12_ways_234 2 rfl ?_
      refine v_iload_n (pc := 235) dX12_ways_235 3 rfl ?_
      refine m_invI (pc := 236) (mi' := mX12_yearIn) (rest := []) [aI p0, aI p1, aI p2] dX12_ways_236 at603 (by decide) rfl msX12_yearIn mvX12_yearIn lkX12_487 rfl (Nat.le_of_ble_eq_true rfl) (fun hn => CI_mono (h (aaI hn 1 rfl) (aaI hn 2 rfl) (aaI hn 3 rfl)) (fun r2 m1 h => ?_))
      refine v_ldcw (pc := 239) (n := 100000000) dX12_ways_239 cnX12_484 (by decide) ?_
      refine v_icmpeq (pc := 242) (tgt := 253) dX12_ways_242 (by decide) (fun c1 => ?_) (fun c1 => ?_)
      · have h := h.1 c1
        exact VG_sub (al' := [(0, aR 603), (1, aI p0), (2, aI p1), (3, aI p2), (4, aI p3), (5, aI x5), (6, aI x6), (7, aL x7), (9, aI x9)]) [0, 1, 2, 3, 4, 5, 6, 7, 8] rfl h
      · have h := h.2 c1
        refine v_iload (pc := 245) dX12_ways_245 9 rfl ?_
        refine v_istore (pc := 247) (al2 := [(6, aI x10), (0, aR 603), (1, aI p0), (2, aI p1), (3, aI p2), (4, aI p3), (5, aI x5), (7, aL x7), (9, aI x9), (10, aI x10), (11, aL x11), (13, aI x13)]) dX12_ways_247 (by decide) rfl ?_
        refine v_lload (pc := 249) dX12_ways_249 10 rfl ?_
        refine v_lstore (pc := 251) (al2 := [(7, aL x11), (6, aI x10), (0, aR 603), (1, aI p0), (2, aI p1), (3, aI p2), (4, aI p3), (5, aI x5), (9, aI x9), (10, aI x10), (11, aL x11), (13, aI x13)]) dX12_ways_251 (by decide) rfl ?_
        exact VG_sub (al' := [(0, aR 603), (1, aI p0), (2, aI p1), (3, aI p2), (4, aI p3), (5, aI x5), (6, aI x10), (7, aL x11), (9, aI x9)]) [2, 3, 4, 5, 6, 7, 1, 0, 8] rfl h
  · have h := h.2 c1
    refine v_iload (pc := 158) dX12_ways_158 8 rfl ?_
    refine v_iload (pc := 160) dX12_ways_160 11 rfl ?_
    refine v_ishr (pc := 162) dX12_ways_162 ?_
    refine v_iconst (pc := 163) dX12_ways_163 (by decide) ?_
    refine v_iand (pc := 164) dX12_ways_164 ?_
    refine v_iconst (pc := 165) dX12_ways_165 (by decide) ?_
    refine v_icmpne (pc := 166) (tgt := 219) dX12_ways_166 (by decide) (fun c1 => ?_) (fun c1 => ?_)
    · have h := h.1 c1
      exact VG_sub (al' := [(0, aR 603), (1, aI p0), (2, aI p1), (3, aI p2), (4, aI p3), (5, aI x5), (6, aI x6), (7, aL x7), (9, aI x9), (10, aI x10), (11, aL x11), (13, aI x13)]) [0, 1, 2, 3, 4, 5, 6, 7, 8, 9, 10, 11] rfl h
    · have h := h.2 c1
      refine v_iload (pc := 169) dX12_ways_169 9 rfl ?_
      refine v_aload_n (pc := 171) dX12_ways_171 0 rfl ?_
      refine m_getfin (pc := 172) (v := 605) hE dX12_ways_172 flX12_13 rfl at603 rfl ?_
      refine v_bipush (pc := 175) dX12_ways_175 (by decide) ?_
      refine v_aload_n (pc := 177) dX12_ways_177 0 rfl ?_
      refine m_getfin (pc := 178) (v := 625) hE dX12_ways_178 flX12_115 rfl at603 rfl ?_
      refine v_iload (pc := 181) dX12_ways_181 11 rfl ?_
      obtain ⟨o3, h⟩ := h
      refine m_iald (pc := 183) (v := (mem 625 x13)) dX12_ways_183 at625 o3.1 o3.2 rfl ?_
      obtain ⟨o4, h⟩ := h
      refine m_iadd (pc := 184) dX12_ways_184 o4 ?_
      obtain ⟨o5, h⟩ := h
      refine m_iald (pc := 185) (v := (mem 605 (112 + (mem 625 x13)))) dX12_ways_185 at605 o5.1 o5.2 rfl ?_
      obtain ⟨o6, h⟩ := h
      refine m_iadd (pc := 186) dX12_ways_186 o6 ?_
      refine v_istore (pc := 187) (al2 := [(10, aI (x10 + (mem 605 (112 + (mem 625 x13))))), (0, aR 603), (1, aI p0), (2, aI p1), (3, aI p2), (4, aI p3), (5, aI x5), (6, aI x6), (7, aL x7), (9, aI x9), (11, aL x11), (13, aI x13)]) dX12_ways_187 (by decide) rfl ?_
      refine v_lload (pc := 189) dX12_ways_189 10 rfl ?_
      refine v_lconst1 (pc := 191) dX12_ways_191 ?_
      refine v_aload_n (pc := 192) dX12_ways_192 1 rfl ?_
      refine m_getfin (pc := 193) (v := 625) hE dX12_ways_193 flX12_115 rfl at603 rfl ?_
      refine v_iload (pc := 196) dX12_ways_196 11 rfl ?_
      refine m_iald (pc := 198) (v := (mem 625 x13)) dX12_ways_198 at625 o3.1 o3.2 rfl ?_
      refine v_lshl (pc := 199) dX12_ways_199 ?_
      refine v_lor (pc := 200) dX12_ways_200 ?_
      refine v_lstore (pc := 201) (al2 := [(11, aL (xLor x11 (xLshl 1 (mem 625 x13)))), (10, aI (x10 + (mem 605 (112 + (mem 625 x13))))), (0, aR 603), (1, aI p0), (2, aI p1), (3, aI p2), (4, aI p3), (5, aI x5), (6, aI x6), (7, aL x7), (9, aI x9), (13, aI x13)]) dX12_ways_201 (by decide) rfl ?_
      refine v_aload_n (pc := 203) dX12_ways_203 2 rfl ?_
      refine m_getfin (pc := 204) (v := 605) hE dX12_ways_204 flX12_13 rfl at603 rfl ?_
      refine v_bipush (pc := 207) dX12_ways_207 (by decide) ?_
      refine v_aload_n (pc := 209) dX12_ways_209 2 rfl ?_
      refine m_getfin (pc := 210) (v := 625) hE dX12_ways_210 flX12_115 rfl at603 rfl ?_
      refine v_iload (pc := 213) dX12_ways_213 11 rfl ?_
      refine m_iald (pc := 215) (v := (mem 625 x13)) dX12_ways_215 at625 o3.1 o3.2 rfl ?_
      obtain ⟨o7, h⟩ := h
      refine m_iadd (pc := 216) dX12_ways_216 o7 ?_
      refine v_iconst (pc := 217) dX12_ways_217 (by decide) ?_
      obtain ⟨o8, h⟩ := h
      refine v_iast (pc := 218) dX12_ways_218 at605 o8.1 o8.2 ?_
      exact VG_sub (al' := [(0, aR 603), (1, aI p0), (2, aI p1), (3, aI p2), (4, aI p3), (5, aI x5), (6, aI x6), (7, aL x7), (9, aI x9), (10, aI (x10 + (mem 605 (112 + (mem 625 x13))))), (11, aL (xLor x11 (xLshl 1 (mem 625 x13)))), (13, aI x13)]) [2, 3, 4, 5, 6, 7, 8, 9, 10, 1, 0, 11] rfl h
set_option maxRecDepth 20000 in
theorem rX12_ways_253 {E : EN} (hE : Ep E) {k : Nat} {mem : Mm} {Q : Int → Mm → Prop} {p0 p1 p2 p3 x5 x6 x7 x9 : Int}
    (h : (CV E mX12_putBack k mem [aR 603, aI 16] (fun m1 => (R32 (x9 + 1)) ∧ VM E mX12_ways (k + 1) m1 127 [(0, aR 603), (1, aI p0), (2, aI p1), (3, aI p2), (4, aI p3), (5, aI x5), (6, aI x6), (7, aL x7), (9, aI (x9 + 1))] [] (retL Q)))) :
    VM E mX12_ways (k + 1) mem 253 [(0, aR 603), (1, aI p0), (2, aI p1), (3, aI p2), (4, aI p3), (5, aI x5), (6, aI x6), (7, aL x7), (9, aI x9)] [] (retL Q) := by
  refine v_aload_n (pc := 253) dX12_ways_253 0 rfl ?_
  refine v_bipush (pc := 254) dX12_ways_254 (by decide) ?_
  refine m_invV (pc := 256) (mi' := mX12_putBack) (rest := []) [aI 16] dX12_ways_256 at603 (by decide) rfl msX12_putBack mvX12_putBack lkX12_179 rfl (Nat.le_of_ble_eq_true rfl) (fun hn => CV_mono (h) (fun m1 h => ?_))
  obtain ⟨o2, h⟩ := h
  refine m_iinc (pc := 259) (al2 := [(9, aI (x9 + 1)), (0, aR 603), (1, aI p0), (2, aI p1), (3, aI p2), (4, aI p3), (5, aI x5), (6, aI x6), (7, aL x7)]) dX12_ways_259 8 rfl (by decide) o2 rfl ?_
  refine v_goto (pc := 262) (tgt := 127) dX12_ways_262 (by decide) ?_
  exact VG_sub (al' := [(0, aR 603), (1, aI p0), (2, aI p1), (3, aI p2), (4, aI p3), (5, aI x5), (6, aI x6), (7, aL x7), (9, aI (x9 + 1))]) [1, 2, 3, 4, 5, 6, 7, 8, 0] rfl h
set_option maxRecDepth 20000 in
theorem rX12_ways_219 {E : EN} (hE : Ep E) {k : Nat} {mem : Mm} {Q : Int → Mm → Prop} {p0 p1 p2 p3 x5 x6 x7 x9 x10 x11 x13 : Int}
    (h : (R32 (x13 + 1)) ∧ VM E mX12_ways (k + 1) mem 151 [(0, aR 603), (1, aI p0), (2, aI p1), (3, aI p2), (4, aI p3), (5, aI x5), (6, aI x6), (7, aL x7), (9, aI x9), (10, aI x10), (11, aL x11), (13, aI (x13 + 1))] [] (retL Q)) :
    VM E mX12_ways (k + 1) mem 219 [(0, aR 603), (1, aI p0), (2, aI p1), (3, aI p2), (4, aI p3), (5, aI x5), (6, aI x6), (7, aL x7), (9, aI x9), (10, aI x10), (11, aL x11), (13, aI x13)] [] (retL Q) := by
  obtain ⟨o1, h⟩ := h
  refine m_iinc (pc := 219) (al2 := [(13, aI (x13 + 1)), (0, aR 603), (1, aI p0), (2, aI p1), (3, aI p2), (4, aI p3), (5, aI x5), (6, aI x6), (7, aL x7), (9, aI x9), (10, aI x10), (11, aL x11)]) dX12_ways_219 11 rfl (by decide) o1 rfl ?_
  refine v_goto (pc := 222) (tgt := 151) dX12_ways_222 (by decide) ?_
  exact VG_sub (al' := [(0, aR 603), (1, aI p0), (2, aI p1), (3, aI p2), (4, aI p3), (5, aI x5), (6, aI x6), (7, aL x7), (9, aI x9), (10, aI x10), (11, aL x11), (13, aI (x13 + 1))]) [1, 2, 3, 4, 5, 6, 7, 8, 9, 10, 11, 0] rfl h

theorem dX12_round_0 : decode cX12_round 0 = .ok (.aload_n 0, 1) := by decide +kernel
theorem dX12_round_1 : decode cX12_round 1 = .ok (.iconst 0, 1) := by decide +kernel
theorem dX12_round_2 : decode cX12_round 2 = .ok (.putfield 162, 3) := by decide +kernel
theorem dX12_round_5 : decode cX12_round 5 = .ok (.aload_n 0, 1) := by decide +kernel
theorem dX12_round_6 : decode cX12_round 6 = .ok (.iload_n 1, 1) := by decide +kernel
theorem dX12_round_7 : decode cX12_round 7 = .ok (.invokevirtual 214, 3) := by decide +kernel
theorem dX12_round_10 : decode cX12_round 10 = .ok (.ifCond .ne 5, 3) := by decide +kernel
theorem dX12_round_13 : decode cX12_round 13 = .ok (.iconst (-1), 1) := by decide +kernel
theorem dX12_round_14 : decode cX12_round 14 = .ok (.ireturn, 1) := by decide +kernel
theorem dX12_round_15 : decode cX12_round 15 = .ok (.aload_n 0, 1) := by decide +kernel
theorem dX12_round_16 : decode cX12_round 16 = .ok (.bipush 16, 2) := by decide +kernel
theorem dX12_round_18 : decode cX12_round 18 = .ok (.invokevirtual 171, 3) := by decide +kernel
theorem dX12_round_21 : decode cX12_round 21 = .ok (.iconst 0, 1) := by decide +kernel
theorem dX12_round_22 : decode cX12_round 22 = .ok (.istore_n 2, 1) := by decide +kernel
theorem dX12_round_23 : decode cX12_round 23 = .ok (.iconst 0, 1) := by decide +kernel
theorem dX12_round_24 : decode cX12_round 24 = .ok (.istore_n 3, 1) := by decide +kernel
theorem dX12_round_25 : decode cX12_round 25 = .ok (.iload_n 2, 1) := by decide +kernel
theorem dX12_round_26 : decode cX12_round 26 = .ok (.sipush 200, 3) := by decide +kernel
theorem dX12_round_29 : decode cX12_round 29 = .ok (.if_icmp .gt 29, 3) := by decide +kernel
theorem dX12_round_32 : decode cX12_round 32 = .ok (.iload_n 3, 1) := by decide +kernel
theorem dX12_round_33 : decode cX12_round 33 = .ok (.bipush 32, 2) := by decide +kernel
theorem dX12_round_35 : decode cX12_round 35 = .ok (.if_icmp .ge 23, 3) := by decide +kernel
theorem dX12_round_38 : decode cX12_round 38 = .ok (.aload_n 0, 1) := by decide +kernel
theorem dX12_round_39 : decode cX12_round 39 = .ok (.invokevirtual 470, 3) := by decide +kernel
theorem dX12_round_42 : decode cX12_round 42 = .ok (.pop, 1) := by decide +kernel
theorem dX12_round_43 : decode cX12_round 43 = .ok (.iload_n 3, 1) := by decide +kernel
theorem dX12_round_44 : decode cX12_round 44 = .ok (.aload_n 0, 1) := by decide +kernel
theorem dX12_round_45 : decode cX12_round 45 = .ok (.getfield 112, 3) := by decide +kernel
theorem dX12_round_48 : decode cX12_round 48 = .ok (.iload_n 1, 1) := by decide +kernel
theorem dX12_round_49 : decode cX12_round 49 = .ok (.iaload, 1) := by decide +kernel
theorem dX12_round_50 : decode cX12_round 50 = .ok (.iadd, 1) := by decide +kernel
theorem dX12_round_51 : decode cX12_round 51 = .ok (.istore_n 3, 1) := by decide +kernel
theorem dX12_round_52 : decode cX12_round 52 = .ok (.iinc 2 1, 3) := by decide +kernel
theorem dX12_round_55 : decode cX12_round 55 = .ok (.goto (-30), 3) := by decide +kernel
theorem dX12_round_58 : decode cX12_round 58 = .ok (.aload_n 0, 1) := by decide +kernel
theorem dX12_round_59 : decode cX12_round 59 = .ok (.bipush 16, 2) := by decide +kernel
theorem dX12_round_61 : decode cX12_round 61 = .ok (.invokevirtual 179, 3) := by decide +kernel
theorem dX12_round_64 : decode cX12_round 64 = .ok (.iload_n 2, 1) := by decide +kernel
theorem dX12_round_65 : decode cX12_round 65 = .ok (.sipush 200, 3) := by decide +kernel
theorem dX12_round_68 : decode cX12_round 68 = .ok (.if_icmp .le 7, 3) := by decide +kernel
theorem dX12_round_71 : decode cX12_round 71 = .ok (.iconst (-1), 1) := by decide +kernel
theorem dX12_round_72 : decode cX12_round 72 = .ok (.goto 4, 3) := by decide +kernel
theorem dX12_round_75 : decode cX12_round 75 = .ok (.iload_n 2, 1) := by decide +kernel
theorem dX12_round_76 : decode cX12_round 76 = .ok (.ireturn, 1) := by decide +kernel
set_option maxRecDepth 20000 in
theorem rX12_round_0 {E : EN} (hE : Ep E) {k : Nat} {mem : Mm} {Q : Int → Mm → Prop} {p0 : Int}
    (h : (R32 p0 → CI E mX12_isPlot k (aUp mem 603 0 0) [aR 603, aI p0] (fun r2 m1 => ((¬ r2 = 0 → (CV E mX12_keepAll k m1 [aR 603, aI 16] (fun m3 => VM E mX12_round (k + 1) m3 25 [(0, aR 603), (1, aI p0), (2, aI 0), (3, aI 0)] [] (retI Q)))) ∧ (r2 = 0 → Q (-1) m1))))) :
    VM E mX12_round (k + 1) mem 0 [(0, aR 603), (1, aI p0)] [] (retI Q) := by
  refine v_aload_n (pc := 0) dX12_round_0 0 rfl ?_
  refine v_iconst (pc := 1) dX12_round_1 (by decide) ?_
  refine v_putf (pc := 2) dX12_round_2 flX12_162 ⟨_, _, rfl, Or.inl rfl⟩ rfl (by decide) (fun q => nomatch q) (Or.inl fun _ => rfl) at603 ?_
  refine v_aload_n (pc := 5) dX12_round_5 0 rfl ?_
  refine v_iload_n (pc := 6) dX12_round_6 1 rfl ?_
  refine m_invI (pc := 7) (mi' := mX12_isPlot) (rest := []) [aI p0] dX12_round_7 at603 (by decide) rfl msX12_isPlot mvX12_isPlot lkX12_214 rfl (Nat.le_of_ble_eq_true rfl) (fun hn => CI_mono (h (aaI hn 1 rfl)) (fun r2 m1 h => ?_))
  refine v_ifne (pc := 10) (tgt := 15) dX12_round_10 (by decide) (fun c1 => ?_) (fun c1 => ?_)
  · have h := h.1 c1
    refine v_aload_n (pc := 15) dX12_round_15 0 rfl ?_
    refine v_bipush (pc := 16) dX12_round_16 (by decide) ?_
    refine m_invV (pc := 18) (mi' := mX12_keepAll) (rest := []) [aI 16] dX12_round_18 at603 (by decide) rfl msX12_keepAll mvX12_keepAll lkX12_171 rfl (Nat.le_of_ble_eq_true rfl) (fun hn => CV_mono (h) (fun m3 h => ?_))
    refine v_iconst (pc := 21) dX12_round_21 (by decide) ?_
    refine v_istore_n (pc := 22) (al2 := [(2, aI 0), (0, aR 603), (1, aI p0)]) dX12_round_22 (by decide) rfl ?_
    refine v_iconst (pc := 23) dX12_round_23 (by decide) ?_
    refine v_istore_n (pc := 24) (al2 := [(3, aI 0), (2, aI 0), (0, aR 603), (1, aI p0)]) dX12_round_24 (by decide) rfl ?_
    exact VG_sub (al' := [(0, aR 603), (1, aI p0), (2, aI 0), (3, aI 0)]) [2, 3, 1, 0] rfl h
  · have h := h.2 c1
    refine v_iconst (pc := 13) dX12_round_13 (by decide) ?_
    exact m_retI (pc := 14) dX12_round_14 rfl h
theorem eX12_round {E : EN} {k : Nat} {mem : Mm} {Q : Int → Mm → Prop} {p0 : Int} (hr_p0 : R32 p0) (h : VM E mX12_round (k + 1) mem 0 [(0, aR 603), (1, aI p0)] [] (retI Q)) : CI E mX12_round (k + 1) mem [aR 603, aI p0] Q := CI_of rfl (Nat.le_of_ble_eq_true rfl) h (aNs_c (aNr_R _) (aNs_c (aNr_I hr_p0) (fun _ q => nomatch q)))
set_option maxRecDepth 20000 in
theorem rX12_round_25 {E : EN} (hE : Ep E) {k : Nat} {mem : Mm} {Q : Int → Mm → Prop} {p0 x2 x3 : Int}
    (h : ((200 < x2 → (CV E mX12_putBack k mem [aR 603, aI 16] (fun m1 => ((x2 ≤ 200 → Q x2 m1) ∧ (200 < x2 → Q (-1) m1))))) ∧ (x2 ≤ 200 → ((32 ≤ x3 → (CV E mX12_putBack k mem [aR 603, aI 16] (fun m2 => ((x2 ≤ 200 → Q x2 m2) ∧ (200 < x2 → Q (-1) m2))))) ∧ (x3 < 32 → (CI E mX12_passIt k mem [aR 603] (fun r4 m3 => (0 ≤ p0 ∧ p0 < 10) ∧ (R32 (x3 + (m3 624 p0))) ∧ (R32 (x2 + 1)) ∧ VM E mX12_round (k + 1) m3 25 [(0, aR 603), (1, aI p0), (2, aI (x2 + 1)), (3, aI (x3 + (m3 624 p0)))] [] (retI Q)))))))) :
    VM E mX12_round (k + 1) mem 25 [(0, aR 603), (1, aI p0), (2, aI x2), (3, aI x3)] [] (retI Q) := by
  refine v_iload_n (pc := 25) dX12_round_25 2 rfl ?_
  refine v_sipush (pc := 26) dX12_round_26 (by decide) ?_
  refine v_icmpgt (pc := 29) (tgt := 58) dX12_round_29 (by decide) (fun c1 => ?_) (fun c1 => ?_)
  · have h := h.1 c1
    refine v_aload_n (pc := 58) dX12_round_58 0 rfl ?_
    refine v_bipush (pc := 59) dX12_round_59 (by decide) ?_
    refine m_invV (pc := 61) (mi' := mX12_putBack) (rest := []) [aI 16] dX12_round_61 at603 (by decide) rfl msX12_putBack mvX12_putBack lkX12_179 rfl (Nat.le_of_ble_eq_true rfl) (fun hn => CV_mono (h) (fun m1 h => ?_))
    refine v_iload_n (pc := 64) dX12_round_64 2 rfl ?_
    refine v_sipush (pc := 65) dX12_round_65 (by decide) ?_
    refine v_icmple (pc := 68) (tgt := 75) dX12_round_68 (by decide) (fun c1 => ?_) (fun c1 => ?_)
    · have h := h.1 c1
      refine v_iload_n (pc := 75) dX12_round_75 2 rfl ?_
      exact m_retI (pc := 76) dX12_round_76 rfl h
    · have h := h.2 c1
      refine v_iconst (pc := 71) dX12_round_71 (by decide) ?_
      refine v_goto (pc := 72) (tgt := 76) dX12_round_72 (by decide) ?_
      exact m_retI (pc := 76) dX12_round_76 rfl h
  · have h := h.2 c1
    refine v_iload_n (pc := 32) dX12_round_32 3 rfl ?_
    refine v_bipush (pc := 33) dX12_round_33 (by decide) ?_
    refine v_icmpge (pc := 35) (tgt := 58) dX12_round_35 (by decide) (fun c1 => ?_) (fun c1 => ?_)
    · have h := h.1 c1
      refine v_aload_n (pc := 58) dX12_round_58 0 rfl ?_
      refine v_bipush (pc := 59) dX12_round_59 (by decide) ?_
      refine m_invV (pc := 61) (mi' := mX12_putBack) (rest := []) [aI 16] dX12_round_61 at603 (by decide) rfl msX12_putBack mvX12_putBack lkX12_179 rfl (Nat.le_of_ble_eq_true rfl) (fun hn => CV_mono (h) (fun m2 h => ?_))
      refine v_iload_n (pc := 64) dX12_round_64 2 rfl ?_
      refine v_sipush (pc := 65) dX12_round_65 (by decide) ?_
      refine v_icmple (pc := 68) (tgt := 75) dX12_round_68 (by decide) (fun c1 => ?_) (fun c1 => ?_)
      · have h := h.1 c1
        refine v_iload_n (pc := 75) dX12_round_75 2 rfl ?_
        exact m_retI (pc := 76) dX12_round_76 rfl h
      · have h := h.2 c1
        refine v_iconst (pc := 71) dX12_round_71 (by decide) ?_
        refine v_goto (pc := 72) (tgt := 76) dX12_round_72 (by decide) ?_
        exact m_retI (pc := 76) dX12_round_76 rfl h
    · have h := h.2 c1
      refine v_aload_n (pc := 38) dX12_round_38 0 rfl ?_
      refine m_invI (pc := 39) (mi' := mX12_passIt) (rest := []) [] dX12_round_39 at603 (by decide) rfl msX12_passIt mvX12_passIt lkX12_470 rfl (Nat.le_of_ble_eq_true rfl) (fun hn => CI_mono (h) (fun r4 m3 h => ?_))
      refine v_pop (pc := 42) dX12_round_42 rfl ?_
      refine v_iload_n (pc := 43) dX12_round_43 3 rfl ?_
      refine v_aload_n (pc := 44) dX12_round_44 0 rfl ?_
      refine m_getfin (pc := 45) (v := 624) hE dX12_round_45 flX12_112 rfl at603 rfl ?_
      refine v_iload_n (pc := 48) dX12_round_48 1 rfl ?_
      obtain ⟨o5, h⟩ := h
      refine m_iald (pc := 49) (v := (m3 624 p0)) dX12_round_49 at624 o5.1 o5.2 rfl ?_
      obtain ⟨o6, h⟩ := h
      refine m_iadd (pc := 50) dX12_round_50 o6 ?_
      refine v_istore_n (pc := 51) (al2 := [(3, aI (x3 + (m3 624 p0))), (0, aR 603), (1, aI p0), (2, aI x2)]) dX12_round_51 (by decide) rfl ?_
      obtain ⟨o7, h⟩ := h
      refine m_iinc (pc := 52) (al2 := [(2, aI (x2 + 1)), (3, aI (x3 + (m3 624 p0))), (0, aR 603), (1, aI p0)]) dX12_round_52 3 rfl (by decide) o7 rfl ?_
      refine v_goto (pc := 55) (tgt := 25) dX12_round_55 (by decide) ?_
      exact VG_sub (al' := [(0, aR 603), (1, aI p0), (2, aI (x2 + 1)), (3, aI (x3 + (m3 624 p0)))]) [2, 3, 0, 1] rfl h

theorem dX12_compare_0 : decode cX12_compare 0 = .ok (.aload_n 0, 1) := by decide +kernel
theorem dX12_compare_1 : decode cX12_compare 1 = .ok (.iconst 0, 1) := by decide +kernel
theorem dX12_compare_2 : decode cX12_compare 2 = .ok (.putfield 162, 3) := by decide +kernel
theorem dX12_compare_5 : decode cX12_compare 5 = .ok (.aload_n 0, 1) := by decide +kernel
theorem dX12_compare_6 : decode cX12_compare 6 = .ok (.iload_n 1, 1) := by decide +kernel
theorem dX12_compare_7 : decode cX12_compare 7 = .ok (.invokevirtual 386, 3) := by decide +kernel
theorem dX12_compare_10 : decode cX12_compare 10 = .ok (.ifCond .eq 15, 3) := by decide +kernel
theorem dX12_compare_13 : decode cX12_compare 13 = .ok (.iload_n 2, 1) := by decide +kernel
theorem dX12_compare_14 : decode cX12_compare 14 = .ok (.i2l, 1) := by decide +kernel
theorem dX12_compare_15 : decode cX12_compare 15 = .ok (.lconst 1, 1) := by decide +kernel
theorem dX12_compare_16 : decode cX12_compare 16 = .ok (.ldc2_w 490, 3) := by decide +kernel
theorem dX12_compare_19 : decode cX12_compare 19 = .ok (.invokestatic 182, 3) := by decide +kernel
theorem dX12_compare_22 : decode cX12_compare 22 = .ok (.ifCond .ne 5, 3) := by decide +kernel
theorem dX12_compare_25 : decode cX12_compare 25 = .ok (.iconst (-1), 1) := by decide +kernel
theorem dX12_compare_26 : decode cX12_compare 26 = .ok (.ireturn, 1) := by decide +kernel
theorem dX12_compare_27 : decode cX12_compare 27 = .ok (.aload_n 0, 1) := by decide +kernel
theorem dX12_compare_28 : decode cX12_compare 28 = .ok (.getfield 13, 3) := by decide +kernel
theorem dX12_compare_31 : decode cX12_compare 31 = .ok (.iconst 2, 1) := by decide +kernel
theorem dX12_compare_32 : decode cX12_compare 32 = .ok (.iaload, 1) := by decide +kernel
theorem dX12_compare_33 : decode cX12_compare 33 = .ok (.istore_n 3, 1) := by decide +kernel
theorem dX12_compare_34 : decode cX12_compare 34 = .ok (.aload_n 0, 1) := by decide +kernel
theorem dX12_compare_35 : decode cX12_compare 35 = .ok (.getfield 13, 3) := by decide +kernel
theorem dX12_compare_38 : decode cX12_compare 38 = .ok (.iconst 2, 1) := by decide +kernel
theorem dX12_compare_39 : decode cX12_compare 39 = .ok (.iload_n 1, 1) := by decide +kernel
theorem dX12_compare_40 : decode cX12_compare 40 = .ok (.iastore, 1) := by decide +kernel
theorem dX12_compare_41 : decode cX12_compare 41 = .ok (.aload_n 0, 1) := by decide +kernel
theorem dX12_compare_42 : decode cX12_compare 42 = .ok (.bipush 16, 2) := by decide +kernel
theorem dX12_compare_44 : decode cX12_compare 44 = .ok (.invokevirtual 171, 3) := by decide +kernel
theorem dX12_compare_47 : decode cX12_compare 47 = .ok (.iconst 0, 1) := by decide +kernel
theorem dX12_compare_48 : decode cX12_compare 48 = .ok (.istore 4, 2) := by decide +kernel
theorem dX12_compare_50 : decode cX12_compare 50 = .ok (.iconst 0, 1) := by decide +kernel
theorem dX12_compare_51 : decode cX12_compare 51 = .ok (.istore 5, 2) := by decide +kernel
theorem dX12_compare_53 : decode cX12_compare 53 = .ok (.iload 5, 2) := by decide +kernel
theorem dX12_compare_55 : decode cX12_compare 55 = .ok (.iload_n 2, 1) := by decide +kernel
theorem dX12_compare_56 : decode cX12_compare 56 = .ok (.if_icmp .ge 18, 3) := by decide +kernel
theorem dX12_compare_59 : decode cX12_compare 59 = .ok (.iload 4, 2) := by decide +kernel
theorem dX12_compare_61 : decode cX12_compare 61 = .ok (.aload_n 0, 1) := by decide +kernel
theorem dX12_compare_62 : decode cX12_compare 62 = .ok (.invokevirtual 470, 3) := by decide +kernel
theorem dX12_compare_65 : decode cX12_compare 65 = .ok (.iadd, 1) := by decide +kernel
theorem dX12_compare_66 : decode cX12_compare 66 = .ok (.istore 4, 2) := by decide +kernel
theorem dX12_compare_68 : decode cX12_compare 68 = .ok (.iinc 5 1, 3) := by decide +kernel
theorem dX12_compare_71 : decode cX12_compare 71 = .ok (.goto (-18), 3) := by decide +kernel
theorem dX12_compare_74 : decode cX12_compare 74 = .ok (.aload_n 0, 1) := by decide +kernel
theorem dX12_compare_75 : decode cX12_compare 75 = .ok (.bipush 16, 2) := by decide +kernel
theorem dX12_compare_77 : decode cX12_compare 77 = .ok (.invokevirtual 179, 3) := by decide +kernel
theorem dX12_compare_80 : decode cX12_compare 80 = .ok (.aload_n 0, 1) := by decide +kernel
theorem dX12_compare_81 : decode cX12_compare 81 = .ok (.getfield 13, 3) := by decide +kernel
theorem dX12_compare_84 : decode cX12_compare 84 = .ok (.iconst 2, 1) := by decide +kernel
theorem dX12_compare_85 : decode cX12_compare 85 = .ok (.iload_n 3, 1) := by decide +kernel
theorem dX12_compare_86 : decode cX12_compare 86 = .ok (.iastore, 1) := by decide +kernel
theorem dX12_compare_87 : decode cX12_compare 87 = .ok (.iload 4, 2) := by decide +kernel
theorem dX12_compare_89 : decode cX12_compare 89 = .ok (.ireturn, 1) := by decide +kernel
set_option maxRecDepth 20000 in
theorem rX12_compare_0 {E : EN} (hE : Ep E) {k : Nat} {mem : Mm} {Q : Int → Mm → Prop} {p0 p1 : Int}
    (h : (R32 p0 → CI E mX12_isLaw k (aUp mem 603 0 0) [aR 603, aI p0] (fun r2 m1 => ((r2 = 0 → Q (-1) m1) ∧ (¬ r2 = 0 → (R64 p1 → CI E mX12_in k m1 [aL p1, aL 1, aL 60] (fun r4 m3 => ((¬ r4 = 0 → (CV E mX12_keepAll k (aUp m3 605 2 p0) [aR 603, aI 16] (fun m5 => VM E mX12_compare (k + 1) m5 53 [(0, aR 603), (2, aI p1), (3, aI (m3 605 2)), (4, aI 0), (5, aI 0)] [] (retI Q)))) ∧ (r4 = 0 → Q (-1) m3))))))))) :
    VM E mX12_compare (k + 1) mem 0 [(0, aR 603), (1, aI p0), (2, aI p1)] [] (retI Q) := by
  refine v_aload_n (pc := 0) dX12_compare_0 0 rfl ?_
  refine v_iconst (pc := 1) dX12_compare_1 (by decide) ?_
  refine v_putf (pc := 2) dX12_compare_2 flX12_162 ⟨_, _, rfl, Or.inl rfl⟩ rfl (by decide) (fun q => nomatch q) (Or.inl fun _ => rfl) at603 ?_
  refine v_aload_n (pc := 5) dX12_compare_5 0 rfl ?_
  refine v_iload_n (pc := 6) dX12_compare_6 1 rfl ?_
  refine m_invI (pc := 7) (mi' := mX12_isLaw) (rest := []) [aI p0] dX12_compare_7 at603 (by decide) rfl msX12_isLaw mvX12_isLaw lkX12_386 rfl (Nat.le_of_ble_eq_true rfl) (fun hn => CI_mono (h (aaI hn 1 rfl)) (fun r2 m1 h => ?_))
  refine v_ifeq (pc := 10) (tgt := 25) dX12_compare_10 (by decide) (fun c1 => ?_) (fun c1 => ?_)
  · have h := h.1 c1
    refine v_iconst (pc := 25) dX12_compare_25 (by decide) ?_
    exact m_retI (pc := 26) dX12_compare_26 rfl h
  · have h := h.2 c1
    refine v_iload_n (pc := 13) dX12_compare_13 2 rfl ?_
    refine v_i2l (pc := 14) dX12_compare_14 ?_
    refine v_lconst1 (pc := 15) dX12_compare_15 ?_
    refine v_ldc2 (pc := 16) (n := 60) dX12_compare_16 cnX12_490 (by decide) ?_
    refine m_invSI (pc := 19) (mi' := mX12_in) (rest := []) [aL p1, aL 1, aL 60] dX12_compare_19 msX12_in stX12_in lkX12_182 rfl (Nat.le_of_ble_eq_true rfl) (fun hn => CI_mono (h (aaL hn 0 rfl)) (fun r4 m3 h => ?_))
    refine v_ifne (pc := 22) (tgt := 27) dX12_compare_22 (by decide) (fun c1 => ?_) (fun c1 => ?_)
    · have h := h.1 c1
      refine v_aload_n (pc := 27) dX12_compare_27 0 rfl ?_
      refine m_getfin (pc := 28) (v := 605) hE dX12_compare_28 flX12_13 rfl at603 rfl ?_
      refine v_iconst (pc := 31) dX12_compare_31 (by decide) ?_
      refine m_iald (pc := 32) (v := (m3 605 2)) dX12_compare_32 at605 (by omega) (by omega) rfl ?_
      refine v_istore_n (pc := 33) (al2 := [(3, aI (m3 605 2)), (0, aR 603), (1, aI p0), (2, aI p1)]) dX12_compare_33 (by decide) rfl ?_
      refine v_aload_n (pc := 34) dX12_compare_34 1 rfl ?_
      refine m_getfin (pc := 35) (v := 605) hE dX12_compare_35 flX12_13 rfl at603 rfl ?_
      refine v_iconst (pc := 38) dX12_compare_38 (by decide) ?_
      refine v_iload_n (pc := 39) dX12_compare_39 2 rfl ?_
      refine v_iast (pc := 40) dX12_compare_40 at605 (by omega) (by omega) ?_
      refine v_aload_n (pc := 41) dX12_compare_41 1 rfl ?_
      refine v_bipush (pc := 42) dX12_compare_42 (by decide) ?_
      refine m_invV (pc := 44) (mi' := mX12_keepAll) (rest := []) [aI 16] dX12_compare_44 at603 (by decide) rfl msX12_keepAll mvX12_keepAll lkX12_171 rfl (Nat.le_of_ble_eq_true rfl) (fun hn => CV_mono (h) (fun m5 h => ?_))
      refine v_iconst (pc := 47) dX12_compare_47 (by decide) ?_
      refine v_istore (pc := 48) (al2 := [(4, aI 0), (3, aI (m3 605 2)), (0, aR 603), (1, aI p0), (2, aI p1)]) dX12_compare_48 (by decide) rfl ?_
      refine v_iconst (pc := 50) dX12_compare_50 (by decide) ?_
      refine v_istore (pc := 51) (al2 := [(5, aI 0), (4, aI 0), (3, aI (m3 605 2)), (0, aR 603), (1, aI p0), (2, aI p1)]) dX12_compare_51 (by decide) rfl ?_
      exact VG_sub (al' := [(0, aR 603), (2, aI p1), (3, aI (m3 605 2)), (4, aI 0), (5, aI 0)]) [3, 5, 2, 1, 0] rfl h
    · have h := h.2 c1
      refine v_iconst (pc := 25) dX12_compare_25 (by decide) ?_
      exact m_retI (pc := 26) dX12_compare_26 rfl h
theorem eX12_compare {E : EN} {k : Nat} {mem : Mm} {Q : Int → Mm → Prop} {p0 p1 : Int} (hr_p0 : R32 p0) (hr_p1 : R32 p1) (h : VM E mX12_compare (k + 1) mem 0 [(0, aR 603), (1, aI p0), (2, aI p1)] [] (retI Q)) : CI E mX12_compare (k + 1) mem [aR 603, aI p0, aI p1] Q := CI_of rfl (Nat.le_of_ble_eq_true rfl) h (aNs_c (aNr_R _) (aNs_c (aNr_I hr_p0) (aNs_c (aNr_I hr_p1) (fun _ q => nomatch q))))
set_option maxRecDepth 20000 in
theorem rX12_compare_53 {E : EN} (hE : Ep E) {k : Nat} {mem : Mm} {Q : Int → Mm → Prop} {p0 p1 x3 x4 x5 : Int}
    (h : ((p1 ≤ x5 → (CV E mX12_putBack k mem [aR 603, aI 16] (fun m1 => Q x4 (aUp m1 605 2 x3)))) ∧ (x5 < p1 → (CI E mX12_passIt k mem [aR 603] (fun r3 m2 => (R32 (x4 + r3)) ∧ (R32 (x5 + 1)) ∧ VM E mX12_compare (k + 1) m2 53 [(0, aR 603), (2, aI p1), (3, aI x3), (4, aI (x4 + r3)), (5, aI (x5 + 1))] [] (retI Q)))))) :
    VM E mX12_compare (k + 1) mem 53 [(0, aR 603), (2, aI p1), (3, aI x3), (4, aI x4), (5, aI x5)] [] (retI Q) := by
  refine v_iload (pc := 53) dX12_compare_53 4 rfl ?_
  refine v_iload_n (pc := 55) dX12_compare_55 1 rfl ?_
  refine v_icmpge (pc := 56) (tgt := 74) dX12_compare_56 (by decide) (fun c1 => ?_) (fun c1 => ?_)
  · have h := h.1 c1
    refine v_aload_n (pc := 74) dX12_compare_74 0 rfl ?_
    refine v_bipush (pc := 75) dX12_compare_75 (by decide) ?_
    refine m_invV (pc := 77) (mi' := mX12_putBack) (rest := []) [aI 16] dX12_compare_77 at603 (by decide) rfl msX12_putBack mvX12_putBack lkX12_179 rfl (Nat.le_of_ble_eq_true rfl) (fun hn => CV_mono (h) (fun m1 h => ?_))
    refine v_aload_n (pc := 80) dX12_compare_80 0 rfl ?_
    refine m_getfin (pc := 81) (v := 605) hE dX12_compare_81 flX12_13 rfl at603 rfl ?_
    refine v_iconst (pc := 84) dX12_compare_84 (by decide) ?_
    refine v_iload_n (pc := 85) dX12_compare_85 2 rfl ?_
    refine v_iast (pc := 86) dX12_compare_86 at605 (by omega) (by omega) ?_
    refine v_iload (pc := 87) dX12_compare_87 3 rfl ?_
    exact m_retI (pc := 89) dX12_compare_89 rfl h
  · have h := h.2 c1
    refine v_iload (pc := 59) dX12_compare_59 3 rfl ?_
    refine v_aload_n (pc := 61) dX12_compare_61 0 rfl ?_
    refine m_invI (pc := 62) (mi' := mX12_passIt) (rest := [aI x4]) [] dX12_compare_62 at603 (by decide) rfl msX12_passIt mvX12_passIt lkX12_470 rfl (Nat.le_of_ble_eq_true rfl) (fun hn => CI_mono (h) (fun r3 m2 h => ?_))
    obtain ⟨o4, h⟩ := h
    refine m_iadd (pc := 65) dX12_compare_65 o4 ?_
    refine v_istore (pc := 66) (al2 := [(4, aI (x4 + r3)), (0, aR 603), (2, aI p1), (3, aI x3), (5, aI x5)]) dX12_compare_66 (by decide) rfl ?_
    obtain ⟨o5, h⟩ := h
    refine m_iinc (pc := 68) (al2 := [(5, aI (x5 + 1)), (4, aI (x4 + r3)), (0, aR 603), (2, aI p1), (3, aI x3)]) dX12_compare_68 4 rfl (by decide) o5 rfl ?_
    refine v_goto (pc := 71) (tgt := 53) dX12_compare_71 (by decide) ?_
    exact VG_sub (al' := [(0, aR 603), (2, aI p1), (3, aI x3), (4, aI (x4 + r3)), (5, aI (x5 + 1))]) [2, 3, 4, 1, 0] rfl h

theorem dX12_arrives_0 : decode cX12_arrives 0 = .ok (.aload_n 0, 1) := by decide +kernel
theorem dX12_arrives_1 : decode cX12_arrives 1 = .ok (.iconst 0, 1) := by decide +kernel
theorem dX12_arrives_2 : decode cX12_arrives 2 = .ok (.putfield 162, 3) := by decide +kernel
theorem dX12_arrives_5 : decode cX12_arrives 5 = .ok (.aload_n 0, 1) := by decide +kernel
theorem dX12_arrives_6 : decode cX12_arrives 6 = .ok (.iload_n 1, 1) := by decide +kernel
theorem dX12_arrives_7 : decode cX12_arrives 7 = .ok (.invokevirtual 214, 3) := by decide +kernel
theorem dX12_arrives_10 : decode cX12_arrives 10 = .ok (.ifCond .eq 22, 3) := by decide +kernel
theorem dX12_arrives_13 : decode cX12_arrives 13 = .ok (.iload_n 2, 1) := by decide +kernel
theorem dX12_arrives_14 : decode cX12_arrives 14 = .ok (.invokestatic 192, 3) := by decide +kernel
theorem dX12_arrives_17 : decode cX12_arrives 17 = .ok (.ifCond .eq 15, 3) := by decide +kernel
theorem dX12_arrives_20 : decode cX12_arrives 20 = .ok (.iload_n 3, 1) := by decide +kernel
theorem dX12_arrives_21 : decode cX12_arrives 21 = .ok (.i2l, 1) := by decide +kernel
theorem dX12_arrives_22 : decode cX12_arrives 22 = .ok (.lconst 0, 1) := by decide +kernel
theorem dX12_arrives_23 : decode cX12_arrives 23 = .ok (.ldc2_w 492, 3) := by decide +kernel
theorem dX12_arrives_26 : decode cX12_arrives 26 = .ok (.invokestatic 182, 3) := by decide +kernel
theorem dX12_arrives_29 : decode cX12_arrives 29 = .ok (.ifCond .ne 7, 3) := by decide +kernel
theorem dX12_arrives_32 : decode cX12_arrives 32 = .ok (.ldc2_w 268, 3) := by decide +kernel
theorem dX12_arrives_35 : decode cX12_arrives 35 = .ok (.lreturn, 1) := by decide +kernel
theorem dX12_arrives_36 : decode cX12_arrives 36 = .ok (.aload_n 0, 1) := by decide +kernel
theorem dX12_arrives_37 : decode cX12_arrives 37 = .ok (.bipush 16, 2) := by decide +kernel
theorem dX12_arrives_39 : decode cX12_arrives 39 = .ok (.invokevirtual 171, 3) := by decide +kernel
theorem dX12_arrives_42 : decode cX12_arrives 42 = .ok (.aload_n 0, 1) := by decide +kernel
theorem dX12_arrives_43 : decode cX12_arrives 43 = .ok (.iload_n 1, 1) := by decide +kernel
theorem dX12_arrives_44 : decode cX12_arrives 44 = .ok (.iload_n 2, 1) := by decide +kernel
theorem dX12_arrives_45 : decode cX12_arrives 45 = .ok (.iload_n 3, 1) := by decide +kernel
theorem dX12_arrives_46 : decode cX12_arrives 46 = .ok (.invokevirtual 487, 3) := by decide +kernel
theorem dX12_arrives_49 : decode cX12_arrives 49 = .ok (.istore 4, 2) := by decide +kernel
theorem dX12_arrives_51 : decode cX12_arrives 51 = .ok (.aload_n 0, 1) := by decide +kernel
theorem dX12_arrives_52 : decode cX12_arrives 52 = .ok (.bipush 16, 2) := by decide +kernel
theorem dX12_arrives_54 : decode cX12_arrives 54 = .ok (.invokevirtual 179, 3) := by decide +kernel
theorem dX12_arrives_57 : decode cX12_arrives 57 = .ok (.iload 4, 2) := by decide +kernel
theorem dX12_arrives_59 : decode cX12_arrives 59 = .ok (.ldc_w 484, 3) := by decide +kernel
theorem dX12_arrives_62 : decode cX12_arrives 62 = .ok (.if_icmp .ne 5, 3) := by decide +kernel
theorem dX12_arrives_65 : decode cX12_arrives 65 = .ok (.lconst 0, 1) := by decide +kernel
theorem dX12_arrives_66 : decode cX12_arrives 66 = .ok (.lreturn, 1) := by decide +kernel
theorem dX12_arrives_67 : decode cX12_arrives 67 = .ok (.iconst 0, 1) := by decide +kernel
theorem dX12_arrives_68 : decode cX12_arrives 68 = .ok (.istore 5, 2) := by decide +kernel
theorem dX12_arrives_70 : decode cX12_arrives 70 = .ok (.iload 5, 2) := by decide +kernel
theorem dX12_arrives_72 : decode cX12_arrives 72 = .ok (.bipush 42, 2) := by decide +kernel
theorem dX12_arrives_74 : decode cX12_arrives 74 = .ok (.if_icmp .ge 17, 3) := by decide +kernel
theorem dX12_arrives_77 : decode cX12_arrives 77 = .ok (.aload_n 0, 1) := by decide +kernel
theorem dX12_arrives_78 : decode cX12_arrives 78 = .ok (.getfield 118, 3) := by decide +kernel
theorem dX12_arrives_81 : decode cX12_arrives 81 = .ok (.iload 5, 2) := by decide +kernel
theorem dX12_arrives_83 : decode cX12_arrives 83 = .ok (.lconst 0, 1) := by decide +kernel
theorem dX12_arrives_84 : decode cX12_arrives 84 = .ok (.lastore, 1) := by decide +kernel
theorem dX12_arrives_85 : decode cX12_arrives 85 = .ok (.iinc 5 1, 3) := by decide +kernel
theorem dX12_arrives_88 : decode cX12_arrives 88 = .ok (.goto (-18), 3) := by decide +kernel
theorem dX12_arrives_91 : decode cX12_arrives 91 = .ok (.aload_n 0, 1) := by decide +kernel
theorem dX12_arrives_92 : decode cX12_arrives 92 = .ok (.getfield 118, 3) := by decide +kernel
theorem dX12_arrives_95 : decode cX12_arrives 95 = .ok (.iconst 0, 1) := by decide +kernel
theorem dX12_arrives_96 : decode cX12_arrives 96 = .ok (.ldc2_w 494, 3) := by decide +kernel
theorem dX12_arrives_99 : decode cX12_arrives 99 = .ok (.lastore, 1) := by decide +kernel
theorem dX12_arrives_100 : decode cX12_arrives 100 = .ok (.iconst 0, 1) := by decide +kernel
theorem dX12_arrives_101 : decode cX12_arrives 101 = .ok (.istore 5, 2) := by decide +kernel
theorem dX12_arrives_103 : decode cX12_arrives 103 = .ok (.iload 5, 2) := by decide +kernel
theorem dX12_arrives_105 : decode cX12_arrives 105 = .ok (.iload_n 3, 1) := by decide +kernel
theorem dX12_arrives_106 : decode cX12_arrives 106 = .ok (.if_icmp .ge 83, 3) := by decide +kernel
theorem dX12_arrives_109 : decode cX12_arrives 109 = .ok (.iload 4, 2) := by decide +kernel
theorem dX12_arrives_111 : decode cX12_arrives 111 = .ok (.iconst 1, 1) := by decide +kernel
theorem dX12_arrives_112 : decode cX12_arrives 112 = .ok (.isub, 1) := by decide +kernel
theorem dX12_arrives_113 : decode cX12_arrives 113 = .ok (.istore 6, 2) := by decide +kernel
theorem dX12_arrives_115 : decode cX12_arrives 115 = .ok (.iload 6, 2) := by decide +kernel
theorem dX12_arrives_117 : decode cX12_arrives 117 = .ok (.ifCond .lt 66, 3) := by decide +kernel
theorem dX12_arrives_120 : decode cX12_arrives 120 = .ok (.aload_n 0, 1) := by decide +kernel
theorem dX12_arrives_121 : decode cX12_arrives 121 = .ok (.getfield 118, 3) := by decide +kernel
theorem dX12_arrives_124 : decode cX12_arrives 124 = .ok (.iload 6, 2) := by decide +kernel
theorem dX12_arrives_126 : decode cX12_arrives 126 = .ok (.laload, 1) := by decide +kernel
theorem dX12_arrives_127 : decode cX12_arrives 127 = .ok (.lstore 7, 2) := by decide +kernel
theorem dX12_arrives_129 : decode cX12_arrives 129 = .ok (.aload_n 0, 1) := by decide +kernel
theorem dX12_arrives_130 : decode cX12_arrives 130 = .ok (.getfield 118, 3) := by decide +kernel
theorem dX12_arrives_133 : decode cX12_arrives 133 = .ok (.iload 6, 2) := by decide +kernel
theorem dX12_arrives_135 : decode cX12_arrives 135 = .ok (.lload 7, 2) := by decide +kernel
theorem dX12_arrives_137 : decode cX12_arrives 137 = .ok (.aload_n 0, 1) := by decide +kernel
theorem dX12_arrives_138 : decode cX12_arrives 138 = .ok (.iconst 2, 1) := by decide +kernel
theorem dX12_arrives_139 : decode cX12_arrives 139 = .ok (.invokevirtual 412, 3) := by decide +kernel
theorem dX12_arrives_142 : decode cX12_arrives 142 = .ok (.i2l, 1) := by decide +kernel
theorem dX12_arrives_143 : decode cX12_arrives 143 = .ok (.lmul, 1) := by decide +kernel
theorem dX12_arrives_144 : decode cX12_arrives 144 = .ok (.ldc2_w 225, 3) := by decide +kernel
theorem dX12_arrives_147 : decode cX12_arrives 147 = .ok (.ldiv, 1) := by decide +kernel
theorem dX12_arrives_148 : decode cX12_arrives 148 = .ok (.lastore, 1) := by decide +kernel
theorem dX12_arrives_149 : decode cX12_arrives 149 = .ok (.aload_n 0, 1) := by decide +kernel
theorem dX12_arrives_150 : decode cX12_arrives 150 = .ok (.getfield 118, 3) := by decide +kernel
theorem dX12_arrives_153 : decode cX12_arrives 153 = .ok (.iload 6, 2) := by decide +kernel
theorem dX12_arrives_155 : decode cX12_arrives 155 = .ok (.iconst 1, 1) := by decide +kernel
theorem dX12_arrives_156 : decode cX12_arrives 156 = .ok (.iadd, 1) := by decide +kernel
theorem dX12_arrives_157 : decode cX12_arrives 157 = .ok (.dup2, 1) := by decide +kernel
theorem dX12_arrives_158 : decode cX12_arrives 158 = .ok (.laload, 1) := by decide +kernel
theorem dX12_arrives_159 : decode cX12_arrives 159 = .ok (.lload 7, 2) := by decide +kernel
theorem dX12_arrives_161 : decode cX12_arrives 161 = .ok (.bipush 10, 2) := by decide +kernel
theorem dX12_arrives_163 : decode cX12_arrives 163 = .ok (.aload_n 0, 1) := by decide +kernel
theorem dX12_arrives_164 : decode cX12_arrives 164 = .ok (.iconst 2, 1) := by decide +kernel
theorem dX12_arrives_165 : decode cX12_arrives 165 = .ok (.invokevirtual 412, 3) := by decide +kernel
theorem dX12_arrives_168 : decode cX12_arrives 168 = .ok (.isub, 1) := by decide +kernel
theorem dX12_arrives_169 : decode cX12_arrives 169 = .ok (.i2l, 1) := by decide +kernel
theorem dX12_arrives_170 : decode cX12_arrives 170 = .ok (.lmul, 1) := by decide +kernel
theorem dX12_arrives_171 : decode cX12_arrives 171 = .ok (.ldc2_w 225, 3) := by decide +kernel
theorem dX12_arrives_174 : decode cX12_arrives 174 = .ok (.ldiv, 1) := by decide +kernel
theorem dX12_arrives_175 : decode cX12_arrives 175 = .ok (.ladd, 1) := by decide +kernel
theorem dX12_arrives_176 : decode cX12_arrives 176 = .ok (.lastore, 1) := by decide +kernel
theorem dX12_arrives_177 : decode cX12_arrives 177 = .ok (.iinc 6 (-1), 3) := by decide +kernel
theorem dX12_arrives_180 : decode cX12_arrives 180 = .ok (.goto (-65), 3) := by decide +kernel
theorem dX12_arrives_183 : decode cX12_arrives 183 = .ok (.iinc 5 1, 3) := by decide +kernel
theorem dX12_arrives_186 : decode cX12_arrives 186 = .ok (.goto (-83), 3) := by decide +kernel
theorem dX12_arrives_189 : decode cX12_arrives 189 = .ok (.aload_n 0, 1) := by decide +kernel
theorem dX12_arrives_190 : decode cX12_arrives 190 = .ok (.getfield 118, 3) := by decide +kernel
theorem dX12_arrives_193 : decode cX12_arrives 193 = .ok (.iload 4, 2) := by decide +kernel
theorem dX12_arrives_195 : decode cX12_arrives 195 = .ok (.laload, 1) := by decide +kernel
theorem dX12_arrives_196 : decode cX12_arrives 196 = .ok (.lreturn, 1) := by decide +kernel
set_option maxRecDepth 20000 in
theorem rX12_arrives_0 {E : EN} (hE : Ep E) {k : Nat} {mem : Mm} {Q : Int → Mm → Prop} {p0 p1 p2 : Int}
    (h : (R32 p0 → CI E mX12_isPlot k (aUp mem 603 0 0) [aR 603, aI p0] (fun r2 m1 => ((r2 = 0 → Q (-1) m1) ∧ (¬ r2 = 0 → (R32 p1 → CI E mX12_isCell k m1 [aI p1] (fun r4 m3 => ((r4 = 0 → Q (-1) m3) ∧ (¬ r4 = 0 → (R64 p2 → CI E mX12_in k m3 [aL p2, aL 0, aL 40] (fun r6 m5 => ((¬ r6 = 0 → (CV E mX12_keepAll k m5 [aR 603, aI 16] (fun m7 => (R32 p0 → R32 p1 → R32 p2 → CI E mX12_yearIn k m7 [aR 603, aI p0, aI p1, aI p2] (fun r9 m8 => (CV E mX12_putBack k m8 [aR 603, aI 16] (fun m10 => ((¬ r9 = 100000000 → VM E mX12_arrives (k + 1) m10 70 [(0, aR 603), (3, aI p2), (4, aI r9), (5, aI 0)] [] (retL Q)) ∧ (r9 = 100000000 → Q 0 m10))))))))) ∧ (r6 = 0 → Q (-1) m5))))))))))))) :
    VM E mX12_arrives (k + 1) mem 0 [(0, aR 603), (1, aI p0), (2, aI p1), (3, aI p2)] [] (retL Q) := by
  refine v_aload_n (pc := 0) dX12_arrives_0 0 rfl ?_
  refine v_iconst (pc := 1) dX12_arrives_1 (by decide) ?_
  refine v_putf (pc := 2) dX12_arrives_2 flX12_162 ⟨_, _, rfl, Or.inl rfl⟩ rfl (by decide) (fun q => nomatch q) (Or.inl fun _ => rfl) at603 ?_
  refine v_aload_n (pc := 5) dX12_arrives_5 0 rfl ?_
  refine v_iload_n (pc := 6) dX12_arrives_6 1 rfl ?_
  refine m_invI (pc := 7) (mi' := mX12_isPlot) (rest := []) [aI p0] dX12_arrives_7 at603 (by decide) rfl msX12_isPlot mvX12_isPlot lkX12_214 rfl (Nat.le_of_ble_eq_true rfl) (fun hn => CI_mono (h (aaI hn 1 rfl)) (fun r2 m1 h => ?_))
  refine v_ifeq (pc := 10) (tgt := 32) dX12_arrives_10 (by decide) (fun c1 => ?_) (fun c1 => ?_)
  · have h := h.1 c1
    refine v_ldc2 (pc := 32) (n := (-1)) dX12_arrives_32 cnX12_268 (by decide) ?_
    exact m_retL (pc := 35) dX12_arrives_35 rfl h
  · have h := h.2 c1
    refine v_iload_n (pc := 13) dX12_arrives_13 2 rfl ?_
    refine m_invSI (pc := 14) (mi' := mX12_isCell) (rest := []) [aI p1] dX12_arrives_14 msX12_isCell stX12_isCell lkX12_192 rfl (Nat.le_of_ble_eq_true rfl) (fun hn => CI_mono (h (aaI hn 0 rfl)) (fun r4 m3 h => ?_))
    refine v_ifeq (pc := 17) (tgt := 32) dX12_arrives_17 (by decide) (fun c1 => ?_) (fun c1 => ?_)
    · have h := h.1 c1
      refine v_ldc2 (pc := 32) (n := (-1)) dX12_arrives_32 cnX12_268 (by decide) ?_
      exact m_retL (pc := 35) dX12_arrives_35 rfl h
    · have h := h.2 c1
      refine v_iload_n (pc := 20) dX12_arrives_20 3 rfl ?_
      refine v_i2l (pc := 21) dX12_arrives_21 ?_
      refine v_lconst0 (pc := 22) dX12_arrives_22 ?_
      refine v_ldc2 (pc := 23) (n := 40) dX12_arrives_23 cnX12_492 (by decide) ?_
      refine m_invSI (pc := 26) (mi' := mX12_in) (rest := []) [aL p2, aL 0, aL 40] dX12_arrives_26 msX12_in stX12_in lkX12_182 rfl (Nat.le_of_ble_eq_true rfl) (fun hn => CI_mono (h (aaL hn 0 rfl)) (fun r6 m5 h => ?_))
      refine v_ifne (pc := 29) (tgt := 36) dX12_arrives_29 (by decide) (fun c1 => ?_) (fun c1 => ?_)
      · have h := h.1 c1
        refine v_aload_n (pc := 36) dX12_arrives_36 0 rfl ?_
        refine v_bipush (pc := 37) dX12_arrives_37 (by decide) ?_
        refine m_invV (pc := 39) (mi' := mX12_keepAll) (rest := []) [aI 16] dX12_arrives_39 at603 (by decide) rfl msX12_keepAll mvX12_keepAll lkX12_171 rfl (Nat.le_of_ble_eq_true rfl) (fun hn => CV_mono (h) (fun m7 h => ?_))
        refine v_aload_n (pc := 42) dX12_arrives_42 0 rfl ?_
        refine v_iload_n (pc := 43) dX12_arrives_43 1 rfl ?_
        refine v_iload_n (pc := 44) dX12_arrives_44 2 rfl ?_
        refine v_iload_n (pc := 45) dX12_arrives_45 3 rfl ?_
        refine m_invI (pc := 46) (mi' := mX12_yearIn) (rest := []) [aI p0, aI p1, aI p2] dX12_arrives_46 at603 (by decide) rfl msX12_yearIn mvX12_yearIn lkX12_487 rfl (Nat.le_of_ble_eq_true rfl) (fun hn => CI_mono (h (aaI hn 1 rfl) (aaI hn 2 rfl) (aaI hn 3 rfl)) (fun r9 m8 h => ?_))
        refine v_istore (pc := 49) (al2 := [(4, aI r9), (0, aR 603), (1, aI p0), (2, aI p1), (3, aI p2)]) dX12_arrives_49 (by decide) rfl ?_
        refine v_aload_n (pc := 51) dX12_arrives_51 1 rfl ?_
        refine v_bipush (pc := 52) dX12_arrives_52 (by decide) ?_
        refine m_invV (pc := 54) (mi' := mX12_putBack) (rest := []) [aI 16] dX12_arrives_54 at603 (by decide) rfl msX12_putBack mvX12_putBack lkX12_179 rfl (Nat.le_of_ble_eq_true rfl) (fun hn => CV_mono (h) (fun m10 h => ?_))
        refine v_iload (pc := 57) dX12_arrives_57 0 rfl ?_
        refine v_ldcw (pc := 59) (n := 100000000) dX12_arrives_59 cnX12_484 (by decide) ?_
        refine v_icmpne (pc := 62) (tgt := 67) dX12_arrives_62 (by decide) (fun c1 => ?_) (fun c1 => ?_)
        · have h := h.1 c1
          refine v_iconst (pc := 67) dX12_arrives_67 (by decide) ?_
          refine v_istore (pc := 68) (al2 := [(5, aI 0), (4, aI r9), (0, aR 603), (1, aI p0), (2, aI p1), (3, aI p2)]) dX12_arrives_68 (by decide) rfl ?_
          exact VG_sub (al' := [(0, aR 603), (3, aI p2), (4, aI r9), (5, aI 0)]) [2, 5, 1, 0] rfl h
        · have h := h.2 c1
          refine v_lconst0 (pc := 65) dX12_arrives_65 ?_
          exact m_retL (pc := 66) dX12_arrives_66 rfl h
      · have h := h.2 c1
        refine v_ldc2 (pc := 32) (n := (-1)) dX12_arrives_32 cnX12_268 (by decide) ?_
        exact m_retL (pc := 35) dX12_arrives_35 rfl h
theorem eX12_arrives {E : EN} {k : Nat} {mem : Mm} {Q : Int → Mm → Prop} {p0 p1 p2 : Int} (hr_p0 : R32 p0) (hr_p1 : R32 p1) (hr_p2 : R32 p2) (h : VM E mX12_arrives (k + 1) mem 0 [(0, aR 603), (1, aI p0), (2, aI p1), (3, aI p2)] [] (retL Q)) : CL E mX12_arrives (k + 1) mem [aR 603, aI p0, aI p1, aI p2] Q := CL_of rfl (Nat.le_of_ble_eq_true rfl) h (aNs_c (aNr_R _) (aNs_c (aNr_I hr_p0) (aNs_c (aNr_I hr_p1) (aNs_c (aNr_I hr_p2) (fun _ q => nomatch q)))))
set_option maxRecDepth 20000 in
theorem rX12_arrives_70 {E : EN} (hE : Ep E) {k : Nat} {mem : Mm} {Q : Int → Mm → Prop} {p0 p1 p2 x4 x5 : Int}
    (h : ((42 ≤ x5 → VM E mX12_arrives (k + 1) (aUp mem 626 0 1000000000000) 103 [(0, aR 603), (3, aI p2), (4, aI x4), (5, aI 0)] [] (retL Q)) ∧ (x5 < 42 → (0 ≤ x5 ∧ x5 < 42) ∧ (R32 (x5 + 1)) ∧ VM E mX12_arrives (k + 1) (aUp mem 626 x5 0) 70 [(0, aR 603), (3, aI p2), (4, aI x4), (5, aI (x5 + 1))] [] (retL Q)))) :
    VM E mX12_arrives (k + 1) mem 70 [(0, aR 603), (3, aI p2), (4, aI x4), (5, aI x5)] [] (retL Q) := by
  refine v_iload (pc := 70) dX12_arrives_70 3 rfl ?_
  refine v_bipush (pc := 72) dX12_arrives_72 (by decide) ?_
  refine v_icmpge (pc := 74) (tgt := 91) dX12_arrives_74 (by decide) (fun c1 => ?_) (fun c1 => ?_)
  · have h := h.1 c1
    refine v_aload_n (pc := 91) dX12_arrives_91 0 rfl ?_
    refine m_getfin (pc := 92) (v := 626) hE dX12_arrives_92 flX12_118 rfl at603 rfl ?_
    refine v_iconst (pc := 95) dX12_arrives_95 (by decide) ?_
    refine v_ldc2 (pc := 96) (n := 1000000000000) dX12_arrives_96 cnX12_494 (by decide) ?_
    refine v_last (pc := 99) dX12_arrives_99 at626 (by omega) (by omega) ?_
    refine v_iconst (pc := 100) dX12_arrives_100 (by decide) ?_
    refine v_istore (pc := 101) (al2 := [(5, aI 0), (0, aR 603), (3, aI p2), (4, aI x4)]) dX12_arrives_101 (by decide) rfl ?_
    exact VG_sub (al' := [(0, aR 603), (3, aI p2), (4, aI x4), (5, aI 0)]) [1, 2, 3, 0] rfl h
  · have h := h.2 c1
    refine v_aload_n (pc := 77) dX12_arrives_77 0 rfl ?_
    refine m_getfin (pc := 78) (v := 626) hE dX12_arrives_78 flX12_118 rfl at603 rfl ?_
    refine v_iload (pc := 81) dX12_arrives_81 3 rfl ?_
    refine v_lconst0 (pc := 83) dX12_arrives_83 ?_
    obtain ⟨o1, h⟩ := h
    refine v_last (pc := 84) dX12_arrives_84 at626 o1.1 o1.2 ?_
    obtain ⟨o2, h⟩ := h
    refine m_iinc (pc := 85) (al2 := [(5, aI (x5 + 1)), (0, aR 603), (3, aI p2), (4, aI x4)]) dX12_arrives_85 3 rfl (by decide) o2 rfl ?_
    refine v_goto (pc := 88) (tgt := 70) dX12_arrives_88 (by decide) ?_
    exact VG_sub (al' := [(0, aR 603), (3, aI p2), (4, aI x4), (5, aI (x5 + 1))]) [1, 2, 3, 0] rfl h
set_option maxRecDepth 20000 in
theorem rX12_arrives_103 {E : EN} (hE : Ep E) {k : Nat} {mem : Mm} {Q : Int → Mm → Prop} {p0 p1 p2 x4 x5 : Int}
    (h : ((p2 ≤ x5 → (0 ≤ x4 ∧ x4 < 42) ∧ Q (mem 626 x4) mem) ∧ (x5 < p2 → (R32 (x4 - 1)) ∧ VM E mX12_arrives (k + 1) mem 115 [(0, aR 603), (3, aI p2), (4, aI x4), (5, aI x5), (6, aI (x4 - 1))] [] (retL Q)))) :
    VM E mX12_arrives (k + 1) mem 103 [(0, aR 603), (3, aI p2), (4, aI x4), (5, aI x5)] [] (retL Q) := by
  refine v_iload (pc := 103) dX12_arrives_103 3 rfl ?_
  refine v_iload_n (pc := 105) dX12_arrives_105 1 rfl ?_
  refine v_icmpge (pc := 106) (tgt := 189) dX12_arrives_106 (by decide) (fun c1 => ?_) (fun c1 => ?_)
  · have h := h.1 c1
    refine v_aload_n (pc := 189) dX12_arrives_189 0 rfl ?_
    refine m_getfin (pc := 190) (v := 626) hE dX12_arrives_190 flX12_118 rfl at603 rfl ?_
    refine v_iload (pc := 193) dX12_arrives_193 2 rfl ?_
    obtain ⟨o1, h⟩ := h
    refine m_lald (pc := 195) (v := (mem 626 x4)) dX12_arrives_195 at626 o1.1 o1.2 rfl ?_
    exact m_retL (pc := 196) dX12_arrives_196 rfl h
  · have h := h.2 c1
    refine v_iload (pc := 109) dX12_arrives_109 2 rfl ?_
    refine v_iconst (pc := 111) dX12_arrives_111 (by decide) ?_
    obtain ⟨o2, h⟩ := h
    refine m_isub (pc := 112) dX12_arrives_112 o2 ?_
    refine v_istore (pc := 113) (al2 := [(6, aI (x4 - 1)), (0, aR 603), (3, aI p2), (4, aI x4), (5, aI x5)]) dX12_arrives_113 (by decide) rfl ?_
    exact VG_sub (al' := [(0, aR 603), (3, aI p2), (4, aI x4), (5, aI x5), (6, aI (x4 - 1))]) [1, 2, 3, 4, 0] rfl h
set_option maxRecDepth 20000 in
theorem rX12_arrives_115 {E : EN} (hE : Ep E) {k : Nat} {mem : Mm} {Q : Int → Mm → Prop} {p0 p1 p2 x4 x5 x6 : Int}
    (h : ((x6 < 0 → (R32 (x5 + 1)) ∧ VM E mX12_arrives (k + 1) mem 103 [(0, aR 603), (3, aI p2), (4, aI x4), (5, aI (x5 + 1))] [] (retL Q)) ∧ (0 ≤ x6 → (0 ≤ x6 ∧ x6 < 42) ∧ (CI E mX12_term k mem [aR 603, aI 2] (fun r4 m3 => (R64 ((mem 626 x6) * r4)) ∧ (R32 (x6 + 1)) ∧ (0 ≤ (x6 + 1) ∧ (x6 + 1) < 42) ∧ (CI E mX12_term k (aUp m3 626 x6 (w64 (Int.tdiv ((mem 626 x6) * r4) 10))) [aR 603, aI 2] (fun r9 m8 => (R32 (10 - r9)) ∧ (R64 ((mem 626 x6) * (10 - r9))) ∧ (R64 (((aUp m3 626 x6 (w64 (Int.tdiv ((mem 626 x6) * r4) 10))) 626 (x6 + 1)) + (w64 (Int.tdiv ((mem 626 x6) * (10 - r9)) 10)))) ∧ (R32 (x6 + (-1))) ∧ VM E mX12_arrives (k + 1) (aUp m8 626 (x6 + 1) (((aUp m3 626 x6 (w64 (Int.tdiv ((mem 626 x6) * r4) 10))) 626 (x6 + 1)) + (w64 (Int.tdiv ((mem 626 x6) * (10 - r9)) 10)))) 115 [(0, aR 603), (3, aI p2), (4, aI x4), (5, aI x5), (6, aI (x6 + (-1)))] [] (retL Q)))))))) :
    VM E mX12_arrives (k + 1) mem 115 [(0, aR 603), (3, aI p2), (4, aI x4), (5, aI x5), (6, aI x6)] [] (retL Q) := by
  refine v_iload (pc := 115) dX12_arrives_115 4 rfl ?_
  refine v_iflt (pc := 117) (tgt := 183) dX12_arrives_117 (by decide) (fun c1 => ?_) (fun c1 => ?_)
  · have h := h.1 c1
    obtain ⟨o1, h⟩ := h
    refine m_iinc (pc := 183) (al2 := [(5, aI (x5 + 1)), (0, aR 603), (3, aI p2), (4, aI x4), (6, aI x6)]) dX12_arrives_183 3 rfl (by decide) o1 rfl ?_
    refine v_goto (pc := 186) (tgt := 103) dX12_arrives_186 (by decide) ?_
    exact VG_sub (al' := [(0, aR 603), (3, aI p2), (4, aI x4), (5, aI (x5 + 1))]) [1, 2, 3, 0] rfl h
  · have h := h.2 c1
    refine v_aload_n (pc := 120) dX12_arrives_120 0 rfl ?_
    refine m_getfin (pc := 121) (v := 626) hE dX12_arrives_121 flX12_118 rfl at603 rfl ?_
    refine v_iload (pc := 124) dX12_arrives_124 4 rfl ?_
    obtain ⟨o2, h⟩ := h
    refine m_lald (pc := 126) (v := (mem 626 x6)) dX12_arrives_126 at626 o2.1 o2.2 rfl ?_
    refine v_lstore (pc := 127) (al2 := [(7, aL (mem 626 x6)), (0, aR 603), (3, aI p2), (4, aI x4), (5, aI x5), (6, aI x6)]) dX12_arrives_127 (by decide) rfl ?_
    refine v_aload_n (pc := 129) dX12_arrives_129 1 rfl ?_
    refine m_getfin (pc := 130) (v := 626) hE dX12_arrives_130 flX12_118 rfl at603 rfl ?_
    refine v_iload (pc := 133) dX12_arrives_133 5 rfl ?_
    refine v_lload (pc := 135) dX12_arrives_135 0 rfl ?_
    refine v_aload_n (pc := 137) dX12_arrives_137 1 rfl ?_
    refine v_iconst (pc := 138) dX12_arrives_138 (by decide) ?_
    refine m_invI (pc := 139) (mi' := mX12_term) (rest := [aL (mem 626 x6), aI x6, aR 626]) [aI 2] dX12_arrives_139 at603 (by decide) rfl msX12_term mvX12_term lkX12_412 rfl (Nat.le_of_ble_eq_true rfl) (fun hn => CI_mono (h) (fun r4 m3 h => ?_))
    refine v_i2l (pc := 142) dX12_arrives_142 ?_
    obtain ⟨o5, h⟩ := h
    refine m_lmul (pc := 143) dX12_arrives_143 o5 ?_
    refine v_ldc2 (pc := 144) (n := 10) dX12_arrives_144 cnX12_225 (by decide) ?_
    refine v_ldiv (pc := 147) dX12_arrives_147 (by decide) ?_
    refine v_last (pc := 148) dX12_arrives_148 at626 o2.1 o2.2 ?_
    refine v_aload_n (pc := 149) dX12_arrives_149 1 rfl ?_
    refine m_getfin (pc := 150) (v := 626) hE dX12_arrives_150 flX12_118 rfl at603 rfl ?_
    refine v_iload (pc := 153) dX12_arrives_153 5 rfl ?_
    refine v_iconst (pc := 155) dX12_arrives_155 (by decide) ?_
    obtain ⟨o6, h⟩ := h
    refine m_iadd (pc := 156) dX12_arrives_156 o6 ?_
    refine v_dup2 (pc := 157) dX12_arrives_157 rfl rfl ?_
    obtain ⟨o7, h⟩ := h
    refine m_lald (pc := 158) (v := ((aUp m3 626 x6 (w64 (Int.tdiv ((mem 626 x6) * r4) 10))) 626 (x6 + 1))) dX12_arrives_158 at626 o7.1 o7.2 rfl ?_
    refine v_lload (pc := 159) dX12_arrives_159 0 rfl ?_
    refine v_bipush (pc := 161) dX12_arrives_161 (by decide) ?_
    refine v_aload_n (pc := 163) dX12_arrives_163 1 rfl ?_
    refine v_iconst (pc := 164) dX12_arrives_164 (by decide) ?_
    refine m_invI (pc := 165) (mi' := mX12_term) (rest := [aI 10, aL (mem 626 x6), aL ((aUp m3 626 x6 (w64 (Int.tdiv ((mem 626 x6) * r4) 10))) 626 (x6 + 1)), aI (x6 + 1), aR 626]) [aI 2] dX12_arrives_165 at603 (by decide) rfl msX12_term mvX12_term lkX12_412 rfl (Nat.le_of_ble_eq_true rfl) (fun hn => CI_mono (h) (fun r9 m8 h => ?_))
    obtain ⟨o10, h⟩ := h
    refine m_isub (pc := 168) dX12_arrives_168 o10 ?_
    refine v_i2l (pc := 169) dX12_arrives_169 ?_
    obtain ⟨o11, h⟩ := h
    refine m_lmul (pc := 170) dX12_arrives_170 o11 ?_
    refine v_ldc2 (pc := 171) (n := 10) dX12_arrives_171 cnX12_225 (by decide) ?_
    refine v_ldiv (pc := 174) dX12_arrives_174 (by decide) ?_
    obtain ⟨o12, h⟩ := h
    refine m_ladd (pc := 175) dX12_arrives_175 o12 ?_
    refine v_last (pc := 176) dX12_arrives_176 at626 o7.1 o7.2 ?_
    obtain ⟨o13, h⟩ := h
    refine m_iinc (pc := 177) (al2 := [(6, aI (x6 + (-1))), (7, aL (mem 626 x6)), (0, aR 603), (3, aI p2), (4, aI x4), (5, aI x5)]) dX12_arrives_177 5 rfl (by decide) o13 rfl ?_
    refine v_goto (pc := 180) (tgt := 115) dX12_arrives_180 (by decide) ?_
    exact VG_sub (al' := [(0, aR 603), (3, aI p2), (4, aI x4), (5, aI x5), (6, aI (x6 + (-1)))]) [2, 3, 4, 5, 0] rfl h

theorem dX12_isPacked_0 : decode cX12_isPacked 0 = .ok (.aload_n 0, 1) := by decide +kernel
theorem dX12_isPacked_1 : decode cX12_isPacked 1 = .ok (.getfield 13, 3) := by decide +kernel
theorem dX12_isPacked_4 : decode cX12_isPacked 4 = .ok (.bipush 7, 2) := by decide +kernel
theorem dX12_isPacked_6 : decode cX12_isPacked 6 = .ok (.iaload, 1) := by decide +kernel
theorem dX12_isPacked_7 : decode cX12_isPacked 7 = .ok (.istore_n 2, 1) := by decide +kernel
theorem dX12_isPacked_8 : decode cX12_isPacked 8 = .ok (.iconst 0, 1) := by decide +kernel
theorem dX12_isPacked_9 : decode cX12_isPacked 9 = .ok (.istore_n 3, 1) := by decide +kernel
theorem dX12_isPacked_10 : decode cX12_isPacked 10 = .ok (.iload_n 3, 1) := by decide +kernel
theorem dX12_isPacked_11 : decode cX12_isPacked 11 = .ok (.iload_n 1, 1) := by decide +kernel
theorem dX12_isPacked_12 : decode cX12_isPacked 12 = .ok (.if_icmp .ge 16, 3) := by decide +kernel
theorem dX12_isPacked_15 : decode cX12_isPacked 15 = .ok (.aload_n 0, 1) := by decide +kernel
theorem dX12_isPacked_16 : decode cX12_isPacked 16 = .ok (.getfield 127, 3) := by decide +kernel
theorem dX12_isPacked_19 : decode cX12_isPacked 19 = .ok (.iload_n 3, 1) := by decide +kernel
theorem dX12_isPacked_20 : decode cX12_isPacked 20 = .ok (.iconst 0, 1) := by decide +kernel
theorem dX12_isPacked_21 : decode cX12_isPacked 21 = .ok (.iastore, 1) := by decide +kernel
theorem dX12_isPacked_22 : decode cX12_isPacked 22 = .ok (.iinc 3 1, 3) := by decide +kernel
theorem dX12_isPacked_25 : decode cX12_isPacked 25 = .ok (.goto (-15), 3) := by decide +kernel
theorem dX12_isPacked_28 : decode cX12_isPacked 28 = .ok (.iconst 0, 1) := by decide +kernel
theorem dX12_isPacked_29 : decode cX12_isPacked 29 = .ok (.istore_n 3, 1) := by decide +kernel
theorem dX12_isPacked_30 : decode cX12_isPacked 30 = .ok (.aload_n 0, 1) := by decide +kernel
theorem dX12_isPacked_31 : decode cX12_isPacked 31 = .ok (.getfield 124, 3) := by decide +kernel
theorem dX12_isPacked_34 : decode cX12_isPacked 34 = .ok (.iconst 0, 1) := by decide +kernel
theorem dX12_isPacked_35 : decode cX12_isPacked 35 = .ok (.iconst (-1), 1) := by decide +kernel
theorem dX12_isPacked_36 : decode cX12_isPacked 36 = .ok (.iastore, 1) := by decide +kernel
theorem dX12_isPacked_37 : decode cX12_isPacked 37 = .ok (.aload_n 0, 1) := by decide +kernel
theorem dX12_isPacked_38 : decode cX12_isPacked 38 = .ok (.getfield 130, 3) := by decide +kernel
theorem dX12_isPacked_41 : decode cX12_isPacked 41 = .ok (.iconst 0, 1) := by decide +kernel
theorem dX12_isPacked_42 : decode cX12_isPacked 42 = .ok (.iconst 0, 1) := by decide +kernel
theorem dX12_isPacked_43 : decode cX12_isPacked 43 = .ok (.iastore, 1) := by decide +kernel
theorem dX12_isPacked_44 : decode cX12_isPacked 44 = .ok (.iload_n 3, 1) := by decide +kernel
theorem dX12_isPacked_45 : decode cX12_isPacked 45 = .ok (.ifCond .lt 177, 3) := by decide +kernel
theorem dX12_isPacked_48 : decode cX12_isPacked 48 = .ok (.iload_n 3, 1) := by decide +kernel
theorem dX12_isPacked_49 : decode cX12_isPacked 49 = .ok (.iload_n 2, 1) := by decide +kernel
theorem dX12_isPacked_50 : decode cX12_isPacked 50 = .ok (.if_icmp .ge 172, 3) := by decide +kernel
theorem dX12_isPacked_53 : decode cX12_isPacked 53 = .ok (.aload_n 0, 1) := by decide +kernel
theorem dX12_isPacked_54 : decode cX12_isPacked 54 = .ok (.getfield 124, 3) := by decide +kernel
theorem dX12_isPacked_57 : decode cX12_isPacked 57 = .ok (.iload_n 3, 1) := by decide +kernel
theorem dX12_isPacked_58 : decode cX12_isPacked 58 = .ok (.iaload, 1) := by decide +kernel
theorem dX12_isPacked_59 : decode cX12_isPacked 59 = .ok (.ifCond .lt 23, 3) := by decide +kernel
theorem dX12_isPacked_62 : decode cX12_isPacked 62 = .ok (.aload_n 0, 1) := by decide +kernel
theorem dX12_isPacked_63 : decode cX12_isPacked 63 = .ok (.getfield 127, 3) := by decide +kernel
theorem dX12_isPacked_66 : decode cX12_isPacked 66 = .ok (.aload_n 0, 1) := by decide +kernel
theorem dX12_isPacked_67 : decode cX12_isPacked 67 = .ok (.getfield 124, 3) := by decide +kernel
theorem dX12_isPacked_70 : decode cX12_isPacked 70 = .ok (.iload_n 3, 1) := by decide +kernel
theorem dX12_isPacked_71 : decode cX12_isPacked 71 = .ok (.iaload, 1) := by decide +kernel
theorem dX12_isPacked_72 : decode cX12_isPacked 72 = .ok (.dup2, 1) := by decide +kernel
theorem dX12_isPacked_73 : decode cX12_isPacked 73 = .ok (.iaload, 1) := by decide +kernel
theorem dX12_isPacked_74 : decode cX12_isPacked 74 = .ok (.aload_n 0, 1) := by decide +kernel
theorem dX12_isPacked_75 : decode cX12_isPacked 75 = .ok (.getfield 121, 3) := by decide +kernel
theorem dX12_isPacked_78 : decode cX12_isPacked 78 = .ok (.iload_n 3, 1) := by decide +kernel
theorem dX12_isPacked_79 : decode cX12_isPacked 79 = .ok (.iaload, 1) := by decide +kernel
theorem dX12_isPacked_80 : decode cX12_isPacked 80 = .ok (.isub, 1) := by decide +kernel
theorem dX12_isPacked_81 : decode cX12_isPacked 81 = .ok (.iastore, 1) := by decide +kernel
theorem dX12_isPacked_82 : decode cX12_isPacked 82 = .ok (.aload_n 0, 1) := by decide +kernel
theorem dX12_isPacked_83 : decode cX12_isPacked 83 = .ok (.getfield 124, 3) := by decide +kernel
theorem dX12_isPacked_86 : decode cX12_isPacked 86 = .ok (.iload_n 3, 1) := by decide +kernel
theorem dX12_isPacked_87 : decode cX12_isPacked 87 = .ok (.dup2, 1) := by decide +kernel
theorem dX12_isPacked_88 : decode cX12_isPacked 88 = .ok (.iaload, 1) := by decide +kernel
theorem dX12_isPacked_89 : decode cX12_isPacked 89 = .ok (.iconst 1, 1) := by decide +kernel
theorem dX12_isPacked_90 : decode cX12_isPacked 90 = .ok (.iadd, 1) := by decide +kernel
theorem dX12_isPacked_91 : decode cX12_isPacked 91 = .ok (.iastore, 1) := by decide +kernel
theorem dX12_isPacked_92 : decode cX12_isPacked 92 = .ok (.aload_n 0, 1) := by decide +kernel
theorem dX12_isPacked_93 : decode cX12_isPacked 93 = .ok (.getfield 124, 3) := by decide +kernel
theorem dX12_isPacked_96 : decode cX12_isPacked 96 = .ok (.iload_n 3, 1) := by decide +kernel
theorem dX12_isPacked_97 : decode cX12_isPacked 97 = .ok (.iaload, 1) := by decide +kernel
theorem dX12_isPacked_98 : decode cX12_isPacked 98 = .ok (.iload_n 1, 1) := by decide +kernel
theorem dX12_isPacked_99 : decode cX12_isPacked 99 = .ok (.if_icmp .eq 18, 3) := by decide +kernel
theorem dX12_isPacked_102 : decode cX12_isPacked 102 = .ok (.aload_n 0, 1) := by decide +kernel
theorem dX12_isPacked_103 : decode cX12_isPacked 103 = .ok (.getfield 124, 3) := by decide +kernel
theorem dX12_isPacked_106 : decode cX12_isPacked 106 = .ok (.iload_n 3, 1) := by decide +kernel
theorem dX12_isPacked_107 : decode cX12_isPacked 107 = .ok (.iaload, 1) := by decide +kernel
theorem dX12_isPacked_108 : decode cX12_isPacked 108 = .ok (.aload_n 0, 1) := by decide +kernel
theorem dX12_isPacked_109 : decode cX12_isPacked 109 = .ok (.getfield 130, 3) := by decide +kernel
theorem dX12_isPacked_112 : decode cX12_isPacked 112 = .ok (.iload_n 3, 1) := by decide +kernel
theorem dX12_isPacked_113 : decode cX12_isPacked 113 = .ok (.iaload, 1) := by decide +kernel
theorem dX12_isPacked_114 : decode cX12_isPacked 114 = .ok (.if_icmp .le 16, 3) := by decide +kernel
theorem dX12_isPacked_117 : decode cX12_isPacked 117 = .ok (.aload_n 0, 1) := by decide +kernel
theorem dX12_isPacked_118 : decode cX12_isPacked 118 = .ok (.getfield 124, 3) := by decide +kernel
theorem dX12_isPacked_121 : decode cX12_isPacked 121 = .ok (.iload_n 3, 1) := by decide +kernel
theorem dX12_isPacked_122 : decode cX12_isPacked 122 = .ok (.iconst (-1), 1) := by decide +kernel
theorem dX12_isPacked_123 : decode cX12_isPacked 123 = .ok (.iastore, 1) := by decide +kernel
theorem dX12_isPacked_124 : decode cX12_isPacked 124 = .ok (.iinc 3 (-1), 3) := by decide +kernel
theorem dX12_isPacked_127 : decode cX12_isPacked 127 = .ok (.goto (-83), 3) := by decide +kernel
theorem dX12_isPacked_130 : decode cX12_isPacked 130 = .ok (.aload_n 0, 1) := by decide +kernel
theorem dX12_isPacked_131 : decode cX12_isPacked 131 = .ok (.getfield 127, 3) := by decide +kernel
theorem dX12_isPacked_134 : decode cX12_isPacked 134 = .ok (.aload_n 0, 1) := by decide +kernel
theorem dX12_isPacked_135 : decode cX12_isPacked 135 = .ok (.getfield 124, 3) := by decide +kernel
theorem dX12_isPacked_138 : decode cX12_isPacked 138 = .ok (.iload_n 3, 1) := by decide +kernel
theorem dX12_isPacked_139 : decode cX12_isPacked 139 = .ok (.iaload, 1) := by decide +kernel
theorem dX12_isPacked_140 : decode cX12_isPacked 140 = .ok (.dup2, 1) := by decide +kernel
theorem dX12_isPacked_141 : decode cX12_isPacked 141 = .ok (.iaload, 1) := by decide +kernel
theorem dX12_isPacked_142 : decode cX12_isPacked 142 = .ok (.aload_n 0, 1) := by decide +kernel
theorem dX12_isPacked_143 : decode cX12_isPacked 143 = .ok (.getfield 121, 3) := by decide +kernel
theorem dX12_isPacked_146 : decode cX12_isPacked 146 = .ok (.iload_n 3, 1) := by decide +kernel
theorem dX12_isPacked_147 : decode cX12_isPacked 147 = .ok (.iaload, 1) := by decide +kernel
theorem dX12_isPacked_148 : decode cX12_isPacked 148 = .ok (.iadd, 1) := by decide +kernel
theorem dX12_isPacked_149 : decode cX12_isPacked 149 = .ok (.iastore, 1) := by decide +kernel
theorem dX12_isPacked_150 : decode cX12_isPacked 150 = .ok (.aload_n 0, 1) := by decide +kernel
theorem dX12_isPacked_151 : decode cX12_isPacked 151 = .ok (.getfield 127, 3) := by decide +kernel
theorem dX12_isPacked_154 : decode cX12_isPacked 154 = .ok (.aload_n 0, 1) := by decide +kernel
theorem dX12_isPacked_155 : decode cX12_isPacked 155 = .ok (.getfield 124, 3) := by decide +kernel
theorem dX12_isPacked_158 : decode cX12_isPacked 158 = .ok (.iload_n 3, 1) := by decide +kernel
theorem dX12_isPacked_159 : decode cX12_isPacked 159 = .ok (.iaload, 1) := by decide +kernel
theorem dX12_isPacked_160 : decode cX12_isPacked 160 = .ok (.iaload, 1) := by decide +kernel
theorem dX12_isPacked_161 : decode cX12_isPacked 161 = .ok (.aload_n 0, 1) := by decide +kernel
theorem dX12_isPacked_162 : decode cX12_isPacked 162 = .ok (.iconst 1, 1) := by decide +kernel
theorem dX12_isPacked_163 : decode cX12_isPacked 163 = .ok (.invokevirtual 412, 3) := by decide +kernel
theorem dX12_isPacked_166 : decode cX12_isPacked 166 = .ok (.if_icmp .gt (-122), 3) := by decide +kernel
theorem dX12_isPacked_169 : decode cX12_isPacked 169 = .ok (.aload_n 0, 1) := by decide +kernel
theorem dX12_isPacked_170 : decode cX12_isPacked 170 = .ok (.getfield 130, 3) := by decide +kernel
theorem dX12_isPacked_173 : decode cX12_isPacked 173 = .ok (.iload_n 3, 1) := by decide +kernel
theorem dX12_isPacked_174 : decode cX12_isPacked 174 = .ok (.iconst 1, 1) := by decide +kernel
theorem dX12_isPacked_175 : decode cX12_isPacked 175 = .ok (.iadd, 1) := by decide +kernel
theorem dX12_isPacked_176 : decode cX12_isPacked 176 = .ok (.aload_n 0, 1) := by decide +kernel
theorem dX12_isPacked_177 : decode cX12_isPacked 177 = .ok (.getfield 124, 3) := by decide +kernel
theorem dX12_isPacked_180 : decode cX12_isPacked 180 = .ok (.iload_n 3, 1) := by decide +kernel
theorem dX12_isPacked_181 : decode cX12_isPacked 181 = .ok (.iaload, 1) := by decide +kernel
theorem dX12_isPacked_182 : decode cX12_isPacked 182 = .ok (.aload_n 0, 1) := by decide +kernel
theorem dX12_isPacked_183 : decode cX12_isPacked 183 = .ok (.getfield 130, 3) := by decide +kernel
theorem dX12_isPacked_186 : decode cX12_isPacked 186 = .ok (.iload_n 3, 1) := by decide +kernel
theorem dX12_isPacked_187 : decode cX12_isPacked 187 = .ok (.iaload, 1) := by decide +kernel
theorem dX12_isPacked_188 : decode cX12_isPacked 188 = .ok (.if_icmp .ne 14, 3) := by decide +kernel
theorem dX12_isPacked_191 : decode cX12_isPacked 191 = .ok (.aload_n 0, 1) := by decide +kernel
theorem dX12_isPacked_192 : decode cX12_isPacked 192 = .ok (.getfield 130, 3) := by decide +kernel
theorem dX12_isPacked_195 : decode cX12_isPacked 195 = .ok (.iload_n 3, 1) := by decide +kernel
theorem dX12_isPacked_196 : decode cX12_isPacked 196 = .ok (.iaload, 1) := by decide +kernel
theorem dX12_isPacked_197 : decode cX12_isPacked 197 = .ok (.iconst 1, 1) := by decide +kernel
theorem dX12_isPacked_198 : decode cX12_isPacked 198 = .ok (.iadd, 1) := by decide +kernel
theorem dX12_isPacked_199 : decode cX12_isPacked 199 = .ok (.goto 9, 3) := by decide +kernel
theorem dX12_isPacked_202 : decode cX12_isPacked 202 = .ok (.aload_n 0, 1) := by decide +kernel
theorem dX12_isPacked_203 : decode cX12_isPacked 203 = .ok (.getfield 130, 3) := by decide +kernel
theorem dX12_isPacked_206 : decode cX12_isPacked 206 = .ok (.iload_n 3, 1) := by decide +kernel
theorem dX12_isPacked_207 : decode cX12_isPacked 207 = .ok (.iaload, 1) := by decide +kernel
theorem dX12_isPacked_208 : decode cX12_isPacked 208 = .ok (.iastore, 1) := by decide +kernel
theorem dX12_isPacked_209 : decode cX12_isPacked 209 = .ok (.iinc 3 1, 3) := by decide +kernel
theorem dX12_isPacked_212 : decode cX12_isPacked 212 = .ok (.aload_n 0, 1) := by decide +kernel
theorem dX12_isPacked_213 : decode cX12_isPacked 213 = .ok (.getfield 124, 3) := by decide +kernel
theorem dX12_isPacked_216 : decode cX12_isPacked 216 = .ok (.iload_n 3, 1) := by decide +kernel
theorem dX12_isPacked_217 : decode cX12_isPacked 217 = .ok (.iconst (-1), 1) := by decide +kernel
theorem dX12_isPacked_218 : decode cX12_isPacked 218 = .ok (.iastore, 1) := by decide +kernel
theorem dX12_isPacked_219 : decode cX12_isPacked 219 = .ok (.goto (-175), 3) := by decide +kernel
theorem dX12_isPacked_222 : decode cX12_isPacked 222 = .ok (.iload_n 3, 1) := by decide +kernel
theorem dX12_isPacked_223 : decode cX12_isPacked 223 = .ok (.iload_n 2, 1) := by decide +kernel
theorem dX12_isPacked_224 : decode cX12_isPacked 224 = .ok (.if_icmp .ne 7, 3) := by decide +kernel
theorem dX12_isPacked_227 : decode cX12_isPacked 227 = .ok (.iconst 1, 1) := by decide +kernel
theorem dX12_isPacked_228 : decode cX12_isPacked 228 = .ok (.goto 4, 3) := by decide +kernel
theorem dX12_isPacked_231 : decode cX12_isPacked 231 = .ok (.iconst 0, 1) := by decide +kernel
theorem dX12_isPacked_232 : decode cX12_isPacked 232 = .ok (.ireturn, 1) := by decide +kernel
set_option maxRecDepth 20000 in
theorem rX12_isPacked_0 {E : EN} (hE : Ep E) {k : Nat} {mem : Mm} {Q : Int → Mm → Prop} {p0 : Int}
    (h : VM E mX12_isPacked (k + 1) mem 10 [(0, aR 603), (1, aI p0), (2, aI (mem 605 7)), (3, aI 0)] [] (retI Q)) :
    VM E mX12_isPacked (k + 1) mem 0 [(0, aR 603), (1, aI p0)] [] (retI Q) := by
  refine v_aload_n (pc := 0) dX12_isPacked_0 0 rfl ?_
  refine m_getfin (pc := 1) (v := 605) hE dX12_isPacked_1 flX12_13 rfl at603 rfl ?_
  refine v_bipush (pc := 4) dX12_isPacked_4 (by decide) ?_
  refine m_iald (pc := 6) (v := (mem 605 7)) dX12_isPacked_6 at605 (by omega) (by omega) rfl ?_
  refine v_istore_n (pc := 7) (al2 := [(2, aI (mem 605 7)), (0, aR 603), (1, aI p0)]) dX12_isPacked_7 (by decide) rfl ?_
  refine v_iconst (pc := 8) dX12_isPacked_8 (by decide) ?_
  refine v_istore_n (pc := 9) (al2 := [(3, aI 0), (2, aI (mem 605 7)), (0, aR 603), (1, aI p0)]) dX12_isPacked_9 (by decide) rfl ?_
  exact VG_sub (al' := [(0, aR 603), (1, aI p0), (2, aI (mem 605 7)), (3, aI 0)]) [2, 3, 1, 0] rfl h
theorem eX12_isPacked {E : EN} {k : Nat} {mem : Mm} {Q : Int → Mm → Prop} {p0 : Int} (hr_p0 : R32 p0) (h : VM E mX12_isPacked (k + 1) mem 0 [(0, aR 603), (1, aI p0)] [] (retI Q)) : CI E mX12_isPacked (k + 1) mem [aR 603, aI p0] Q := CI_of rfl (Nat.le_of_ble_eq_true rfl) h (aNs_c (aNr_R _) (aNs_c (aNr_I hr_p0) (fun _ q => nomatch q)))
set_option maxRecDepth 20000 in
theorem rX12_isPacked_10 {E : EN} (hE : Ep E) {k : Nat} {mem : Mm} {Q : Int → Mm → Prop} {p0 x2 x3 : Int}
    (h : ((p0 ≤ x3 → VM E mX12_isPacked (k + 1) (aUp (aUp mem 628 0 (-1)) 630 0 0) 44 [(0, aR 603), (1, aI p0), (2, aI x2), (3, aI 0)] [] (retI Q)) ∧ (x3 < p0 → (0 ≤ x3 ∧ x3 < 11) ∧ (R32 (x3 + 1)) ∧ VM E mX12_isPacked (k + 1) (aUp mem 629 x3 0) 10 [(0, aR 603), (1, aI p0), (2, aI x2), (3, aI (x3 + 1))] [] (retI Q)))) :
    VM E mX12_isPacked (k + 1) mem 10 [(0, aR 603), (1, aI p0), (2, aI x2), (3, aI x3)] [] (retI Q) := by
  refine v_iload_n (pc := 10) dX12_isPacked_10 3 rfl ?_
  refine v_iload_n (pc := 11) dX12_isPacked_11 1 rfl ?_
  refine v_icmpge (pc := 12) (tgt := 28) dX12_isPacked_12 (by decide) (fun c1 => ?_) (fun c1 => ?_)
  · have h := h.1 c1
    refine v_iconst (pc := 28) dX12_isPacked_28 (by decide) ?_
    refine v_istore_n (pc := 29) (al2 := [(3, aI 0), (0, aR 603), (1, aI p0), (2, aI x2)]) dX12_isPacked_29 (by decide) rfl ?_
    refine v_aload_n (pc := 30) dX12_isPacked_30 1 rfl ?_
    refine m_getfin (pc := 31) (v := 628) hE dX12_isPacked_31 flX12_124 rfl at603 rfl ?_
    refine v_iconst (pc := 34) dX12_isPacked_34 (by decide) ?_
    refine v_iconst (pc := 35) dX12_isPacked_35 (by decide) ?_
    refine v_iast (pc := 36) dX12_isPacked_36 at628 (by omega) (by omega) ?_
    refine v_aload_n (pc := 37) dX12_isPacked_37 1 rfl ?_
    refine m_getfin (pc := 38) (v := 630) hE dX12_isPacked_38 flX12_130 rfl at603 rfl ?_
    refine v_iconst (pc := 41) dX12_isPacked_41 (by decide) ?_
    refine v_iconst (pc := 42) dX12_isPacked_42 (by decide) ?_
    refine v_iast (pc := 43) dX12_isPacked_43 at630 (by omega) (by omega) ?_
    exact VG_sub (al' := [(0, aR 603), (1, aI p0), (2, aI x2), (3, aI 0)]) [1, 2, 3, 0] rfl h
  · have h := h.2 c1
    refine v_aload_n (pc := 15) dX12_isPacked_15 0 rfl ?_
    refine m_getfin (pc := 16) (v := 629) hE dX12_isPacked_16 flX12_127 rfl at603 rfl ?_
    refine v_iload_n (pc := 19) dX12_isPacked_19 3 rfl ?_
    refine v_iconst (pc := 20) dX12_isPacked_20 (by decide) ?_
    obtain ⟨o1, h⟩ := h
    refine v_iast (pc := 21) dX12_isPacked_21 at629 o1.1 o1.2 ?_
    obtain ⟨o2, h⟩ := h
    refine m_iinc (pc := 22) (al2 := [(3, aI (x3 + 1)), (0, aR 603), (1, aI p0), (2, aI x2)]) dX12_isPacked_22 3 rfl (by decide) o2 rfl ?_
    refine v_goto (pc := 25) (tgt := 10) dX12_isPacked_25 (by decide) ?_
    exact VG_sub (al' := [(0, aR 603), (1, aI p0), (2, aI x2), (3, aI (x3 + 1))]) [1, 2, 3, 0] rfl h
set_option maxRecDepth 20000 in
theorem rX12_isPacked_44 {E : EN} (hE : Ep E) {k : Nat} {mem : Mm} {Q : Int → Mm → Prop} {p0 x2 x3 : Int}
    (h : ((x3 < 0 → VM E mX12_isPacked (k + 1) mem 222 [(2, aI x2), (3, aI x3)] [] (retI Q)) ∧ (0 ≤ x3 → ((x2 ≤ x3 → VM E mX12_isPacked (k + 1) mem 222 [(2, aI x2), (3, aI x3)] [] (retI Q)) ∧ (x3 < x2 → (0 ≤ x3 ∧ x3 < 11) ∧ (((mem 628 x3) < 0 → VM E mX12_isPacked (k + 1) mem 82 [(0, aR 603), (1, aI p0), (2, aI x2), (3, aI x3)] [] (retI Q)) ∧ (0 ≤ (mem 628 x3) → (0 ≤ (mem 628 x3) ∧ (mem 628 x3) < 11) ∧ (0 ≤ x3 ∧ x3 < 10) ∧ (R32 ((mem 629 (mem 628 x3)) - (mem 627 x3))) ∧ VM E mX12_isPacked (k + 1) (aUp mem 629 (mem 628 x3) ((mem 629 (mem 628 x3)) - (mem 627 x3))) 82 [(0, aR 603), (1, aI p0), (2, aI x2), (3, aI x3)] [] (retI Q)))))))) :
    VM E mX12_isPacked (k + 1) mem 44 [(0, aR 603), (1, aI p0), (2, aI x2), (3, aI x3)] [] (retI Q) := by
  refine v_iload_n (pc := 44) dX12_isPacked_44 3 rfl ?_
  refine v_iflt (pc := 45) (tgt := 222) dX12_isPacked_45 (by decide) (fun c1 => ?_) (fun c1 => ?_)
  · have h := h.1 c1
    exact VG_sub (al' := [(2, aI x2), (3, aI x3)]) [2, 3] rfl h
  · have h := h.2 c1
    refine v_iload_n (pc := 48) dX12_isPacked_48 3 rfl ?_
    refine v_iload_n (pc := 49) dX12_isPacked_49 2 rfl ?_
    refine v_icmpge (pc := 50) (tgt := 222) dX12_isPacked_50 (by decide) (fun c1 => ?_) (fun c1 => ?_)
    · have h := h.1 c1
      exact VG_sub (al' := [(2, aI x2), (3, aI x3)]) [2, 3] rfl h
    · have h := h.2 c1
      refine v_aload_n (pc := 53) dX12_isPacked_53 0 rfl ?_
      refine m_getfin (pc := 54) (v := 628) hE dX12_isPacked_54 flX12_124 rfl at603 rfl ?_
      refine v_iload_n (pc := 57) dX12_isPacked_57 3 rfl ?_
      obtain ⟨o1, h⟩ := h
      refine m_iald (pc := 58) (v := (mem 628 x3)) dX12_isPacked_58 at628 o1.1 o1.2 rfl ?_
      refine v_iflt (pc := 59) (tgt := 82) dX12_isPacked_59 (by decide) (fun c1 => ?_) (fun c1 => ?_)
      · have h := h.1 c1
        exact VG_sub (al' := [(0, aR 603), (1, aI p0), (2, aI x2), (3, aI x3)]) [0, 1, 2, 3] rfl h
      · have h := h.2 c1
        refine v_aload_n (pc := 62) dX12_isPacked_62 0 rfl ?_
        refine m_getfin (pc := 63) (v := 629) hE dX12_isPacked_63 flX12_127 rfl at603 rfl ?_
        refine v_aload_n (pc := 66) dX12_isPacked_66 0 rfl ?_
        refine m_getfin (pc := 67) (v := 628) hE dX12_isPacked_67 flX12_124 rfl at603 rfl ?_
        refine v_iload_n (pc := 70) dX12_isPacked_70 3 rfl ?_
        refine m_iald (pc := 71) (v := (mem 628 x3)) dX12_isPacked_71 at628 o1.1 o1.2 rfl ?_
        refine v_dup2 (pc := 72) dX12_isPacked_72 rfl rfl ?_
        obtain ⟨o2, h⟩ := h
        refine m_iald (pc := 73) (v := (mem 629 (mem 628 x3))) dX12_isPacked_73 at629 o2.1 o2.2 rfl ?_
        refine v_aload_n (pc := 74) dX12_isPacked_74 0 rfl ?_
        refine m_getfin (pc := 75) (v := 627) hE dX12_isPacked_75 flX12_121 rfl at603 rfl ?_
        refine v_iload_n (pc := 78) dX12_isPacked_78 3 rfl ?_
        obtain ⟨o3, h⟩ := h
        refine m_iald (pc := 79) (v := (mem 627 x3)) dX12_isPacked_79 at627 o3.1 o3.2 rfl ?_
        obtain ⟨o4, h⟩ := h
        refine m_isub (pc := 80) dX12_isPacked_80 o4 ?_
        refine v_iast (pc := 81) dX12_isPacked_81 at629 o2.1 o2.2 ?_
        exact VG_sub (al' := [(0, aR 603), (1, aI p0), (2, aI x2), (3, aI x3)]) [0, 1, 2, 3] rfl h
set_option maxRecDepth 20000 in
theorem rX12_isPacked_222 {E : EN} (hE : Ep E) {k : Nat} {mem : Mm} {Q : Int → Mm → Prop} {p0 x2 x3 : Int}
    (h : ((¬ x3 = x2 → Q 0 mem) ∧ (x3 = x2 → Q 1 mem))) :
    VM E mX12_isPacked (k + 1) mem 222 [(2, aI x2), (3, aI x3)] [] (retI Q) := by
  refine v_iload_n (pc := 222) dX12_isPacked_222 1 rfl ?_
  refine v_iload_n (pc := 223) dX12_isPacked_223 0 rfl ?_
  refine v_icmpne (pc := 224) (tgt := 231) dX12_isPacked_224 (by decide) (fun c1 => ?_) (fun c1 => ?_)
  · have h := h.1 c1
    refine v_iconst (pc := 231) dX12_isPacked_231 (by decide) ?_
    exact m_retZ (pc := 232) dX12_isPacked_232 rfl (by decide) h
  · have h := h.2 c1
    refine v_iconst (pc := 227) dX12_isPacked_227 (by decide) ?_
    refine v_goto (pc := 228) (tgt := 232) dX12_isPacked_228 (by decide) ?_
    exact m_retZ (pc := 232) dX12_isPacked_232 rfl (by decide) h
set_option maxRecDepth 20000 in
theorem rX12_isPacked_82 {E : EN} (hE : Ep E) {k : Nat} {mem : Mm} {Q : Int → Mm → Prop} {p0 x2 x3 : Int}
    (h : (0 ≤ x3 ∧ x3 < 11) ∧ (R32 ((mem 628 x3) + 1)) ∧ ((((mem 628 x3) + 1) = p0 → VM E mX12_isPacked (k + 1) (aUp mem 628 x3 ((mem 628 x3) + 1)) 117 [(0, aR 603), (1, aI p0), (2, aI x2), (3, aI x3)] [] (retI Q)) ∧ (¬ ((mem 628 x3) + 1) = p0 → ((((mem 628 x3) + 1) ≤ (mem 630 x3) → (0 ≤ ((mem 628 x3) + 1) ∧ ((mem 628 x3) + 1) < 11) ∧ (0 ≤ x3 ∧ x3 < 10) ∧ (R32 ((mem 629 ((mem 628 x3) + 1)) + (mem 627 x3))) ∧ (CI E mX12_term k (aUp (aUp mem 628 x3 ((mem 628 x3) + 1)) 629 ((mem 628 x3) + 1) ((mem 629 ((mem 628 x3) + 1)) + (mem 627 x3))) [aR 603, aI 1] (fun r7 m6 => ((r7 < ((mem 629 ((mem 628 x3) + 1)) + (mem 627 x3)) → VM E mX12_isPacked (k + 1) m6 44 [(0, aR 603), (1, aI p0), (2, aI x2), (3, aI x3)] [] (retI Q)) ∧ (((mem 629 ((mem 628 x3) + 1)) + (mem 627 x3)) ≤ r7 → (R32 (x3 + 1)) ∧ ((¬ (m6 628 x3) = (m6 630 x3) → (0 ≤ (x3 + 1) ∧ (x3 + 1) < 11) ∧ VM E mX12_isPacked (k + 1) (aUp (aUp m6 630 (x3 + 1) (m6 630 x3)) 628 (x3 + 1) (-1)) 44 [(0, aR 603), (1, aI p0), (2, aI x2), (3, aI (x3 + 1))] [] (retI Q)) ∧ ((m6 628 x3) = (m6 630 x3) → (R32 ((m6 630 x3) + 1)) ∧ (0 ≤ (x3 + 1) ∧ (x3 + 1) < 11) ∧ VM E mX12_isPacked (k + 1) (aUp (aUp m6 630 (x3 + 1) ((m6 630 x3) + 1)) 628 (x3 + 1) (-1)) 44 [(0, aR 603), (1, aI p0), (2, aI x2), (3, aI (x3 + 1))] [] (retI Q)))))))) ∧ ((mem 630 x3) < ((mem 628 x3) + 1) → VM E mX12_isPacked (k + 1) (aUp mem 628 x3 ((mem 628 x3) + 1)) 117 [(0, aR 603), (1, aI p0), (2, aI x2), (3, aI x3)] [] (retI Q)))))) :
    VM E mX12_isPacked (k + 1) mem 82 [(0, aR 603), (1, aI p0), (2, aI x2), (3, aI x3)] [] (retI Q) := by
  refine v_aload_n (pc := 82) dX12_isPacked_82 0 rfl ?_
  refine m_getfin (pc := 83) (v := 628) hE dX12_isPacked_83 flX12_124 rfl at603 rfl ?_
  refine v_iload_n (pc := 86) dX12_isPacked_86 3 rfl ?_
  refine v_dup2 (pc := 87) dX12_isPacked_87 rfl rfl ?_
  obtain ⟨o1, h⟩ := h
  refine m_iald (pc := 88) (v := (mem 628 x3)) dX12_isPacked_88 at628 o1.1 o1.2 rfl ?_
  refine v_iconst (pc := 89) dX12_isPacked_89 (by decide) ?_
  obtain ⟨o2, h⟩ := h
  refine m_iadd (pc := 90) dX12_isPacked_90 o2 ?_
  refine v_iast (pc := 91) dX12_isPacked_91 at628 o1.1 o1.2 ?_
  refine v_aload_n (pc := 92) dX12_isPacked_92 0 rfl ?_
  refine m_getfin (pc := 93) (v := 628) hE dX12_isPacked_93 flX12_124 rfl at603 rfl ?_
  refine v_iload_n (pc := 96) dX12_isPacked_96 3 rfl ?_
  refine m_iald (pc := 97) (v := ((mem 628 x3) + 1)) dX12_isPacked_97 at628 o1.1 o1.2 (aUp_re) ?_
  refine v_iload_n (pc := 98) dX12_isPacked_98 1 rfl ?_
  refine v_icmpeq (pc := 99) (tgt := 117) dX12_isPacked_99 (by decide) (fun c1 => ?_) (fun c1 => ?_)
  · have h := h.1 c1
    exact VG_sub (al' := [(0, aR 603), (1, aI p0), (2, aI x2), (3, aI x3)]) [0, 1, 2, 3] rfl h
  · have h := h.2 c1
    refine v_aload_n (pc := 102) dX12_isPacked_102 0 rfl ?_
    refine m_getfin (pc := 103) (v := 628) hE dX12_isPacked_103 flX12_124 rfl at603 rfl ?_
    refine v_iload_n (pc := 106) dX12_isPacked_106 3 rfl ?_
    refine m_iald (pc := 107) (v := ((mem 628 x3) + 1)) dX12_isPacked_107 at628 o1.1 o1.2 (aUp_re) ?_
    refine v_aload_n (pc := 108) dX12_isPacked_108 0 rfl ?_
    refine m_getfin (pc := 109) (v := 630) hE dX12_isPacked_109 flX12_130 rfl at603 rfl ?_
    refine v_iload_n (pc := 112) dX12_isPacked_112 3 rfl ?_
    refine m_iald (pc := 113) (v := (mem 630 x3)) dX12_isPacked_113 at630 o1.1 o1.2 (aUp_rn (by omega)) ?_
    refine v_icmple (pc := 114) (tgt := 130) dX12_isPacked_114 (by decide) (fun c1 => ?_) (fun c1 => ?_)
    · have h := h.1 c1
      refine v_aload_n (pc := 130) dX12_isPacked_130 0 rfl ?_
      refine m_getfin (pc := 131) (v := 629) hE dX12_isPacked_131 flX12_127 rfl at603 rfl ?_
      refine v_aload_n (pc := 134) dX12_isPacked_134 0 rfl ?_
      refine m_getfin (pc := 135) (v := 628) hE dX12_isPacked_135 flX12_124 rfl at603 rfl ?_
      refine v_iload_n (pc := 138) dX12_isPacked_138 3 rfl ?_
      refine m_iald (pc := 139) (v := ((mem 628 x3) + 1)) dX12_isPacked_139 at628 o1.1 o1.2 (aUp_re) ?_
      refine v_dup2 (pc := 140) dX12_isPacked_140 rfl rfl ?_
      obtain ⟨o3, h⟩ := h
      refine m_iald (pc := 141) (v := (mem 629 ((mem 628 x3) + 1))) dX12_isPacked_141 at629 o3.1 o3.2 (aUp_rn (by omega)) ?_
      refine v_aload_n (pc := 142) dX12_isPacked_142 0 rfl ?_
      refine m_getfin (pc := 143) (v := 627) hE dX12_isPacked_143 flX12_121 rfl at603 rfl ?_
      refine v_iload_n (pc := 146) dX12_isPacked_146 3 rfl ?_
      obtain ⟨o4, h⟩ := h
      refine m_iald (pc := 147) (v := (mem 627 x3)) dX12_isPacked_147 at627 o4.1 o4.2 (aUp_rn (by omega)) ?_
      obtain ⟨o5, h⟩ := h
      refine m_iadd (pc := 148) dX12_isPacked_148 o5 ?_
      refine v_iast (pc := 149) dX12_isPacked_149 at629 o3.1 o3.2 ?_
      refine v_aload_n (pc := 150) dX12_isPacked_150 0 rfl ?_
      refine m_getfin (pc := 151) (v := 629) hE dX12_isPacked_151 flX12_127 rfl at603 rfl ?_
      refine v_aload_n (pc := 154) dX12_isPacked_154 0 rfl ?_
      refine m_getfin (pc := 155) (v := 628) hE dX12_isPacked_155 flX12_124 rfl at603 rfl ?_
      refine v_iload_n (pc := 158) dX12_isPacked_158 3 rfl ?_
      refine m_iald (pc := 159) (v := ((mem 628 x3) + 1)) dX12_isPacked_159 at628 o1.1 o1.2 ((aUp_rn (by omega)).trans (aUp_re)) ?_
      refine m_iald (pc := 160) (v := ((mem 629 ((mem 628 x3) + 1)) + (mem 627 x3))) dX12_isPacked_160 at629 o3.1 o3.2 (aUp_re) ?_
      refine v_aload_n (pc := 161) dX12_isPacked_161 0 rfl ?_
      refine v_iconst (pc := 162) dX12_isPacked_162 (by decide) ?_
      refine m_invI (pc := 163) (mi' := mX12_term) (rest := [aI ((mem 629 ((mem 628 x3) + 1)) + (mem 627 x3))]) [aI 1] dX12_isPacked_163 at603 (by decide) rfl msX12_term mvX12_term lkX12_412 rfl (Nat.le_of_ble_eq_true rfl) (fun hn => CI_mono (h) (fun r7 m6 h => ?_))
      refine v_icmpgt (pc := 166) (tgt := 44) dX12_isPacked_166 (by decide) (fun c1 => ?_) (fun c1 => ?_)
      · have h := h.1 c1
        exact VG_sub (al' := [(0, aR 603), (1, aI p0), (2, aI x2), (3, aI x3)]) [0, 1, 2, 3] rfl h
      · have h := h.2 c1
        refine v_aload_n (pc := 169) dX12_isPacked_169 0 rfl ?_
        refine m_getfin (pc := 170) (v := 630) hE dX12_isPacked_170 flX12_130 rfl at603 rfl ?_
        refine v_iload_n (pc := 173) dX12_isPacked_173 3 rfl ?_
        refine v_iconst (pc := 174) dX12_isPacked_174 (by decide) ?_
        obtain ⟨o8, h⟩ := h
        refine m_iadd (pc := 175) dX12_isPacked_175 o8 ?_
        refine v_aload_n (pc := 176) dX12_isPacked_176 0 rfl ?_
        refine m_getfin (pc := 177) (v := 628) hE dX12_isPacked_177 flX12_124 rfl at603 rfl ?_
        refine v_iload_n (pc := 180) dX12_isPacked_180 3 rfl ?_
        refine m_iald (pc := 181) (v := (m6 628 x3)) dX12_isPacked_181 at628 o1.1 o1.2 rfl ?_
        refine v_aload_n (pc := 182) dX12_isPacked_182 0 rfl ?_
        refine m_getfin (pc := 183) (v := 630) hE dX12_isPacked_183 flX12_130 rfl at603 rfl ?_
        refine v_iload_n (pc := 186) dX12_isPacked_186 3 rfl ?_
        refine m_iald (pc := 187) (v := (m6 630 x3)) dX12_isPacked_187 at630 o1.1 o1.2 rfl ?_
        refine v_icmpne (pc := 188) (tgt := 202) dX12_isPacked_188 (by decide) (fun c1 => ?_) (fun c1 => ?_)
        · have h := h.1 c1
          refine v_aload_n (pc := 202) dX12_isPacked_202 0 rfl ?_
          refine m_getfin (pc := 203) (v := 630) hE dX12_isPacked_203 flX12_130 rfl at603 rfl ?_
          refine v_iload_n (pc := 206) dX12_isPacked_206 3 rfl ?_
          refine m_iald (pc := 207) (v := (m6 630 x3)) dX12_isPacked_207 at630 o1.1 o1.2 rfl ?_
          obtain ⟨o9, h⟩ := h
          refine v_iast (pc := 208) dX12_isPacked_208 at630 o9.1 o9.2 ?_
          refine m_iinc (pc := 209) (al2 := [(3, aI (x3 + 1)), (0, aR 603), (1, aI p0), (2, aI x2)]) dX12_isPacked_209 3 rfl (by decide) o8 rfl ?_
          refine v_aload_n (pc := 212) dX12_isPacked_212 1 rfl ?_
          refine m_getfin (pc := 213) (v := 628) hE dX12_isPacked_213 flX12_124 rfl at603 rfl ?_
          refine v_iload_n (pc := 216) dX12_isPacked_216 0 rfl ?_
          refine v_iconst (pc := 217) dX12_isPacked_217 (by decide) ?_
          refine v_iast (pc := 218) dX12_isPacked_218 at628 o9.1 o9.2 ?_
          refine v_goto (pc := 219) (tgt := 44) dX12_isPacked_219 (by decide) ?_
          exact VG_sub (al' := [(0, aR 603), (1, aI p0), (2, aI x2), (3, aI (x3 + 1))]) [1, 2, 3, 0] rfl h
        · have h := h.2 c1
          refine v_aload_n (pc := 191) dX12_isPacked_191 0 rfl ?_
          refine m_getfin (pc := 192) (v := 630) hE dX12_isPacked_192 flX12_130 rfl at603 rfl ?_
          refine v_iload_n (pc := 195) dX12_isPacked_195 3 rfl ?_
          refine m_iald (pc := 196) (v := (m6 630 x3)) dX12_isPacked_196 at630 o1.1 o1.2 rfl ?_
          refine v_iconst (pc := 197) dX12_isPacked_197 (by decide) ?_
          obtain ⟨o10, h⟩ := h
          refine m_iadd (pc := 198) dX12_isPacked_198 o10 ?_
          refine v_goto (pc := 199) (tgt := 208) dX12_isPacked_199 (by decide) ?_
          obtain ⟨o11, h⟩ := h
          refine v_iast (pc := 208) dX12_isPacked_208 at630 o11.1 o11.2 ?_
          refine m_iinc (pc := 209) (al2 := [(3, aI (x3 + 1)), (0, aR 603), (1, aI p0), (2, aI x2)]) dX12_isPacked_209 3 rfl (by decide) o8 rfl ?_
          refine v_aload_n (pc := 212) dX12_isPacked_212 1 rfl ?_
          refine m_getfin (pc := 213) (v := 628) hE dX12_isPacked_213 flX12_124 rfl at603 rfl ?_
          refine v_iload_n (pc := 216) dX12_isPacked_216 0 rfl ?_
          refine v_iconst (pc := 217) dX12_isPacked_217 (by decide) ?_
          refine v_iast (pc := 218) dX12_isPacked_218 at628 o11.1 o11.2 ?_
          refine v_goto (pc := 219) (tgt := 44) dX12_isPacked_219 (by decide) ?_
          exact VG_sub (al' := [(0, aR 603), (1, aI p0), (2, aI x2), (3, aI (x3 + 1))]) [1, 2, 3, 0] rfl h
    · have h := h.2 c1
      exact VG_sub (al' := [(0, aR 603), (1, aI p0), (2, aI x2), (3, aI x3)]) [0, 1, 2, 3] rfl h
set_option maxRecDepth 20000 in
theorem rX12_isPacked_117 {E : EN} (hE : Ep E) {k : Nat} {mem : Mm} {Q : Int → Mm → Prop} {p0 x2 x3 : Int}
    (h : (0 ≤ x3 ∧ x3 < 11) ∧ (R32 (x3 + (-1))) ∧ VM E mX12_isPacked (k + 1) (aUp mem 628 x3 (-1)) 44 [(0, aR 603), (1, aI p0), (2, aI x2), (3, aI (x3 + (-1)))] [] (retI Q)) :
    VM E mX12_isPacked (k + 1) mem 117 [(0, aR 603), (1, aI p0), (2, aI x2), (3, aI x3)] [] (retI Q) := by
  refine v_aload_n (pc := 117) dX12_isPacked_117 0 rfl ?_
  refine m_getfin (pc := 118) (v := 628) hE dX12_isPacked_118 flX12_124 rfl at603 rfl ?_
  refine v_iload_n (pc := 121) dX12_isPacked_121 3 rfl ?_
  refine v_iconst (pc := 122) dX12_isPacked_122 (by decide) ?_
  obtain ⟨o1, h⟩ := h
  refine v_iast (pc := 123) dX12_isPacked_123 at628 o1.1 o1.2 ?_
  obtain ⟨o2, h⟩ := h
  refine m_iinc (pc := 124) (al2 := [(3, aI (x3 + (-1))), (0, aR 603), (1, aI p0), (2, aI x2)]) dX12_isPacked_124 3 rfl (by decide) o2 rfl ?_
  refine v_goto (pc := 127) (tgt := 44) dX12_isPacked_127 (by decide) ?_
  exact VG_sub (al' := [(0, aR 603), (1, aI p0), (2, aI x2), (3, aI (x3 + (-1)))]) [1, 2, 3, 0] rfl h

theorem dX12_packed_0 : decode cX12_packed 0 = .ok (.aload_n 0, 1) := by decide +kernel
theorem dX12_packed_1 : decode cX12_packed 1 = .ok (.iconst 0, 1) := by decide +kernel
theorem dX12_packed_2 : decode cX12_packed 2 = .ok (.putfield 162, 3) := by decide +kernel
theorem dX12_packed_5 : decode cX12_packed 5 = .ok (.aload_n 0, 1) := by decide +kernel
theorem dX12_packed_6 : decode cX12_packed 6 = .ok (.getfield 13, 3) := by decide +kernel
theorem dX12_packed_9 : decode cX12_packed 9 = .ok (.bipush 7, 2) := by decide +kernel
theorem dX12_packed_11 : decode cX12_packed 11 = .ok (.iaload, 1) := by decide +kernel
theorem dX12_packed_12 : decode cX12_packed 12 = .ok (.istore_n 2, 1) := by decide +kernel
theorem dX12_packed_13 : decode cX12_packed 13 = .ok (.iload_n 1, 1) := by decide +kernel
theorem dX12_packed_14 : decode cX12_packed 14 = .ok (.iconst (-1), 1) := by decide +kernel
theorem dX12_packed_15 : decode cX12_packed 15 = .ok (.if_icmp .eq 13, 3) := by decide +kernel
theorem dX12_packed_18 : decode cX12_packed 18 = .ok (.aload_n 0, 1) := by decide +kernel
theorem dX12_packed_19 : decode cX12_packed 19 = .ok (.iload_n 1, 1) := by decide +kernel
theorem dX12_packed_20 : decode cX12_packed 20 = .ok (.invokevirtual 214, 3) := by decide +kernel
theorem dX12_packed_23 : decode cX12_packed 23 = .ok (.ifCond .ne 5, 3) := by decide +kernel
theorem dX12_packed_26 : decode cX12_packed 26 = .ok (.iconst (-1), 1) := by decide +kernel
theorem dX12_packed_27 : decode cX12_packed 27 = .ok (.ireturn, 1) := by decide +kernel
theorem dX12_packed_28 : decode cX12_packed 28 = .ok (.iconst 0, 1) := by decide +kernel
theorem dX12_packed_29 : decode cX12_packed 29 = .ok (.istore_n 3, 1) := by decide +kernel
theorem dX12_packed_30 : decode cX12_packed 30 = .ok (.iload_n 3, 1) := by decide +kernel
theorem dX12_packed_31 : decode cX12_packed 31 = .ok (.iload_n 2, 1) := by decide +kernel
theorem dX12_packed_32 : decode cX12_packed 32 = .ok (.if_icmp .ge 36, 3) := by decide +kernel
theorem dX12_packed_35 : decode cX12_packed 35 = .ok (.aload_n 0, 1) := by decide +kernel
theorem dX12_packed_36 : decode cX12_packed 36 = .ok (.getfield 121, 3) := by decide +kernel
theorem dX12_packed_39 : decode cX12_packed 39 = .ok (.iload_n 3, 1) := by decide +kernel
theorem dX12_packed_40 : decode cX12_packed 40 = .ok (.aload_n 0, 1) := by decide +kernel
theorem dX12_packed_41 : decode cX12_packed 41 = .ok (.iload_n 3, 1) := by decide +kernel
theorem dX12_packed_42 : decode cX12_packed 42 = .ok (.invokevirtual 220, 3) := by decide +kernel
theorem dX12_packed_45 : decode cX12_packed 45 = .ok (.iastore, 1) := by decide +kernel
theorem dX12_packed_46 : decode cX12_packed 46 = .ok (.aload_n 0, 1) := by decide +kernel
theorem dX12_packed_47 : decode cX12_packed 47 = .ok (.getfield 121, 3) := by decide +kernel
theorem dX12_packed_50 : decode cX12_packed 50 = .ok (.iload_n 3, 1) := by decide +kernel
theorem dX12_packed_51 : decode cX12_packed 51 = .ok (.iaload, 1) := by decide +kernel
theorem dX12_packed_52 : decode cX12_packed 52 = .ok (.aload_n 0, 1) := by decide +kernel
theorem dX12_packed_53 : decode cX12_packed 53 = .ok (.iconst 1, 1) := by decide +kernel
theorem dX12_packed_54 : decode cX12_packed 54 = .ok (.invokevirtual 412, 3) := by decide +kernel
theorem dX12_packed_57 : decode cX12_packed 57 = .ok (.if_icmp .le 5, 3) := by decide +kernel
theorem dX12_packed_60 : decode cX12_packed 60 = .ok (.iconst (-1), 1) := by decide +kernel
theorem dX12_packed_61 : decode cX12_packed 61 = .ok (.ireturn, 1) := by decide +kernel
theorem dX12_packed_62 : decode cX12_packed 62 = .ok (.iinc 3 1, 3) := by decide +kernel
theorem dX12_packed_65 : decode cX12_packed 65 = .ok (.goto (-35), 3) := by decide +kernel
theorem dX12_packed_68 : decode cX12_packed 68 = .ok (.iconst 0, 1) := by decide +kernel
theorem dX12_packed_69 : decode cX12_packed 69 = .ok (.istore_n 3, 1) := by decide +kernel
theorem dX12_packed_70 : decode cX12_packed 70 = .ok (.aload_n 0, 1) := by decide +kernel
theorem dX12_packed_71 : decode cX12_packed 71 = .ok (.iload_n 3, 1) := by decide +kernel
theorem dX12_packed_72 : decode cX12_packed 72 = .ok (.invokevirtual 496, 3) := by decide +kernel
theorem dX12_packed_75 : decode cX12_packed 75 = .ok (.ifCond .ne 9, 3) := by decide +kernel
theorem dX12_packed_78 : decode cX12_packed 78 = .ok (.iinc 3 1, 3) := by decide +kernel
theorem dX12_packed_81 : decode cX12_packed 81 = .ok (.goto (-11), 3) := by decide +kernel
theorem dX12_packed_84 : decode cX12_packed 84 = .ok (.iload_n 1, 1) := by decide +kernel
theorem dX12_packed_85 : decode cX12_packed 85 = .ok (.iconst (-1), 1) := by decide +kernel
theorem dX12_packed_86 : decode cX12_packed 86 = .ok (.if_icmp .ne 7, 3) := by decide +kernel
theorem dX12_packed_89 : decode cX12_packed 89 = .ok (.iload_n 3, 1) := by decide +kernel
theorem dX12_packed_90 : decode cX12_packed 90 = .ok (.goto 9, 3) := by decide +kernel
theorem dX12_packed_93 : decode cX12_packed 93 = .ok (.aload_n 0, 1) := by decide +kernel
theorem dX12_packed_94 : decode cX12_packed 94 = .ok (.getfield 124, 3) := by decide +kernel
theorem dX12_packed_97 : decode cX12_packed 97 = .ok (.iload_n 1, 1) := by decide +kernel
theorem dX12_packed_98 : decode cX12_packed 98 = .ok (.iaload, 1) := by decide +kernel
theorem dX12_packed_99 : decode cX12_packed 99 = .ok (.ireturn, 1) := by decide +kernel
set_option maxRecDepth 20000 in
theorem rX12_packed_0 {E : EN} (hE : Ep E) {k : Nat} {mem : Mm} {Q : Int → Mm → Prop} {p0 : Int}
    (h : ((p0 = (-1) → VM E mX12_packed (k + 1) (aUp mem 603 0 0) 30 [(0, aR 603), (1, aI p0), (2, aI (mem 605 7)), (3, aI 0)] [] (retI Q)) ∧ (¬ p0 = (-1) → (R32 p0 → CI E mX12_isPlot k (aUp mem 603 0 0) [aR 603, aI p0] (fun r2 m1 => ((¬ r2 = 0 → VM E mX12_packed (k + 1) m1 30 [(0, aR 603), (1, aI p0), (2, aI (mem 605 7)), (3, aI 0)] [] (retI Q)) ∧ (r2 = 0 → Q (-1) m1))))))) :
    VM E mX12_packed (k + 1) mem 0 [(0, aR 603), (1, aI p0)] [] (retI Q) := by
  refine v_aload_n (pc := 0) dX12_packed_0 0 rfl ?_
  refine v_iconst (pc := 1) dX12_packed_1 (by decide) ?_
  refine v_putf (pc := 2) dX12_packed_2 flX12_162 ⟨_, _, rfl, Or.inl rfl⟩ rfl (by decide) (fun q => nomatch q) (Or.inl fun _ => rfl) at603 ?_
  refine v_aload_n (pc := 5) dX12_packed_5 0 rfl ?_
  refine m_getfin (pc := 6) (v := 605) hE dX12_packed_6 flX12_13 rfl at603 rfl ?_
  refine v_bipush (pc := 9) dX12_packed_9 (by decide) ?_
  refine m_iald (pc := 11) (v := (mem 605 7)) dX12_packed_11 at605 (by omega) (by omega) (aUp_rn (by omega)) ?_
  refine v_istore_n (pc := 12) (al2 := [(2, aI (mem 605 7)), (0, aR 603), (1, aI p0)]) dX12_packed_12 (by decide) rfl ?_
  refine v_iload_n (pc := 13) dX12_packed_13 2 rfl ?_
  refine v_iconst (pc := 14) dX12_packed_14 (by decide) ?_
  refine v_icmpeq (pc := 15) (tgt := 28) dX12_packed_15 (by decide) (fun c1 => ?_) (fun c1 => ?_)
  · have h := h.1 c1
    refine v_iconst (pc := 28) dX12_packed_28 (by decide) ?_
    refine v_istore_n (pc := 29) (al2 := [(3, aI 0), (2, aI (mem 605 7)), (0, aR 603), (1, aI p0)]) dX12_packed_29 (by decide) rfl ?_
    exact VG_sub (al' := [(0, aR 603), (1, aI p0), (2, aI (mem 605 7)), (3, aI 0)]) [2, 3, 1, 0] rfl h
  · have h := h.2 c1
    refine v_aload_n (pc := 18) dX12_packed_18 1 rfl ?_
    refine v_iload_n (pc := 19) dX12_packed_19 2 rfl ?_
    refine m_invI (pc := 20) (mi' := mX12_isPlot) (rest := []) [aI p0] dX12_packed_20 at603 (by decide) rfl msX12_isPlot mvX12_isPlot lkX12_214 rfl (Nat.le_of_ble_eq_true rfl) (fun hn => CI_mono (h (aaI hn 1 rfl)) (fun r2 m1 h => ?_))
    refine v_ifne (pc := 23) (tgt := 28) dX12_packed_23 (by decide) (fun c1 => ?_) (fun c1 => ?_)
    · have h := h.1 c1
      refine v_iconst (pc := 28) dX12_packed_28 (by decide) ?_
      refine v_istore_n (pc := 29) (al2 := [(3, aI 0), (2, aI (mem 605 7)), (0, aR 603), (1, aI p0)]) dX12_packed_29 (by decide) rfl ?_
      exact VG_sub (al' := [(0, aR 603), (1, aI p0), (2, aI (mem 605 7)), (3, aI 0)]) [2, 3, 1, 0] rfl h
    · have h := h.2 c1
      refine v_iconst (pc := 26) dX12_packed_26 (by decide) ?_
      exact m_retI (pc := 27) dX12_packed_27 rfl h
theorem eX12_packed {E : EN} {k : Nat} {mem : Mm} {Q : Int → Mm → Prop} {p0 : Int} (hr_p0 : R32 p0) (h : VM E mX12_packed (k + 1) mem 0 [(0, aR 603), (1, aI p0)] [] (retI Q)) : CI E mX12_packed (k + 1) mem [aR 603, aI p0] Q := CI_of rfl (Nat.le_of_ble_eq_true rfl) h (aNs_c (aNr_R _) (aNs_c (aNr_I hr_p0) (fun _ q => nomatch q)))
set_option maxRecDepth 20000 in
theorem rX12_packed_30 {E : EN} (hE : Ep E) {k : Nat} {mem : Mm} {Q : Int → Mm → Prop} {p0 x2 x3 : Int}
    (h : ((x2 ≤ x3 → VM E mX12_packed (k + 1) mem 70 [(0, aR 603), (1, aI p0), (3, aI 0)] [] (retI Q)) ∧ (x3 < x2 → (R32 x3 → CI E mX12_digsOf k mem [aR 603, aI x3] (fun r2 m1 => (0 ≤ x3 ∧ x3 < 10) ∧ (CI E mX12_term k (aUp m1 627 x3 r2) [aR 603, aI 1] (fun r5 m4 => ((r2 ≤ r5 → (R32 (x3 + 1)) ∧ VM E mX12_packed (k + 1) m4 30 [(0, aR 603), (1, aI p0), (2, aI x2), (3, aI (x3 + 1))] [] (retI Q)) ∧ (r5 < r2 → Q (-1) m4))))))))) :
    VM E mX12_packed (k + 1) mem 30 [(0, aR 603), (1, aI p0), (2, aI x2), (3, aI x3)] [] (retI Q) := by
  refine v_iload_n (pc := 30) dX12_packed_30 3 rfl ?_
  refine v_iload_n (pc := 31) dX12_packed_31 2 rfl ?_
  refine v_icmpge (pc := 32) (tgt := 68) dX12_packed_32 (by decide) (fun c1 => ?_) (fun c1 => ?_)
  · have h := h.1 c1
    refine v_iconst (pc := 68) dX12_packed_68 (by decide) ?_
    refine v_istore_n (pc := 69) (al2 := [(3, aI 0), (0, aR 603), (1, aI p0), (2, aI x2)]) dX12_packed_69 (by decide) rfl ?_
    exact VG_sub (al' := [(0, aR 603), (1, aI p0), (3, aI 0)]) [1, 2, 0] rfl h
  · have h := h.2 c1
    refine v_aload_n (pc := 35) dX12_packed_35 0 rfl ?_
    refine m_getfin (pc := 36) (v := 627) hE dX12_packed_36 flX12_121 rfl at603 rfl ?_
    refine v_iload_n (pc := 39) dX12_packed_39 3 rfl ?_
    refine v_aload_n (pc := 40) dX12_packed_40 0 rfl ?_
    refine v_iload_n (pc := 41) dX12_packed_41 3 rfl ?_
    refine m_invI (pc := 42) (mi' := mX12_digsOf) (rest := [aI x3, aR 627]) [aI x3] dX12_packed_42 at603 (by decide) rfl msX12_digsOf mvX12_digsOf lkX12_220 rfl (Nat.le_of_ble_eq_true rfl) (fun hn => CI_mono (h (aaI hn 1 rfl)) (fun r2 m1 h => ?_))
    obtain ⟨o3, h⟩ := h
    refine v_iast (pc := 45) dX12_packed_45 at627 o3.1 o3.2 ?_
    refine v_aload_n (pc := 46) dX12_packed_46 0 rfl ?_
    refine m_getfin (pc := 47) (v := 627) hE dX12_packed_47 flX12_121 rfl at603 rfl ?_
    refine v_iload_n (pc := 50) dX12_packed_50 3 rfl ?_
    refine m_iald (pc := 51) (v := r2) dX12_packed_51 at627 o3.1 o3.2 (aUp_re) ?_
    refine v_aload_n (pc := 52) dX12_packed_52 0 rfl ?_
    refine v_iconst (pc := 53) dX12_packed_53 (by decide) ?_
    refine m_invI (pc := 54) (mi' := mX12_term) (rest := [aI r2]) [aI 1] dX12_packed_54 at603 (by decide) rfl msX12_term mvX12_term lkX12_412 rfl (Nat.le_of_ble_eq_true rfl) (fun hn => CI_mono (h) (fun r5 m4 h => ?_))
    refine v_icmple (pc := 57) (tgt := 62) dX12_packed_57 (by decide) (fun c1 => ?_) (fun c1 => ?_)
    · have h := h.1 c1
      obtain ⟨o6, h⟩ := h
      refine m_iinc (pc := 62) (al2 := [(3, aI (x3 + 1)), (0, aR 603), (1, aI p0), (2, aI x2)]) dX12_packed_62 3 rfl (by decide) o6 rfl ?_
      refine v_goto (pc := 65) (tgt := 30) dX12_packed_65 (by decide) ?_
      exact VG_sub (al' := [(0, aR 603), (1, aI p0), (2, aI x2), (3, aI (x3 + 1))]) [1, 2, 3, 0] rfl h
    · have h := h.2 c1
      refine v_iconst (pc := 60) dX12_packed_60 (by decide) ?_
      exact m_retI (pc := 61) dX12_packed_61 rfl h
set_option maxRecDepth 20000 in
theorem rX12_packed_70 {E : EN} (hE : Ep E) {k : Nat} {mem : Mm} {Q : Int → Mm → Prop} {p0 x3 : Int}
    (h : (R32 x3 → CI E mX12_isPacked k mem [aR 603, aI x3] (fun r2 m1 => ((¬ r2 = 0 → ((¬ p0 = (-1) → (0 ≤ p0 ∧ p0 < 11) ∧ Q (m1 628 p0) m1) ∧ (p0 = (-1) → Q x3 m1))) ∧ (r2 = 0 → (R32 (x3 + 1)) ∧ VM E mX12_packed (k + 1) m1 70 [(0, aR 603), (1, aI p0), (3, aI (x3 + 1))] [] (retI Q)))))) :
    VM E mX12_packed (k + 1) mem 70 [(0, aR 603), (1, aI p0), (3, aI x3)] [] (retI Q) := by
  refine v_aload_n (pc := 70) dX12_packed_70 0 rfl ?_
  refine v_iload_n (pc := 71) dX12_packed_71 2 rfl ?_
  refine m_invI (pc := 72) (mi' := mX12_isPacked) (rest := []) [aI x3] dX12_packed_72 at603 (by decide) rfl msX12_isPacked mvX12_isPacked lkX12_496 rfl (Nat.le_of_ble_eq_true rfl) (fun hn => CI_mono (h (aaI hn 1 rfl)) (fun r2 m1 h => ?_))
  refine v_ifne (pc := 75) (tgt := 84) dX12_packed_75 (by decide) (fun c1 => ?_) (fun c1 => ?_)
  · have h := h.1 c1
    refine v_iload_n (pc := 84) dX12_packed_84 1 rfl ?_
    refine v_iconst (pc := 85) dX12_packed_85 (by decide) ?_
    refine v_icmpne (pc := 86) (tgt := 93) dX12_packed_86 (by decide) (fun c1 => ?_) (fun c1 => ?_)
    · have h := h.1 c1
      refine v_aload_n (pc := 93) dX12_packed_93 0 rfl ?_
      refine m_getfin (pc := 94) (v := 628) hE dX12_packed_94 flX12_124 rfl at603 rfl ?_
      refine v_iload_n (pc := 97) dX12_packed_97 1 rfl ?_
      obtain ⟨o3, h⟩ := h
      refine m_iald (pc := 98) (v := (m1 628 p0)) dX12_packed_98 at628 o3.1 o3.2 rfl ?_
      exact m_retI (pc := 99) dX12_packed_99 rfl h
    · have h := h.2 c1
      refine v_iload_n (pc := 89) dX12_packed_89 2 rfl ?_
      refine v_goto (pc := 90) (tgt := 99) dX12_packed_90 (by decide) ?_
      exact m_retI (pc := 99) dX12_packed_99 rfl h
  · have h := h.2 c1
    obtain ⟨o4, h⟩ := h
    refine m_iinc (pc := 78) (al2 := [(3, aI (x3 + 1)), (0, aR 603), (1, aI p0)]) dX12_packed_78 2 rfl (by decide) o4 rfl ?_
    refine v_goto (pc := 81) (tgt := 70) dX12_packed_81 (by decide) ?_
    exact VG_sub (al' := [(0, aR 603), (1, aI p0), (3, aI (x3 + 1))]) [1, 2, 0] rfl h

theorem dX12_areBeside_0 : decode cX12_areBeside 0 = .ok (.aload_n 0, 1) := by decide +kernel
theorem dX12_areBeside_1 : decode cX12_areBeside 1 = .ok (.getfield 13, 3) := by decide +kernel
theorem dX12_areBeside_4 : decode cX12_areBeside 4 = .ok (.bipush 8, 2) := by decide +kernel
theorem dX12_areBeside_6 : decode cX12_areBeside 6 = .ok (.iload_n 1, 1) := by decide +kernel
theorem dX12_areBeside_7 : decode cX12_areBeside 7 = .ok (.iadd, 1) := by decide +kernel
theorem dX12_areBeside_8 : decode cX12_areBeside 8 = .ok (.iaload, 1) := by decide +kernel
theorem dX12_areBeside_9 : decode cX12_areBeside 9 = .ok (.aload_n 0, 1) := by decide +kernel
theorem dX12_areBeside_10 : decode cX12_areBeside 10 = .ok (.getfield 13, 3) := by decide +kernel
theorem dX12_areBeside_13 : decode cX12_areBeside 13 = .ok (.bipush 8, 2) := by decide +kernel
theorem dX12_areBeside_15 : decode cX12_areBeside 15 = .ok (.iload_n 2, 1) := by decide +kernel
theorem dX12_areBeside_16 : decode cX12_areBeside 16 = .ok (.iadd, 1) := by decide +kernel
theorem dX12_areBeside_17 : decode cX12_areBeside 17 = .ok (.iaload, 1) := by decide +kernel
theorem dX12_areBeside_18 : decode cX12_areBeside 18 = .ok (.isub, 1) := by decide +kernel
theorem dX12_areBeside_19 : decode cX12_areBeside 19 = .ok (.bipush 32, 2) := by decide +kernel
theorem dX12_areBeside_21 : decode cX12_areBeside 21 = .ok (.iadd, 1) := by decide +kernel
theorem dX12_areBeside_22 : decode cX12_areBeside 22 = .ok (.bipush 32, 2) := by decide +kernel
theorem dX12_areBeside_24 : decode cX12_areBeside 24 = .ok (.irem, 1) := by decide +kernel
theorem dX12_areBeside_25 : decode cX12_areBeside 25 = .ok (.istore_n 3, 1) := by decide +kernel
theorem dX12_areBeside_26 : decode cX12_areBeside 26 = .ok (.iload_n 3, 1) := by decide +kernel
theorem dX12_areBeside_27 : decode cX12_areBeside 27 = .ok (.iconst 1, 1) := by decide +kernel
theorem dX12_areBeside_28 : decode cX12_areBeside 28 = .ok (.if_icmp .eq 9, 3) := by decide +kernel
theorem dX12_areBeside_31 : decode cX12_areBeside 31 = .ok (.iload_n 3, 1) := by decide +kernel
theorem dX12_areBeside_32 : decode cX12_areBeside 32 = .ok (.bipush 31, 2) := by decide +kernel
theorem dX12_areBeside_34 : decode cX12_areBeside 34 = .ok (.if_icmp .ne 7, 3) := by decide +kernel
theorem dX12_areBeside_37 : decode cX12_areBeside 37 = .ok (.iconst 1, 1) := by decide +kernel
theorem dX12_areBeside_38 : decode cX12_areBeside 38 = .ok (.goto 4, 3) := by decide +kernel
theorem dX12_areBeside_41 : decode cX12_areBeside 41 = .ok (.iconst 0, 1) := by decide +kernel
theorem dX12_areBeside_42 : decode cX12_areBeside 42 = .ok (.ireturn, 1) := by decide +kernel
set_option maxRecDepth 20000 in
theorem rX12_areBeside_0 {E : EN} (hE : Ep E) {k : Nat} {mem : Mm} {Q : Int → Mm → Prop} {p0 p1 : Int}
    (h : (R32 (8 + p0)) ∧ (0 ≤ (8 + p0) ∧ (8 + p0) < 5570) ∧ (R32 (8 + p1)) ∧ (0 ≤ (8 + p1) ∧ (8 + p1) < 5570) ∧ (R32 ((mem 605 (8 + p0)) - (mem 605 (8 + p1)))) ∧ (R32 (((mem 605 (8 + p0)) - (mem 605 (8 + p1))) + 32)) ∧ (((Int.tmod (((mem 605 (8 + p0)) - (mem 605 (8 + p1))) + 32) 32) = 1 → Q 1 mem) ∧ (¬ (Int.tmod (((mem 605 (8 + p0)) - (mem 605 (8 + p1))) + 32) 32) = 1 → ((¬ (Int.tmod (((mem 605 (8 + p0)) - (mem 605 (8 + p1))) + 32) 32) = 31 → Q 0 mem) ∧ ((Int.tmod (((mem 605 (8 + p0)) - (mem 605 (8 + p1))) + 32) 32) = 31 → Q 1 mem))))) :
    VM E mX12_areBeside k mem 0 [(0, aR 603), (1, aI p0), (2, aI p1)] [] (retI Q) := by
  refine v_aload_n (pc := 0) dX12_areBeside_0 0 rfl ?_
  refine m_getfin (pc := 1) (v := 605) hE dX12_areBeside_1 flX12_13 rfl at603 rfl ?_
  refine v_bipush (pc := 4) dX12_areBeside_4 (by decide) ?_
  refine v_iload_n (pc := 6) dX12_areBeside_6 1 rfl ?_
  obtain ⟨o1, h⟩ := h
  refine m_iadd (pc := 7) dX12_areBeside_7 o1 ?_
  obtain ⟨o2, h⟩ := h
  refine m_iald (pc := 8) (v := (mem 605 (8 + p0))) dX12_areBeside_8 at605 o2.1 o2.2 rfl ?_
  refine v_aload_n (pc := 9) dX12_areBeside_9 0 rfl ?_
  refine m_getfin (pc := 10) (v := 605) hE dX12_areBeside_10 flX12_13 rfl at603 rfl ?_
  refine v_bipush (pc := 13) dX12_areBeside_13 (by decide) ?_
  refine v_iload_n (pc := 15) dX12_areBeside_15 2 rfl ?_
  obtain ⟨o3, h⟩ := h
  refine m_iadd (pc := 16) dX12_areBeside_16 o3 ?_
  obtain ⟨o4, h⟩ := h
  refine m_iald (pc := 17) (v := (mem 605 (8 + p1))) dX12_areBeside_17 at605 o4.1 o4.2 rfl ?_
  obtain ⟨o5, h⟩ := h
  refine m_isub (pc := 18) dX12_areBeside_18 o5 ?_
  refine v_bipush (pc := 19) dX12_areBeside_19 (by decide) ?_
  obtain ⟨o6, h⟩ := h
  refine m_iadd (pc := 21) dX12_areBeside_21 o6 ?_
  refine v_bipush (pc := 22) dX12_areBeside_22 (by decide) ?_
  refine v_irem (pc := 24) dX12_areBeside_24 (by decide) ?_
  refine v_istore_n (pc := 25) (al2 := [(3, aI (Int.tmod (((mem 605 (8 + p0)) - (mem 605 (8 + p1))) + 32) 32)), (0, aR 603), (1, aI p0), (2, aI p1)]) dX12_areBeside_25 (by decide) rfl ?_
  refine v_iload_n (pc := 26) dX12_areBeside_26 0 rfl ?_
  refine v_iconst (pc := 27) dX12_areBeside_27 (by decide) ?_
  refine v_icmpeq (pc := 28) (tgt := 37) dX12_areBeside_28 (by decide) (fun c1 => ?_) (fun c1 => ?_)
  · have h := h.1 c1
    refine v_iconst (pc := 37) dX12_areBeside_37 (by decide) ?_
    refine v_goto (pc := 38) (tgt := 42) dX12_areBeside_38 (by decide) ?_
    exact m_retZ (pc := 42) dX12_areBeside_42 rfl (by decide) h
  · have h := h.2 c1
    refine v_iload_n (pc := 31) dX12_areBeside_31 0 rfl ?_
    refine v_bipush (pc := 32) dX12_areBeside_32 (by decide) ?_
    refine v_icmpne (pc := 34) (tgt := 41) dX12_areBeside_34 (by decide) (fun c1 => ?_) (fun c1 => ?_)
    · have h := h.1 c1
      refine v_iconst (pc := 41) dX12_areBeside_41 (by decide) ?_
      exact m_retZ (pc := 42) dX12_areBeside_42 rfl (by decide) h
    · have h := h.2 c1
      refine v_iconst (pc := 37) dX12_areBeside_37 (by decide) ?_
      refine v_goto (pc := 38) (tgt := 42) dX12_areBeside_38 (by decide) ?_
      exact m_retZ (pc := 42) dX12_areBeside_42 rfl (by decide) h
theorem eX12_areBeside {E : EN} {k : Nat} {mem : Mm} {Q : Int → Mm → Prop} {p0 p1 : Int} (hr_p0 : R32 p0) (hr_p1 : R32 p1) (h : VM E mX12_areBeside k mem 0 [(0, aR 603), (1, aI p0), (2, aI p1)] [] (retI Q)) : CI E mX12_areBeside k mem [aR 603, aI p0, aI p1] Q := CI_of rfl (Nat.le_of_ble_eq_true rfl) h (aNs_c (aNr_R _) (aNs_c (aNr_I hr_p0) (aNs_c (aNr_I hr_p1) (fun _ q => nomatch q))))

theorem dX12_noteBeside_0 : decode cX12_noteBeside 0 = .ok (.iconst 0, 1) := by decide +kernel
theorem dX12_noteBeside_1 : decode cX12_noteBeside 1 = .ok (.istore_n 1, 1) := by decide +kernel
theorem dX12_noteBeside_2 : decode cX12_noteBeside 2 = .ok (.iload_n 1, 1) := by decide +kernel
theorem dX12_noteBeside_3 : decode cX12_noteBeside 3 = .ok (.aload_n 0, 1) := by decide +kernel
theorem dX12_noteBeside_4 : decode cX12_noteBeside 4 = .ok (.getfield 13, 3) := by decide +kernel
theorem dX12_noteBeside_7 : decode cX12_noteBeside 7 = .ok (.bipush 7, 2) := by decide +kernel
theorem dX12_noteBeside_9 : decode cX12_noteBeside 9 = .ok (.iaload, 1) := by decide +kernel
theorem dX12_noteBeside_10 : decode cX12_noteBeside 10 = .ok (.if_icmp .ge 47, 3) := by decide +kernel
theorem dX12_noteBeside_13 : decode cX12_noteBeside 13 = .ok (.iload_n 1, 1) := by decide +kernel
theorem dX12_noteBeside_14 : decode cX12_noteBeside 14 = .ok (.iconst 1, 1) := by decide +kernel
theorem dX12_noteBeside_15 : decode cX12_noteBeside 15 = .ok (.iadd, 1) := by decide +kernel
theorem dX12_noteBeside_16 : decode cX12_noteBeside 16 = .ok (.istore_n 2, 1) := by decide +kernel
theorem dX12_noteBeside_17 : decode cX12_noteBeside 17 = .ok (.iload_n 2, 1) := by decide +kernel
theorem dX12_noteBeside_18 : decode cX12_noteBeside 18 = .ok (.aload_n 0, 1) := by decide +kernel
theorem dX12_noteBeside_19 : decode cX12_noteBeside 19 = .ok (.getfield 13, 3) := by decide +kernel
theorem dX12_noteBeside_22 : decode cX12_noteBeside 22 = .ok (.bipush 7, 2) := by decide +kernel
theorem dX12_noteBeside_24 : decode cX12_noteBeside 24 = .ok (.iaload, 1) := by decide +kernel
theorem dX12_noteBeside_25 : decode cX12_noteBeside 25 = .ok (.if_icmp .ge 26, 3) := by decide +kernel
theorem dX12_noteBeside_28 : decode cX12_noteBeside 28 = .ok (.aload_n 0, 1) := by decide +kernel
theorem dX12_noteBeside_29 : decode cX12_noteBeside 29 = .ok (.getfield 133, 3) := by decide +kernel
theorem dX12_noteBeside_32 : decode cX12_noteBeside 32 = .ok (.bipush 10, 2) := by decide +kernel
theorem dX12_noteBeside_34 : decode cX12_noteBeside 34 = .ok (.iload_n 1, 1) := by decide +kernel
theorem dX12_noteBeside_35 : decode cX12_noteBeside 35 = .ok (.imul, 1) := by decide +kernel
theorem dX12_noteBeside_36 : decode cX12_noteBeside 36 = .ok (.iload_n 2, 1) := by decide +kernel
theorem dX12_noteBeside_37 : decode cX12_noteBeside 37 = .ok (.iadd, 1) := by decide +kernel
theorem dX12_noteBeside_38 : decode cX12_noteBeside 38 = .ok (.aload_n 0, 1) := by decide +kernel
theorem dX12_noteBeside_39 : decode cX12_noteBeside 39 = .ok (.iload_n 1, 1) := by decide +kernel
theorem dX12_noteBeside_40 : decode cX12_noteBeside 40 = .ok (.iload_n 2, 1) := by decide +kernel
theorem dX12_noteBeside_41 : decode cX12_noteBeside 41 = .ok (.invokevirtual 499, 3) := by decide +kernel
theorem dX12_noteBeside_44 : decode cX12_noteBeside 44 = .ok (.bastore, 1) := by decide +kernel
theorem dX12_noteBeside_45 : decode cX12_noteBeside 45 = .ok (.iinc 2 1, 3) := by decide +kernel
theorem dX12_noteBeside_48 : decode cX12_noteBeside 48 = .ok (.goto (-31), 3) := by decide +kernel
theorem dX12_noteBeside_51 : decode cX12_noteBeside 51 = .ok (.iinc 1 1, 3) := by decide +kernel
theorem dX12_noteBeside_54 : decode cX12_noteBeside 54 = .ok (.goto (-52), 3) := by decide +kernel
theorem dX12_noteBeside_57 : decode cX12_noteBeside 57 = .ok (.return_, 1) := by decide +kernel
set_option maxRecDepth 20000 in
theorem rX12_noteBeside_0 {E : EN} (hE : Ep E) {k : Nat} {mem : Mm} {Q : Mm → Prop}
    (h : VM E mX12_noteBeside (k + 1) mem 2 [(0, aR 603), (1, aI 0)] [] (retV Q)) :
    VM E mX12_noteBeside (k + 1) mem 0 [(0, aR 603)] [] (retV Q) := by
  refine v_iconst (pc := 0) dX12_noteBeside_0 (by decide) ?_
  refine v_istore_n (pc := 1) (al2 := [(1, aI 0), (0, aR 603)]) dX12_noteBeside_1 (by decide) rfl ?_
  exact VG_sub (al' := [(0, aR 603), (1, aI 0)]) [1, 0] rfl h
theorem eX12_noteBeside {E : EN} {k : Nat} {mem : Mm} {Q : Mm → Prop}  (h : VM E mX12_noteBeside (k + 1) mem 0 [(0, aR 603)] [] (retV Q)) : CV E mX12_noteBeside (k + 1) mem [aR 603] Q := CV_of rfl (Nat.le_of_ble_eq_true rfl) h (aNs_c (aNr_R _) (fun _ q => nomatch q))
set_option maxRecDepth 20000 in
theorem rX12_noteBeside_2 {E : EN} (hE : Ep E) {k : Nat} {mem : Mm} {Q : Mm → Prop} {x1 : Int}
    (h : (((mem 605 7) ≤ x1 → Q mem) ∧ (x1 < (mem 605 7) → (R32 (x1 + 1)) ∧ VM E mX12_noteBeside (k + 1) mem 17 [(0, aR 603), (1, aI x1), (2, aI (x1 + 1))] [] (retV Q)))) :
    VM E mX12_noteBeside (k + 1) mem 2 [(0, aR 603), (1, aI x1)] [] (retV Q) := by
  refine v_iload_n (pc := 2) dX12_noteBeside_2 1 rfl ?_
  refine v_aload_n (pc := 3) dX12_noteBeside_3 0 rfl ?_
  refine m_getfin (pc := 4) (v := 605) hE dX12_noteBeside_4 flX12_13 rfl at603 rfl ?_
  refine v_bipush (pc := 7) dX12_noteBeside_7 (by decide) ?_
  refine m_iald (pc := 9) (v := (mem 605 7)) dX12_noteBeside_9 at605 (by omega) (by omega) rfl ?_
  refine v_icmpge (pc := 10) (tgt := 57) dX12_noteBeside_10 (by decide) (fun c1 => ?_) (fun c1 => ?_)
  · have h := h.1 c1
    exact m_retV (pc := 57) dX12_noteBeside_57 rfl h
  · have h := h.2 c1
    refine v_iload_n (pc := 13) dX12_noteBeside_13 1 rfl ?_
    refine v_iconst (pc := 14) dX12_noteBeside_14 (by decide) ?_
    obtain ⟨o1, h⟩ := h
    refine m_iadd (pc := 15) dX12_noteBeside_15 o1 ?_
    refine v_istore_n (pc := 16) (al2 := [(2, aI (x1 + 1)), (0, aR 603), (1, aI x1)]) dX12_noteBeside_16 (by decide) rfl ?_
    exact VG_sub (al' := [(0, aR 603), (1, aI x1), (2, aI (x1 + 1))]) [1, 2, 0] rfl h
set_option maxRecDepth 20000 in
theorem rX12_noteBeside_17 {E : EN} (hE : Ep E) {k : Nat} {mem : Mm} {Q : Mm → Prop} {x1 x2 : Int}
    (h : (((mem 605 7) ≤ x2 → (R32 (x1 + 1)) ∧ VM E mX12_noteBeside (k + 1) mem 2 [(0, aR 603), (1, aI (x1 + 1))] [] (retV Q)) ∧ (x2 < (mem 605 7) → (R32 (10 * x1)) ∧ (R32 ((10 * x1) + x2)) ∧ (R32 x1 → R32 x2 → CI E mX12_areBeside k mem [aR 603, aI x1, aI x2] (fun r5 m4 => (0 ≤ ((10 * x1) + x2) ∧ ((10 * x1) + x2) < 100) ∧ (r5 = 0 ∨ r5 = 1) ∧ (R32 (x2 + 1)) ∧ VM E mX12_noteBeside (k + 1) (aUp m4 631 ((10 * x1) + x2) r5) 17 [(0, aR 603), (1, aI x1), (2, aI (x2 + 1))] [] (retV Q)))))) :
    VM E mX12_noteBeside (k + 1) mem 17 [(0, aR 603), (1, aI x1), (2, aI x2)] [] (retV Q) := by
  refine v_iload_n (pc := 17) dX12_noteBeside_17 2 rfl ?_
  refine v_aload_n (pc := 18) dX12_noteBeside_18 0 rfl ?_
  refine m_getfin (pc := 19) (v := 605) hE dX12_noteBeside_19 flX12_13 rfl at603 rfl ?_
  refine v_bipush (pc := 22) dX12_noteBeside_22 (by decide) ?_
  refine m_iald (pc := 24) (v := (mem 605 7)) dX12_noteBeside_24 at605 (by omega) (by omega) rfl ?_
  refine v_icmpge (pc := 25) (tgt := 51) dX12_noteBeside_25 (by decide) (fun c1 => ?_) (fun c1 => ?_)
  · have h := h.1 c1
    obtain ⟨o1, h⟩ := h
    refine m_iinc (pc := 51) (al2 := [(1, aI (x1 + 1)), (0, aR 603), (2, aI x2)]) dX12_noteBeside_51 1 rfl (by decide) o1 rfl ?_
    refine v_goto (pc := 54) (tgt := 2) dX12_noteBeside_54 (by decide) ?_
    exact VG_sub (al' := [(0, aR 603), (1, aI (x1 + 1))]) [1, 0] rfl h
  · have h := h.2 c1
    refine v_aload_n (pc := 28) dX12_noteBeside_28 0 rfl ?_
    refine m_getfin (pc := 29) (v := 631) hE dX12_noteBeside_29 flX12_133 rfl at603 rfl ?_
    refine v_bipush (pc := 32) dX12_noteBeside_32 (by decide) ?_
    refine v_iload_n (pc := 34) dX12_noteBeside_34 1 rfl ?_
    obtain ⟨o2, h⟩ := h
    refine m_imul (pc := 35) dX12_noteBeside_35 o2 ?_
    refine v_iload_n (pc := 36) dX12_noteBeside_36 2 rfl ?_
    obtain ⟨o3, h⟩ := h
    refine m_iadd (pc := 37) dX12_noteBeside_37 o3 ?_
    refine v_aload_n (pc := 38) dX12_noteBeside_38 0 rfl ?_
    refine v_iload_n (pc := 39) dX12_noteBeside_39 1 rfl ?_
    refine v_iload_n (pc := 40) dX12_noteBeside_40 2 rfl ?_
    refine m_invI (pc := 41) (mi' := mX12_areBeside) (rest := [aI ((10 * x1) + x2), aR 631]) [aI x1, aI x2] dX12_noteBeside_41 at603 (by decide) rfl msX12_areBeside mvX12_areBeside lkX12_499 rfl (Nat.le_of_ble_eq_true rfl) (fun hn => CI_mono (h (aaI hn 1 rfl) (aaI hn 2 rfl)) (fun r5 m4 h => ?_))
    obtain ⟨o6, h⟩ := h
    obtain ⟨o7, h⟩ := h
    refine v_zast (pc := 44) dX12_noteBeside_44 at631 o6.1 o6.2 o7 ?_
    obtain ⟨o8, h⟩ := h
    refine m_iinc (pc := 45) (al2 := [(2, aI (x2 + 1)), (0, aR 603), (1, aI x1)]) dX12_noteBeside_45 2 rfl (by decide) o8 rfl ?_
    refine v_goto (pc := 48) (tgt := 17) dX12_noteBeside_48 (by decide) ?_
    exact VG_sub (al' := [(0, aR 603), (1, aI x1), (2, aI (x2 + 1))]) [1, 2, 0] rfl h

theorem dX12_meets_0 : decode cX12_meets 0 = .ok (.aload_n 0, 1) := by decide +kernel
theorem dX12_meets_1 : decode cX12_meets 1 = .ok (.iconst 0, 1) := by decide +kernel
theorem dX12_meets_2 : decode cX12_meets 2 = .ok (.putfield 162, 3) := by decide +kernel
theorem dX12_meets_5 : decode cX12_meets 5 = .ok (.iload_n 1, 1) := by decide +kernel
theorem dX12_meets_6 : decode cX12_meets 6 = .ok (.i2l, 1) := by decide +kernel
theorem dX12_meets_7 : decode cX12_meets 7 = .ok (.lconst 0, 1) := by decide +kernel
theorem dX12_meets_8 : decode cX12_meets 8 = .ok (.ldc2_w 490, 3) := by decide +kernel
theorem dX12_meets_11 : decode cX12_meets 11 = .ok (.invokestatic 182, 3) := by decide +kernel
theorem dX12_meets_14 : decode cX12_meets 14 = .ok (.ifCond .eq 8, 3) := by decide +kernel
theorem dX12_meets_17 : decode cX12_meets 17 = .ok (.iload_n 2, 1) := by decide +kernel
theorem dX12_meets_18 : decode cX12_meets 18 = .ok (.iconst (-1), 1) := by decide +kernel
theorem dX12_meets_19 : decode cX12_meets 19 = .ok (.if_icmp .ge 5, 3) := by decide +kernel
theorem dX12_meets_22 : decode cX12_meets 22 = .ok (.iconst (-1), 1) := by decide +kernel
theorem dX12_meets_23 : decode cX12_meets 23 = .ok (.ireturn, 1) := by decide +kernel
theorem dX12_meets_24 : decode cX12_meets 24 = .ok (.aload_n 0, 1) := by decide +kernel
theorem dX12_meets_25 : decode cX12_meets 25 = .ok (.bipush 16, 2) := by decide +kernel
theorem dX12_meets_27 : decode cX12_meets 27 = .ok (.invokevirtual 171, 3) := by decide +kernel
theorem dX12_meets_30 : decode cX12_meets 30 = .ok (.iconst 0, 1) := by decide +kernel
theorem dX12_meets_31 : decode cX12_meets 31 = .ok (.istore_n 3, 1) := by decide +kernel
theorem dX12_meets_32 : decode cX12_meets 32 = .ok (.iconst (-1), 1) := by decide +kernel
theorem dX12_meets_33 : decode cX12_meets 33 = .ok (.istore 4, 2) := by decide +kernel
theorem dX12_meets_35 : decode cX12_meets 35 = .ok (.iconst 1, 1) := by decide +kernel
theorem dX12_meets_36 : decode cX12_meets 36 = .ok (.istore 5, 2) := by decide +kernel
theorem dX12_meets_38 : decode cX12_meets 38 = .ok (.iload 5, 2) := by decide +kernel
theorem dX12_meets_40 : decode cX12_meets 40 = .ok (.iload_n 1, 1) := by decide +kernel
theorem dX12_meets_41 : decode cX12_meets 41 = .ok (.if_icmp .gt 119, 3) := by decide +kernel
theorem dX12_meets_44 : decode cX12_meets 44 = .ok (.aload_n 0, 1) := by decide +kernel
theorem dX12_meets_45 : decode cX12_meets 45 = .ok (.invokevirtual 502, 3) := by decide +kernel
theorem dX12_meets_48 : decode cX12_meets 48 = .ok (.aload_n 0, 1) := by decide +kernel
theorem dX12_meets_49 : decode cX12_meets 49 = .ok (.invokevirtual 470, 3) := by decide +kernel
theorem dX12_meets_52 : decode cX12_meets 52 = .ok (.pop, 1) := by decide +kernel
theorem dX12_meets_53 : decode cX12_meets 53 = .ok (.iconst 0, 1) := by decide +kernel
theorem dX12_meets_54 : decode cX12_meets 54 = .ok (.istore 6, 2) := by decide +kernel
theorem dX12_meets_56 : decode cX12_meets 56 = .ok (.iload 6, 2) := by decide +kernel
theorem dX12_meets_58 : decode cX12_meets 58 = .ok (.aload_n 0, 1) := by decide +kernel
theorem dX12_meets_59 : decode cX12_meets 59 = .ok (.getfield 13, 3) := by decide +kernel
theorem dX12_meets_62 : decode cX12_meets 62 = .ok (.bipush 7, 2) := by decide +kernel
theorem dX12_meets_64 : decode cX12_meets 64 = .ok (.iaload, 1) := by decide +kernel
theorem dX12_meets_65 : decode cX12_meets 65 = .ok (.if_icmp .ge 89, 3) := by decide +kernel
theorem dX12_meets_68 : decode cX12_meets 68 = .ok (.iload 6, 2) := by decide +kernel
theorem dX12_meets_70 : decode cX12_meets 70 = .ok (.iconst 1, 1) := by decide +kernel
theorem dX12_meets_71 : decode cX12_meets 71 = .ok (.iadd, 1) := by decide +kernel
theorem dX12_meets_72 : decode cX12_meets 72 = .ok (.istore 7, 2) := by decide +kernel
theorem dX12_meets_74 : decode cX12_meets 74 = .ok (.iload 7, 2) := by decide +kernel
theorem dX12_meets_76 : decode cX12_meets 76 = .ok (.aload_n 0, 1) := by decide +kernel
theorem dX12_meets_77 : decode cX12_meets 77 = .ok (.getfield 13, 3) := by decide +kernel
theorem dX12_meets_80 : decode cX12_meets 80 = .ok (.bipush 7, 2) := by decide +kernel
theorem dX12_meets_82 : decode cX12_meets 82 = .ok (.iaload, 1) := by decide +kernel
theorem dX12_meets_83 : decode cX12_meets 83 = .ok (.if_icmp .ge 65, 3) := by decide +kernel
theorem dX12_meets_86 : decode cX12_meets 86 = .ok (.aload_n 0, 1) := by decide +kernel
theorem dX12_meets_87 : decode cX12_meets 87 = .ok (.iload 6, 2) := by decide +kernel
theorem dX12_meets_89 : decode cX12_meets 89 = .ok (.iload 7, 2) := by decide +kernel
theorem dX12_meets_91 : decode cX12_meets 91 = .ok (.invokevirtual 499, 3) := by decide +kernel
theorem dX12_meets_94 : decode cX12_meets 94 = .ok (.ifCond .eq 48, 3) := by decide +kernel
theorem dX12_meets_97 : decode cX12_meets 97 = .ok (.aload_n 0, 1) := by decide +kernel
theorem dX12_meets_98 : decode cX12_meets 98 = .ok (.getfield 133, 3) := by decide +kernel
theorem dX12_meets_101 : decode cX12_meets 101 = .ok (.bipush 10, 2) := by decide +kernel
theorem dX12_meets_103 : decode cX12_meets 103 = .ok (.iload 6, 2) := by decide +kernel
theorem dX12_meets_105 : decode cX12_meets 105 = .ok (.imul, 1) := by decide +kernel
theorem dX12_meets_106 : decode cX12_meets 106 = .ok (.iload 7, 2) := by decide +kernel
theorem dX12_meets_108 : decode cX12_meets 108 = .ok (.iadd, 1) := by decide +kernel
theorem dX12_meets_109 : decode cX12_meets 109 = .ok (.baload, 1) := by decide +kernel
theorem dX12_meets_110 : decode cX12_meets 110 = .ok (.ifCond .ne 32, 3) := by decide +kernel
theorem dX12_meets_113 : decode cX12_meets 113 = .ok (.iload_n 3, 1) := by decide +kernel
theorem dX12_meets_114 : decode cX12_meets 114 = .ok (.iload_n 2, 1) := by decide +kernel
theorem dX12_meets_115 : decode cX12_meets 115 = .ok (.if_icmp .ne 20, 3) := by decide +kernel
theorem dX12_meets_118 : decode cX12_meets 118 = .ok (.bipush 100, 2) := by decide +kernel
theorem dX12_meets_120 : decode cX12_meets 120 = .ok (.iload 5, 2) := by decide +kernel
theorem dX12_meets_122 : decode cX12_meets 122 = .ok (.imul, 1) := by decide +kernel
theorem dX12_meets_123 : decode cX12_meets 123 = .ok (.bipush 10, 2) := by decide +kernel
theorem dX12_meets_125 : decode cX12_meets 125 = .ok (.iload 6, 2) := by decide +kernel
theorem dX12_meets_127 : decode cX12_meets 127 = .ok (.imul, 1) := by decide +kernel
theorem dX12_meets_128 : decode cX12_meets 128 = .ok (.iadd, 1) := by decide +kernel
theorem dX12_meets_129 : decode cX12_meets 129 = .ok (.iload 7, 2) := by decide +kernel
theorem dX12_meets_131 : decode cX12_meets 131 = .ok (.iadd, 1) := by decide +kernel
theorem dX12_meets_132 : decode cX12_meets 132 = .ok (.goto 5, 3) := by decide +kernel
theorem dX12_meets_135 : decode cX12_meets 135 = .ok (.iload 4, 2) := by decide +kernel
theorem dX12_meets_137 : decode cX12_meets 137 = .ok (.istore 4, 2) := by decide +kernel
theorem dX12_meets_139 : decode cX12_meets 139 = .ok (.iinc 3 1, 3) := by decide +kernel
theorem dX12_meets_142 : decode cX12_meets 142 = .ok (.iinc 7 1, 3) := by decide +kernel
theorem dX12_meets_145 : decode cX12_meets 145 = .ok (.goto (-71), 3) := by decide +kernel
theorem dX12_meets_148 : decode cX12_meets 148 = .ok (.iinc 6 1, 3) := by decide +kernel
theorem dX12_meets_151 : decode cX12_meets 151 = .ok (.goto (-95), 3) := by decide +kernel
theorem dX12_meets_154 : decode cX12_meets 154 = .ok (.iinc 5 1, 3) := by decide +kernel
theorem dX12_meets_157 : decode cX12_meets 157 = .ok (.goto (-119), 3) := by decide +kernel
theorem dX12_meets_160 : decode cX12_meets 160 = .ok (.aload_n 0, 1) := by decide +kernel
theorem dX12_meets_161 : decode cX12_meets 161 = .ok (.bipush 16, 2) := by decide +kernel
theorem dX12_meets_163 : decode cX12_meets 163 = .ok (.invokevirtual 179, 3) := by decide +kernel
theorem dX12_meets_166 : decode cX12_meets 166 = .ok (.iload_n 2, 1) := by decide +kernel
theorem dX12_meets_167 : decode cX12_meets 167 = .ok (.iconst (-1), 1) := by decide +kernel
theorem dX12_meets_168 : decode cX12_meets 168 = .ok (.if_icmp .ne 7, 3) := by decide +kernel
theorem dX12_meets_171 : decode cX12_meets 171 = .ok (.iload_n 3, 1) := by decide +kernel
theorem dX12_meets_172 : decode cX12_meets 172 = .ok (.goto 5, 3) := by decide +kernel
theorem dX12_meets_175 : decode cX12_meets 175 = .ok (.iload 4, 2) := by decide +kernel
theorem dX12_meets_177 : decode cX12_meets 177 = .ok (.ireturn, 1) := by decide +kernel
set_option maxRecDepth 20000 in
theorem rX12_meets_0 {E : EN} (hE : Ep E) {k : Nat} {mem : Mm} {Q : Int → Mm → Prop} {p0 p1 : Int}
    (h : (R64 p0 → CI E mX12_in k (aUp mem 603 0 0) [aL p0, aL 0, aL 60] (fun r2 m1 => ((r2 = 0 → Q (-1) m1) ∧ (¬ r2 = 0 → (((-1) ≤ p1 → (CV E mX12_keepAll k m1 [aR 603, aI 16] (fun m3 => VM E mX12_meets (k + 1) m3 38 [(0, aR 603), (1, aI p0), (2, aI p1), (3, aI 0), (4, aI (-1)), (5, aI 1)] [] (retI Q)))) ∧ (p1 < (-1) → Q (-1) m1))))))) :
    VM E mX12_meets (k + 1) mem 0 [(0, aR 603), (1, aI p0), (2, aI p1)] [] (retI Q) := by
  refine v_aload_n (pc := 0) dX12_meets_0 0 rfl ?_
  refine v_iconst (pc := 1) dX12_meets_1 (by decide) ?_
  refine v_putf (pc := 2) dX12_meets_2 flX12_162 ⟨_, _, rfl, Or.inl rfl⟩ rfl (by decide) (fun q => nomatch q) (Or.inl fun _ => rfl) at603 ?_
  refine v_iload_n (pc := 5) dX12_meets_5 1 rfl ?_
  refine v_i2l (pc := 6) dX12_meets_6 ?_
  refine v_lconst0 (pc := 7) dX12_meets_7 ?_
  refine v_ldc2 (pc := 8) (n := 60) dX12_meets_8 cnX12_490 (by decide) ?_
  refine m_invSI (pc := 11) (mi' := mX12_in) (rest := []) [aL p0, aL 0, aL 60] dX12_meets_11 msX12_in stX12_in lkX12_182 rfl (Nat.le_of_ble_eq_true rfl) (fun hn => CI_mono (h (aaL hn 0 rfl)) (fun r2 m1 h => ?_))
  refine v_ifeq (pc := 14) (tgt := 22) dX12_meets_14 (by decide) (fun c1 => ?_) (fun c1 => ?_)
  · have h := h.1 c1
    refine v_iconst (pc := 22) dX12_meets_22 (by decide) ?_
    exact m_retI (pc := 23) dX12_meets_23 rfl h
  · have h := h.2 c1
    refine v_iload_n (pc := 17) dX12_meets_17 2 rfl ?_
    refine v_iconst (pc := 18) dX12_meets_18 (by decide) ?_
    refine v_icmpge (pc := 19) (tgt := 24) dX12_meets_19 (by decide) (fun c1 => ?_) (fun c1 => ?_)
    · have h := h.1 c1
      refine v_aload_n (pc := 24) dX12_meets_24 0 rfl ?_
      refine v_bipush (pc := 25) dX12_meets_25 (by decide) ?_
      refine m_invV (pc := 27) (mi' := mX12_keepAll) (rest := []) [aI 16] dX12_meets_27 at603 (by decide) rfl msX12_keepAll mvX12_keepAll lkX12_171 rfl (Nat.le_of_ble_eq_true rfl) (fun hn => CV_mono (h) (fun m3 h => ?_))
      refine v_iconst (pc := 30) dX12_meets_30 (by decide) ?_
      refine v_istore_n (pc := 31) (al2 := [(3, aI 0), (0, aR 603), (1, aI p0), (2, aI p1)]) dX12_meets_31 (by decide) rfl ?_
      refine v_iconst (pc := 32) dX12_meets_32 (by decide) ?_
      refine v_istore (pc := 33) (al2 := [(4, aI (-1)), (3, aI 0), (0, aR 603), (1, aI p0), (2, aI p1)]) dX12_meets_33 (by decide) rfl ?_
      refine v_iconst (pc := 35) dX12_meets_35 (by decide) ?_
      refine v_istore (pc := 36) (al2 := [(5, aI 1), (4, aI (-1)), (3, aI 0), (0, aR 603), (1, aI p0), (2, aI p1)]) dX12_meets_36 (by decide) rfl ?_
      exact VG_sub (al' := [(0, aR 603), (1, aI p0), (2, aI p1), (3, aI 0), (4, aI (-1)), (5, aI 1)]) [3, 4, 5, 2, 1, 0] rfl h
    · have h := h.2 c1
      refine v_iconst (pc := 22) dX12_meets_22 (by decide) ?_
      exact m_retI (pc := 23) dX12_meets_23 rfl h
theorem eX12_meets {E : EN} {k : Nat} {mem : Mm} {Q : Int → Mm → Prop} {p0 p1 : Int} (hr_p0 : R32 p0) (hr_p1 : R32 p1) (h : VM E mX12_meets (k + 1) mem 0 [(0, aR 603), (1, aI p0), (2, aI p1)] [] (retI Q)) : CI E mX12_meets (k + 1) mem [aR 603, aI p0, aI p1] Q := CI_of rfl (Nat.le_of_ble_eq_true rfl) h (aNs_c (aNr_R _) (aNs_c (aNr_I hr_p0) (aNs_c (aNr_I hr_p1) (fun _ q => nomatch q))))
set_option maxRecDepth 20000 in
theorem rX12_meets_38 {E : EN} (hE : Ep E) {k : Nat} {mem : Mm} {Q : Int → Mm → Prop} {p0 p1 x3 x4 x5 : Int}
    (h : ((p0 < x5 → (CV E mX12_putBack k mem [aR 603, aI 16] (fun m1 => ((¬ p1 = (-1) → Q x4 m1) ∧ (p1 = (-1) → Q x3 m1))))) ∧ (x5 ≤ p0 → (CV E mX12_noteBeside k mem [aR 603] (fun m2 => (CI E mX12_passIt k m2 [aR 603] (fun r4 m3 => VM E mX12_meets (k + 1) m3 56 [(0, aR 603), (1, aI p0), (2, aI p1), (3, aI x3), (4, aI x4), (5, aI x5), (6, aI 0)] [] (retI Q)))))))) :
    VM E mX12_meets (k + 1) mem 38 [(0, aR 603), (1, aI p0), (2, aI p1), (3, aI x3), (4, aI x4), (5, aI x5)] [] (retI Q) := by
  refine v_iload (pc := 38) dX12_meets_38 5 rfl ?_
  refine v_iload_n (pc := 40) dX12_meets_40 1 rfl ?_
  refine v_icmpgt (pc := 41) (tgt := 160) dX12_meets_41 (by decide) (fun c1 => ?_) (fun c1 => ?_)
  · have h := h.1 c1
    refine v_aload_n (pc := 160) dX12_meets_160 0 rfl ?_
    refine v_bipush (pc := 161) dX12_meets_161 (by decide) ?_
    refine m_invV (pc := 163) (mi' := mX12_putBack) (rest := []) [aI 16] dX12_meets_163 at603 (by decide) rfl msX12_putBack mvX12_putBack lkX12_179 rfl (Nat.le_of_ble_eq_true rfl) (fun hn => CV_mono (h) (fun m1 h => ?_))
    refine v_iload_n (pc := 166) dX12_meets_166 2 rfl ?_
    refine v_iconst (pc := 167) dX12_meets_167 (by decide) ?_
    refine v_icmpne (pc := 168) (tgt := 175) dX12_meets_168 (by decide) (fun c1 => ?_) (fun c1 => ?_)
    · have h := h.1 c1
      refine v_iload (pc := 175) dX12_meets_175 4 rfl ?_
      exact m_retI (pc := 177) dX12_meets_177 rfl h
    · have h := h.2 c1
      refine v_iload_n (pc := 171) dX12_meets_171 3 rfl ?_
      refine v_goto (pc := 172) (tgt := 177) dX12_meets_172 (by decide) ?_
      exact m_retI (pc := 177) dX12_meets_177 rfl h
  · have h := h.2 c1
    refine v_aload_n (pc := 44) dX12_meets_44 0 rfl ?_
    refine m_invV (pc := 45) (mi' := mX12_noteBeside) (rest := []) [] dX12_meets_45 at603 (by decide) rfl msX12_noteBeside mvX12_noteBeside lkX12_502 rfl (Nat.le_of_ble_eq_true rfl) (fun hn => CV_mono (h) (fun m2 h => ?_))
    refine v_aload_n (pc := 48) dX12_meets_48 0 rfl ?_
    refine m_invI (pc := 49) (mi' := mX12_passIt) (rest := []) [] dX12_meets_49 at603 (by decide) rfl msX12_passIt mvX12_passIt lkX12_470 rfl (Nat.le_of_ble_eq_true rfl) (fun hn => CI_mono (h) (fun r4 m3 h => ?_))
    refine v_pop (pc := 52) dX12_meets_52 rfl ?_
    refine v_iconst (pc := 53) dX12_meets_53 (by decide) ?_
    refine v_istore (pc := 54) (al2 := [(6, aI 0), (0, aR 603), (1, aI p0), (2, aI p1), (3, aI x3), (4, aI x4), (5, aI x5)]) dX12_meets_54 (by decide) rfl ?_
    exact VG_sub (al' := [(0, aR 603), (1, aI p0), (2, aI p1), (3, aI x3), (4, aI x4), (5, aI x5), (6, aI 0)]) [1, 2, 3, 4, 5, 6, 0] rfl h
set_option maxRecDepth 20000 in
theorem rX12_meets_56 {E : EN} (hE : Ep E) {k : Nat} {mem : Mm} {Q : Int → Mm → Prop} {p0 p1 x3 x4 x5 x6 : Int}
    (h : (((mem 605 7) ≤ x6 → (R32 (x5 + 1)) ∧ VM E mX12_meets (k + 1) mem 38 [(0, aR 603), (1, aI p0), (2, aI p1), (3, aI x3), (4, aI x4), (5, aI (x5 + 1))] [] (retI Q)) ∧ (x6 < (mem 605 7) → (R32 (x6 + 1)) ∧ VM E mX12_meets (k + 1) mem 74 [(0, aR 603), (1, aI p0), (2, aI p1), (3, aI x3), (4, aI x4), (5, aI x5), (6, aI x6), (7, aI (x6 + 1))] [] (retI Q)))) :
    VM E mX12_meets (k + 1) mem 56 [(0, aR 603), (1, aI p0), (2, aI p1), (3, aI x3), (4, aI x4), (5, aI x5), (6, aI x6)] [] (retI Q) := by
  refine v_iload (pc := 56) dX12_meets_56 6 rfl ?_
  refine v_aload_n (pc := 58) dX12_meets_58 0 rfl ?_
  refine m_getfin (pc := 59) (v := 605) hE dX12_meets_59 flX12_13 rfl at603 rfl ?_
  refine v_bipush (pc := 62) dX12_meets_62 (by decide) ?_
  refine m_iald (pc := 64) (v := (mem 605 7)) dX12_meets_64 at605 (by omega) (by omega) rfl ?_
  refine v_icmpge (pc := 65) (tgt := 154) dX12_meets_65 (by decide) (fun c1 => ?_) (fun c1 => ?_)
  · have h := h.1 c1
    obtain ⟨o1, h⟩ := h
    refine m_iinc (pc := 154) (al2 := [(5, aI (x5 + 1)), (0, aR 603), (1, aI p0), (2, aI p1), (3, aI x3), (4, aI x4), (6, aI x6)]) dX12_meets_154 5 rfl (by decide) o1 rfl ?_
    refine v_goto (pc := 157) (tgt := 38) dX12_meets_157 (by decide) ?_
    exact VG_sub (al' := [(0, aR 603), (1, aI p0), (2, aI p1), (3, aI x3), (4, aI x4), (5, aI (x5 + 1))]) [1, 2, 3, 4, 5, 0] rfl h
  · have h := h.2 c1
    refine v_iload (pc := 68) dX12_meets_68 6 rfl ?_
    refine v_iconst (pc := 70) dX12_meets_70 (by decide) ?_
    obtain ⟨o2, h⟩ := h
    refine m_iadd (pc := 71) dX12_meets_71 o2 ?_
    refine v_istore (pc := 72) (al2 := [(7, aI (x6 + 1)), (0, aR 603), (1, aI p0), (2, aI p1), (3, aI x3), (4, aI x4), (5, aI x5), (6, aI x6)]) dX12_meets_72 (by decide) rfl ?_
    exact VG_sub (al' := [(0, aR 603), (1, aI p0), (2, aI p1), (3, aI x3), (4, aI x4), (5, aI x5), (6, aI x6), (7, aI (x6 + 1))]) [1, 2, 3, 4, 5, 6, 7, 0] rfl h
set_option maxRecDepth 20000 in
theorem rX12_meets_74 {E : EN} (hE : Ep E) {k : Nat} {mem : Mm} {Q : Int → Mm → Prop} {p0 p1 x3 x4 x5 x6 x7 : Int}
    (h : (((mem 605 7) ≤ x7 → (R32 (x6 + 1)) ∧ VM E mX12_meets (k + 1) mem 56 [(0, aR 603), (1, aI p0), (2, aI p1), (3, aI x3), (4, aI x4), (5, aI x5), (6, aI (x6 + 1))] [] (retI Q)) ∧ (x7 < (mem 605 7) → (R32 x6 → R32 x7 → CI E mX12_areBeside k mem [aR 603, aI x6, aI x7] (fun r3 m2 => ((r3 = 0 → (R32 (x7 + 1)) ∧ VM E mX12_meets (k + 1) m2 74 [(0, aR 603), (1, aI p0), (2, aI p1), (3, aI x3), (4, aI x4), (5, aI x5), (6, aI x6), (7, aI (x7 + 1))] [] (retI Q)) ∧ (¬ r3 = 0 → (R32 (10 * x6)) ∧ (R32 ((10 * x6) + x7)) ∧ (0 ≤ ((10 * x6) + x7) ∧ ((10 * x6) + x7) < 100) ∧ ((¬ (m2 631 ((10 * x6) + x7)) = 0 → (R32 (x7 + 1)) ∧ VM E mX12_meets (k + 1) m2 74 [(0, aR 603), (1, aI p0), (2, aI p1), (3, aI x3), (4, aI x4), (5, aI x5), (6, aI x6), (7, aI (x7 + 1))] [] (retI Q)) ∧ ((m2 631 ((10 * x6) + x7)) = 0 → ((¬ x3 = p1 → (R32 (x3 + 1)) ∧ (R32 (x7 + 1)) ∧ VM E mX12_meets (k + 1) m2 74 [(0, aR 603), (1, aI p0), (2, aI p1), (3, aI (x3 + 1)), (4, aI x4), (5, aI x5), (6, aI x6), (7, aI (x7 + 1))] [] (retI Q)) ∧ (x3 = p1 → (R32 (100 * x5)) ∧ (R32 ((100 * x5) + (10 * x6))) ∧ (R32 (((100 * x5) + (10 * x6)) + x7)) ∧ (R32 (x3 + 1)) ∧ (R32 (x7 + 1)) ∧ VM E mX12_meets (k + 1) m2 74 [(0, aR 603), (1, aI p0), (2, aI p1), (3, aI (x3 + 1)), (4, aI (((100 * x5) + (10 * x6)) + x7)), (5, aI x5), (6, aI x6), (7, aI (x7 + 1))] [] (retI Q)))))))))))) :
    VM E mX12_meets (k + 1) mem 74 [(0, aR 603), (1, aI p0), (2, aI p1), (3, aI x3), (4, aI x4), (5, aI x5), (6, aI x6), (7, aI x7)] [] (retI Q) := by
  refine v_iload (pc := 74) dX12_meets_74 7 rfl ?_
  refine v_aload_n (pc := 76) dX12_meets_76 0 rfl ?_
  refine m_getfin (pc := 77) (v := 605) hE dX12_meets_77 flX12_13 rfl at603 rfl ?_
  refine v_bipush (pc := 80) dX12_meets_80 (by decide) ?_
  refine m_iald (pc := 82) (v := (mem 605 7)) dX12_meets_82 at605 (by omega) (by omega) rfl ?_
  refine v_icmpge (pc := 83) (tgt := 148) dX12_meets_83 (by decide) (fun c1 => ?_) (fun c1 => ?_)
  · have h := h.1 c1
    obtain ⟨o1, h⟩ := h
    refine m_iinc (pc := 148) (al2 := [(6, aI (x6 + 1)), (0, aR 603), (1, aI p0), (2, aI p1), (3, aI x3), (4, aI x4), (5, aI x5), (7, aI x7)]) dX12_meets_148 6 rfl (by decide) o1 rfl ?_
    refine v_goto (pc := 151) (tgt := 56) dX12_meets_151 (by decide) ?_
    exact VG_sub (al' := [(0, aR 603), (1, aI p0), (2, aI p1), (3, aI x3), (4, aI x4), (5, aI x5), (6, aI (x6 + 1))]) [1, 2, 3, 4, 5, 6, 0] rfl h
  · have h := h.2 c1
    refine v_aload_n (pc := 86) dX12_meets_86 0 rfl ?_
    refine v_iload (pc := 87) dX12_meets_87 6 rfl ?_
    refine v_iload (pc := 89) dX12_meets_89 7 rfl ?_
    refine m_invI (pc := 91) (mi' := mX12_areBeside) (rest := []) [aI x6, aI x7] dX12_meets_91 at603 (by decide) rfl msX12_areBeside mvX12_areBeside lkX12_499 rfl (Nat.le_of_ble_eq_true rfl) (fun hn => CI_mono (h (aaI hn 1 rfl) (aaI hn 2 rfl)) (fun r3 m2 h => ?_))
    refine v_ifeq (pc := 94) (tgt := 142) dX12_meets_94 (by decide) (fun c1 => ?_) (fun c1 => ?_)
    · have h := h.1 c1
      obtain ⟨o4, h⟩ := h
      refine m_iinc (pc := 142) (al2 := [(7, aI (x7 + 1)), (0, aR 603), (1, aI p0), (2, aI p1), (3, aI x3), (4, aI x4), (5, aI x5), (6, aI x6)]) dX12_meets_142 7 rfl (by decide) o4 rfl ?_
      refine v_goto (pc := 145) (tgt := 74) dX12_meets_145 (by decide) ?_
      exact VG_sub (al' := [(0, aR 603), (1, aI p0), (2, aI p1), (3, aI x3), (4, aI x4), (5, aI x5), (6, aI x6), (7, aI (x7 + 1))]) [1, 2, 3, 4, 5, 6, 7, 0] rfl h
    · have h := h.2 c1
      refine v_aload_n (pc := 97) dX12_meets_97 0 rfl ?_
      refine m_getfin (pc := 98) (v := 631) hE dX12_meets_98 flX12_133 rfl at603 rfl ?_
      refine v_bipush (pc := 101) dX12_meets_101 (by decide) ?_
      refine v_iload (pc := 103) dX12_meets_103 6 rfl ?_
      obtain ⟨o5, h⟩ := h
      refine m_imul (pc := 105) dX12_meets_105 o5 ?_
      refine v_iload (pc := 106) dX12_meets_106 7 rfl ?_
      obtain ⟨o6, h⟩ := h
      refine m_iadd (pc := 108) dX12_meets_108 o6 ?_
      obtain ⟨o7, h⟩ := h
      refine m_zald (pc := 109) (v := (m2 631 ((10 * x6) + x7))) dX12_meets_109 at631 o7.1 o7.2 rfl ?_
      refine v_ifne (pc := 110) (tgt := 142) dX12_meets_110 (by decide) (fun c1 => ?_) (fun c1 => ?_)
      · have h := h.1 c1
        obtain ⟨o8, h⟩ := h
        refine m_iinc (pc := 142) (al2 := [(7, aI (x7 + 1)), (0, aR 603), (1, aI p0), (2, aI p1), (3, aI x3), (4, aI x4), (5, aI x5), (6, aI x6)]) dX12_meets_142 7 rfl (by decide) o8 rfl ?_
        refine v_goto (pc := 145) (tgt := 74) dX12_meets_145 (by decide) ?_
        exact VG_sub (al' := [(0, aR 603), (1, aI p0), (2, aI p1), (3, aI x3), (4, aI x4), (5, aI x5), (6, aI x6), (7, aI (x7 + 1))]) [1, 2, 3, 4, 5, 6, 7, 0] rfl h
      · have h := h.2 c1
        refine v_iload_n (pc := 113) dX12_meets_113 3 rfl ?_
        refine v_iload_n (pc := 114) dX12_meets_114 2 rfl ?_
        refine v_icmpne (pc := 115) (tgt := 135) dX12_meets_115 (by decide) (fun c1 => ?_) (fun c1 => ?_)
        · have h := h.1 c1
          refine v_iload (pc := 135) dX12_meets_135 4 rfl ?_
          refine v_istore (pc := 137) (al2 := [(4, aI x4), (0, aR 603), (1, aI p0), (2, aI p1), (3, aI x3), (5, aI x5), (6, aI x6), (7, aI x7)]) dX12_meets_137 (by decide) rfl ?_
          obtain ⟨o9, h⟩ := h
          refine m_iinc (pc := 139) (al2 := [(3, aI (x3 + 1)), (4, aI x4), (0, aR 603), (1, aI p0), (2, aI p1), (5, aI x5), (6, aI x6), (7, aI x7)]) dX12_meets_139 4 rfl (by decide) o9 rfl ?_
          obtain ⟨o10, h⟩ := h
          refine m_iinc (pc := 142) (al2 := [(7, aI (x7 + 1)), (3, aI (x3 + 1)), (4, aI x4), (0, aR 603), (1, aI p0), (2, aI p1), (5, aI x5), (6, aI x6)]) dX12_meets_142 7 rfl (by decide) o10 rfl ?_
          refine v_goto (pc := 145) (tgt := 74) dX12_meets_145 (by decide) ?_
          exact VG_sub (al' := [(0, aR 603), (1, aI p0), (2, aI p1), (3, aI (x3 + 1)), (4, aI x4), (5, aI x5), (6, aI x6), (7, aI (x7 + 1))]) [3, 4, 5, 1, 2, 6, 7, 0] rfl h
        · have h := h.2 c1
          refine v_bipush (pc := 118) dX12_meets_118 (by decide) ?_
          refine v_iload (pc := 120) dX12_meets_120 5 rfl ?_
          obtain ⟨o11, h⟩ := h
          refine m_imul (pc := 122) dX12_meets_122 o11 ?_
          refine v_bipush (pc := 123) dX12_meets_123 (by decide) ?_
          refine v_iload (pc := 125) dX12_meets_125 6 rfl ?_
          refine m_imul (pc := 127) dX12_meets_127 o5 ?_
          obtain ⟨o12, h⟩ := h
          refine m_iadd (pc := 128) dX12_meets_128 o12 ?_
          refine v_iload (pc := 129) dX12_meets_129 7 rfl ?_
          obtain ⟨o13, h⟩ := h
          refine m_iadd (pc := 131) dX12_meets_131 o13 ?_
          refine v_goto (pc := 132) (tgt := 137) dX12_meets_132 (by decide) ?_
          refine v_istore (pc := 137) (al2 := [(4, aI (((100 * x5) + (10 * x6)) + x7)), (0, aR 603), (1, aI p0), (2, aI p1), (3, aI x3), (5, aI x5), (6, aI x6), (7, aI x7)]) dX12_meets_137 (by decide) rfl ?_
          obtain ⟨o14, h⟩ := h
          refine m_iinc (pc := 139) (al2 := [(3, aI (x3 + 1)), (4, aI (((100 * x5) + (10 * x6)) + x7)), (0, aR 603), (1, aI p0), (2, aI p1), (5, aI x5), (6, aI x6), (7, aI x7)]) dX12_meets_139 4 rfl (by decide) o14 rfl ?_
          obtain ⟨o15, h⟩ := h
          refine m_iinc (pc := 142) (al2 := [(7, aI (x7 + 1)), (3, aI (x3 + 1)), (4, aI (((100 * x5) + (10 * x6)) + x7)), (0, aR 603), (1, aI p0), (2, aI p1), (5, aI x5), (6, aI x6)]) dX12_meets_142 7 rfl (by decide) o15 rfl ?_
          refine v_goto (pc := 145) (tgt := 74) dX12_meets_145 (by decide) ?_
          exact VG_sub (al' := [(0, aR 603), (1, aI p0), (2, aI p1), (3, aI (x3 + 1)), (4, aI (((100 * x5) + (10 * x6)) + x7)), (5, aI x5), (6, aI x6), (7, aI (x7 + 1))]) [3, 4, 5, 1, 2, 6, 7, 0] rfl h

theorem dX12_meet_0 : decode cX12_meet 0 = .ok (.aload_n 0, 1) := by decide +kernel
theorem dX12_meet_1 : decode cX12_meet 1 = .ok (.iconst 0, 1) := by decide +kernel
theorem dX12_meet_2 : decode cX12_meet 2 = .ok (.putfield 162, 3) := by decide +kernel
theorem dX12_meet_5 : decode cX12_meet 5 = .ok (.aload_n 0, 1) := by decide +kernel
theorem dX12_meet_6 : decode cX12_meet 6 = .ok (.iload_n 1, 1) := by decide +kernel
theorem dX12_meet_7 : decode cX12_meet 7 = .ok (.invokevirtual 214, 3) := by decide +kernel
theorem dX12_meet_10 : decode cX12_meet 10 = .ok (.ifCond .eq 50, 3) := by decide +kernel
theorem dX12_meet_13 : decode cX12_meet 13 = .ok (.iload_n 2, 1) := by decide +kernel
theorem dX12_meet_14 : decode cX12_meet 14 = .ok (.i2l, 1) := by decide +kernel
theorem dX12_meet_15 : decode cX12_meet 15 = .ok (.lconst 0, 1) := by decide +kernel
theorem dX12_meet_16 : decode cX12_meet 16 = .ok (.ldc2_w 436, 3) := by decide +kernel
theorem dX12_meet_19 : decode cX12_meet 19 = .ok (.invokestatic 182, 3) := by decide +kernel
theorem dX12_meet_22 : decode cX12_meet 22 = .ok (.ifCond .eq 38, 3) := by decide +kernel
theorem dX12_meet_25 : decode cX12_meet 25 = .ok (.iload_n 3, 1) := by decide +kernel
theorem dX12_meet_26 : decode cX12_meet 26 = .ok (.i2l, 1) := by decide +kernel
theorem dX12_meet_27 : decode cX12_meet 27 = .ok (.lconst 0, 1) := by decide +kernel
theorem dX12_meet_28 : decode cX12_meet 28 = .ok (.ldc2_w 490, 3) := by decide +kernel
theorem dX12_meet_31 : decode cX12_meet 31 = .ok (.invokestatic 182, 3) := by decide +kernel
theorem dX12_meet_34 : decode cX12_meet 34 = .ok (.ifCond .eq 26, 3) := by decide +kernel
theorem dX12_meet_37 : decode cX12_meet 37 = .ok (.iload 4, 2) := by decide +kernel
theorem dX12_meet_39 : decode cX12_meet 39 = .ok (.i2l, 1) := by decide +kernel
theorem dX12_meet_40 : decode cX12_meet 40 = .ok (.lconst 0, 1) := by decide +kernel
theorem dX12_meet_41 : decode cX12_meet 41 = .ok (.lconst 1, 1) := by decide +kernel
theorem dX12_meet_42 : decode cX12_meet 42 = .ok (.invokestatic 182, 3) := by decide +kernel
theorem dX12_meet_45 : decode cX12_meet 45 = .ok (.ifCond .eq 15, 3) := by decide +kernel
theorem dX12_meet_48 : decode cX12_meet 48 = .ok (.aload_n 0, 1) := by decide +kernel
theorem dX12_meet_49 : decode cX12_meet 49 = .ok (.getfield 13, 3) := by decide +kernel
theorem dX12_meet_52 : decode cX12_meet 52 = .ok (.bipush 7, 2) := by decide +kernel
theorem dX12_meet_54 : decode cX12_meet 54 = .ok (.iaload, 1) := by decide +kernel
theorem dX12_meet_55 : decode cX12_meet 55 = .ok (.bipush 10, 2) := by decide +kernel
theorem dX12_meet_57 : decode cX12_meet 57 = .ok (.if_icmp .ne 5, 3) := by decide +kernel
theorem dX12_meet_60 : decode cX12_meet 60 = .ok (.iconst (-1), 1) := by decide +kernel
theorem dX12_meet_61 : decode cX12_meet 61 = .ok (.ireturn, 1) := by decide +kernel
theorem dX12_meet_62 : decode cX12_meet 62 = .ok (.ldc_w 484, 3) := by decide +kernel
theorem dX12_meet_65 : decode cX12_meet 65 = .ok (.istore 5, 2) := by decide +kernel
theorem dX12_meet_67 : decode cX12_meet 67 = .ok (.iconst (-1), 1) := by decide +kernel
theorem dX12_meet_68 : decode cX12_meet 68 = .ok (.istore 6, 2) := by decide +kernel
theorem dX12_meet_70 : decode cX12_meet 70 = .ok (.iconst 0, 1) := by decide +kernel
theorem dX12_meet_71 : decode cX12_meet 71 = .ok (.istore 7, 2) := by decide +kernel
theorem dX12_meet_73 : decode cX12_meet 73 = .ok (.iload 7, 2) := by decide +kernel
theorem dX12_meet_75 : decode cX12_meet 75 = .ok (.bipush 32, 2) := by decide +kernel
theorem dX12_meet_77 : decode cX12_meet 77 = .ok (.if_icmp .ge 120, 3) := by decide +kernel
theorem dX12_meet_80 : decode cX12_meet 80 = .ok (.aload_n 0, 1) := by decide +kernel
theorem dX12_meet_81 : decode cX12_meet 81 = .ok (.iload_n 2, 1) := by decide +kernel
theorem dX12_meet_82 : decode cX12_meet 82 = .ok (.iload 7, 2) := by decide +kernel
theorem dX12_meet_84 : decode cX12_meet 84 = .ok (.invokevirtual 441, 3) := by decide +kernel
theorem dX12_meet_87 : decode cX12_meet 87 = .ok (.ifCond .eq 104, 3) := by decide +kernel
theorem dX12_meet_90 : decode cX12_meet 90 = .ok (.aload_n 0, 1) := by decide +kernel
theorem dX12_meet_91 : decode cX12_meet 91 = .ok (.bipush 16, 2) := by decide +kernel
theorem dX12_meet_93 : decode cX12_meet 93 = .ok (.invokevirtual 171, 3) := by decide +kernel
theorem dX12_meet_96 : decode cX12_meet 96 = .ok (.aload_n 0, 1) := by decide +kernel
theorem dX12_meet_97 : decode cX12_meet 97 = .ok (.iload_n 2, 1) := by decide +kernel
theorem dX12_meet_98 : decode cX12_meet 98 = .ok (.iload 7, 2) := by decide +kernel
theorem dX12_meet_100 : decode cX12_meet 100 = .ok (.iconst 0, 1) := by decide +kernel
theorem dX12_meet_101 : decode cX12_meet 101 = .ok (.invokevirtual 447, 3) := by decide +kernel
theorem dX12_meet_104 : decode cX12_meet 104 = .ok (.iconst 0, 1) := by decide +kernel
theorem dX12_meet_105 : decode cX12_meet 105 = .ok (.istore 8, 2) := by decide +kernel
theorem dX12_meet_107 : decode cX12_meet 107 = .ok (.iload 8, 2) := by decide +kernel
theorem dX12_meet_109 : decode cX12_meet 109 = .ok (.iload_n 3, 1) := by decide +kernel
theorem dX12_meet_110 : decode cX12_meet 110 = .ok (.if_icmp .gt 31, 3) := by decide +kernel
theorem dX12_meet_113 : decode cX12_meet 113 = .ok (.aload_n 0, 1) := by decide +kernel
theorem dX12_meet_114 : decode cX12_meet 114 = .ok (.iload_n 1, 1) := by decide +kernel
theorem dX12_meet_115 : decode cX12_meet 115 = .ok (.aload_n 0, 1) := by decide +kernel
theorem dX12_meet_116 : decode cX12_meet 116 = .ok (.getfield 13, 3) := by decide +kernel
theorem dX12_meet_119 : decode cX12_meet 119 = .ok (.bipush 7, 2) := by decide +kernel
theorem dX12_meet_121 : decode cX12_meet 121 = .ok (.iaload, 1) := by decide +kernel
theorem dX12_meet_122 : decode cX12_meet 122 = .ok (.iconst 1, 1) := by decide +kernel
theorem dX12_meet_123 : decode cX12_meet 123 = .ok (.isub, 1) := by decide +kernel
theorem dX12_meet_124 : decode cX12_meet 124 = .ok (.invokevirtual 499, 3) := by decide +kernel
theorem dX12_meet_127 : decode cX12_meet 127 = .ok (.ifCond .ne 14, 3) := by decide +kernel
theorem dX12_meet_130 : decode cX12_meet 130 = .ok (.aload_n 0, 1) := by decide +kernel
theorem dX12_meet_131 : decode cX12_meet 131 = .ok (.invokevirtual 470, 3) := by decide +kernel
theorem dX12_meet_134 : decode cX12_meet 134 = .ok (.pop, 1) := by decide +kernel
theorem dX12_meet_135 : decode cX12_meet 135 = .ok (.iinc 8 1, 3) := by decide +kernel
theorem dX12_meet_138 : decode cX12_meet 138 = .ok (.goto (-31), 3) := by decide +kernel
theorem dX12_meet_141 : decode cX12_meet 141 = .ok (.aload_n 0, 1) := by decide +kernel
theorem dX12_meet_142 : decode cX12_meet 142 = .ok (.bipush 16, 2) := by decide +kernel
theorem dX12_meet_144 : decode cX12_meet 144 = .ok (.invokevirtual 179, 3) := by decide +kernel
theorem dX12_meet_147 : decode cX12_meet 147 = .ok (.iload 8, 2) := by decide +kernel
theorem dX12_meet_149 : decode cX12_meet 149 = .ok (.iload_n 3, 1) := by decide +kernel
theorem dX12_meet_150 : decode cX12_meet 150 = .ok (.if_icmp .gt 15, 3) := by decide +kernel
theorem dX12_meet_153 : decode cX12_meet 153 = .ok (.iload 8, 2) := by decide +kernel
theorem dX12_meet_155 : decode cX12_meet 155 = .ok (.iload 5, 2) := by decide +kernel
theorem dX12_meet_157 : decode cX12_meet 157 = .ok (.if_icmp .ge 8, 3) := by decide +kernel
theorem dX12_meet_160 : decode cX12_meet 160 = .ok (.iload 7, 2) := by decide +kernel
theorem dX12_meet_162 : decode cX12_meet 162 = .ok (.goto 5, 3) := by decide +kernel
theorem dX12_meet_165 : decode cX12_meet 165 = .ok (.iload 6, 2) := by decide +kernel
theorem dX12_meet_167 : decode cX12_meet 167 = .ok (.istore 6, 2) := by decide +kernel
theorem dX12_meet_169 : decode cX12_meet 169 = .ok (.iload 8, 2) := by decide +kernel
theorem dX12_meet_171 : decode cX12_meet 171 = .ok (.iload_n 3, 1) := by decide +kernel
theorem dX12_meet_172 : decode cX12_meet 172 = .ok (.if_icmp .gt 15, 3) := by decide +kernel
theorem dX12_meet_175 : decode cX12_meet 175 = .ok (.iload 8, 2) := by decide +kernel
theorem dX12_meet_177 : decode cX12_meet 177 = .ok (.iload 5, 2) := by decide +kernel
theorem dX12_meet_179 : decode cX12_meet 179 = .ok (.if_icmp .ge 8, 3) := by decide +kernel
theorem dX12_meet_182 : decode cX12_meet 182 = .ok (.iload 8, 2) := by decide +kernel
theorem dX12_meet_184 : decode cX12_meet 184 = .ok (.goto 5, 3) := by decide +kernel
theorem dX12_meet_187 : decode cX12_meet 187 = .ok (.iload 5, 2) := by decide +kernel
theorem dX12_meet_189 : decode cX12_meet 189 = .ok (.istore 5, 2) := by decide +kernel
theorem dX12_meet_191 : decode cX12_meet 191 = .ok (.iinc 7 1, 3) := by decide +kernel
theorem dX12_meet_194 : decode cX12_meet 194 = .ok (.goto (-121), 3) := by decide +kernel
theorem dX12_meet_197 : decode cX12_meet 197 = .ok (.iload 6, 2) := by decide +kernel
theorem dX12_meet_199 : decode cX12_meet 199 = .ok (.iconst (-1), 1) := by decide +kernel
theorem dX12_meet_200 : decode cX12_meet 200 = .ok (.if_icmp .eq 8, 3) := by decide +kernel
theorem dX12_meet_203 : decode cX12_meet 203 = .ok (.iload 4, 2) := by decide +kernel
theorem dX12_meet_205 : decode cX12_meet 205 = .ok (.ifCond .ne 8, 3) := by decide +kernel
theorem dX12_meet_208 : decode cX12_meet 208 = .ok (.iload 6, 2) := by decide +kernel
theorem dX12_meet_210 : decode cX12_meet 210 = .ok (.goto 5, 3) := by decide +kernel
theorem dX12_meet_213 : decode cX12_meet 213 = .ok (.iload 5, 2) := by decide +kernel
theorem dX12_meet_215 : decode cX12_meet 215 = .ok (.ireturn, 1) := by decide +kernel
set_option maxRecDepth 20000 in
theorem rX12_meet_0 {E : EN} (hE : Ep E) {k : Nat} {mem : Mm} {Q : Int → Mm → Prop} {p0 p1 p2 p3 : Int}
    (h : (R32 p0 → CI E mX12_isPlot k (aUp mem 603 0 0) [aR 603, aI p0] (fun r2 m1 => ((r2 = 0 → VM E mX12_meet (k + 1) m1 60 [] [] (retI Q)) ∧ (¬ r2 = 0 → (R64 p1 → CI E mX12_in k m1 [aL p1, aL 0, aL 5] (fun r4 m3 => ((r4 = 0 → VM E mX12_meet (k + 1) m3 60 [] [] (retI Q)) ∧ (¬ r4 = 0 → (R64 p2 → CI E mX12_in k m3 [aL p2, aL 0, aL 60] (fun r6 m5 => ((r6 = 0 → VM E mX12_meet (k + 1) m5 60 [] [] (retI Q)) ∧ (¬ r6 = 0 → (R64 p3 → CI E mX12_in k m5 [aL p3, aL 0, aL 1] (fun r8 m7 => ((r8 = 0 → VM E mX12_meet (k + 1) m7 60 [] [] (retI Q)) ∧ (¬ r8 = 0 → ((¬ (m7 605 7) = 10 → VM E mX12_meet (k + 1) m7 73 [(0, aR 603), (1, aI p0), (2, aI p1), (3, aI p2), (4, aI p3), (5, aI 100000000), (6, aI (-1)), (7, aI 0)] [] (retI Q)) ∧ ((m7 605 7) = 10 → VM E mX12_meet (k + 1) m7 60 [] [] (retI Q)))))))))))))))))))) :
    VM E mX12_meet (k + 1) mem 0 [(0, aR 603), (1, aI p0), (2, aI p1), (3, aI p2), (4, aI p3)] [] (retI Q) := by
  refine v_aload_n (pc := 0) dX12_meet_0 0 rfl ?_
  refine v_iconst (pc := 1) dX12_meet_1 (by decide) ?_
  refine v_putf (pc := 2) dX12_meet_2 flX12_162 ⟨_, _, rfl, Or.inl rfl⟩ rfl (by decide) (fun q => nomatch q) (Or.inl fun _ => rfl) at603 ?_
  refine v_aload_n (pc := 5) dX12_meet_5 0 rfl ?_
  refine v_iload_n (pc := 6) dX12_meet_6 1 rfl ?_
  refine m_invI (pc := 7) (mi' := mX12_isPlot) (rest := []) [aI p0] dX12_meet_7 at603 (by decide) rfl msX12_isPlot mvX12_isPlot lkX12_214 rfl (Nat.le_of_ble_eq_true rfl) (fun hn => CI_mono (h (aaI hn 1 rfl)) (fun r2 m1 h => ?_))
  refine v_ifeq (pc := 10) (tgt := 60) dX12_meet_10 (by decide) (fun c1 => ?_) (fun c1 => ?_)
  · have h := h.1 c1
    exact VG_sub (al' := []) [] rfl h
  · have h := h.2 c1
    refine v_iload_n (pc := 13) dX12_meet_13 2 rfl ?_
    refine v_i2l (pc := 14) dX12_meet_14 ?_
    refine v_lconst0 (pc := 15) dX12_meet_15 ?_
    refine v_ldc2 (pc := 16) (n := 5) dX12_meet_16 cnX12_436 (by decide) ?_
    refine m_invSI (pc := 19) (mi' := mX12_in) (rest := []) [aL p1, aL 0, aL 5] dX12_meet_19 msX12_in stX12_in lkX12_182 rfl (Nat.le_of_ble_eq_true rfl) (fun hn => CI_mono (h (aaL hn 0 rfl)) (fun r4 m3 h => ?_))
    refine v_ifeq (pc := 22) (tgt := 60) dX12_meet_22 (by decide) (fun c1 => ?_) (fun c1 => ?_)
    · have h := h.1 c1
      exact VG_sub (al' := []) [] rfl h
    · have h := h.2 c1
      refine v_iload_n (pc := 25) dX12_meet_25 3 rfl ?_
      refine v_i2l (pc := 26) dX12_meet_26 ?_
      refine v_lconst0 (pc := 27) dX12_meet_27 ?_
      refine v_ldc2 (pc := 28) (n := 60) dX12_meet_28 cnX12_490 (by decide) ?_
      refine m_invSI (pc := 31) (mi' := mX12_in) (rest := []) [aL p2, aL 0, aL 60] dX12_meet_31 msX12_in stX12_in lkX12_182 rfl (Nat.le_of_ble_eq_true rfl) (fun hn => CI_mono (h (aaL hn 0 rfl)) (fun r6 m5 h => ?_))
      refine v_ifeq (pc := 34) (tgt := 60) dX12_meet_34 (by decide) (fun c1 => ?_) (fun c1 => ?_)
      · have h := h.1 c1
        exact VG_sub (al' := []) [] rfl h
      · have h := h.2 c1
        refine v_iload (pc := 37) dX12_meet_37 4 rfl ?_
        refine v_i2l (pc := 39) dX12_meet_39 ?_
        refine v_lconst0 (pc := 40) dX12_meet_40 ?_
        refine v_lconst1 (pc := 41) dX12_meet_41 ?_
        refine m_invSI (pc := 42) (mi' := mX12_in) (rest := []) [aL p3, aL 0, aL 1] dX12_meet_42 msX12_in stX12_in lkX12_182 rfl (Nat.le_of_ble_eq_true rfl) (fun hn => CI_mono (h (aaL hn 0 rfl)) (fun r8 m7 h => ?_))
        refine v_ifeq (pc := 45) (tgt := 60) dX12_meet_45 (by decide) (fun c1 => ?_) (fun c1 => ?_)
        · have h := h.1 c1
          exact VG_sub (al' := []) [] rfl h
        · have h := h.2 c1
          refine v_aload_n (pc := 48) dX12_meet_48 0 rfl ?_
          refine m_getfin (pc := 49) (v := 605) hE dX12_meet_49 flX12_13 rfl at603 rfl ?_
          refine v_bipush (pc := 52) dX12_meet_52 (by decide) ?_
          refine m_iald (pc := 54) (v := (m7 605 7)) dX12_meet_54 at605 (by omega) (by omega) rfl ?_
          refine v_bipush (pc := 55) dX12_meet_55 (by decide) ?_
          refine v_icmpne (pc := 57) (tgt := 62) dX12_meet_57 (by decide) (fun c1 => ?_) (fun c1 => ?_)
          · have h := h.1 c1
            refine v_ldcw (pc := 62) (n := 100000000) dX12_meet_62 cnX12_484 (by decide) ?_
            refine v_istore (pc := 65) (al2 := [(5, aI 100000000), (0, aR 603), (1, aI p0), (2, aI p1), (3, aI p2), (4, aI p3)]) dX12_meet_65 (by decide) rfl ?_
            refine v_iconst (pc := 67) dX12_meet_67 (by decide) ?_
            refine v_istore (pc := 68) (al2 := [(6, aI (-1)), (5, aI 100000000), (0, aR 603), (1, aI p0), (2, aI p1), (3, aI p2), (4, aI p3)]) dX12_meet_68 (by decide) rfl ?_
            refine v_iconst (pc := 70) dX12_meet_70 (by decide) ?_
            refine v_istore (pc := 71) (al2 := [(7, aI 0), (6, aI (-1)), (5, aI 100000000), (0, aR 603), (1, aI p0), (2, aI p1), (3, aI p2), (4, aI p3)]) dX12_meet_71 (by decide) rfl ?_
            exact VG_sub (al' := [(0, aR 603), (1, aI p0), (2, aI p1), (3, aI p2), (4, aI p3), (5, aI 100000000), (6, aI (-1)), (7, aI 0)]) [3, 4, 5, 6, 7, 2, 1, 0] rfl h
          · have h := h.2 c1
            exact VG_sub (al' := []) [] rfl h
theorem eX12_meet {E : EN} {k : Nat} {mem : Mm} {Q : Int → Mm → Prop} {p0 p1 p2 p3 : Int} (hr_p0 : R32 p0) (hr_p1 : R32 p1) (hr_p2 : R32 p2) (hr_p3 : R32 p3) (h : VM E mX12_meet (k + 1) mem 0 [(0, aR 603), (1, aI p0), (2, aI p1), (3, aI p2), (4, aI p3)] [] (retI Q)) : CI E mX12_meet (k + 1) mem [aR 603, aI p0, aI p1, aI p2, aI p3] Q := CI_of rfl (Nat.le_of_ble_eq_true rfl) h (aNs_c (aNr_R _) (aNs_c (aNr_I hr_p0) (aNs_c (aNr_I hr_p1) (aNs_c (aNr_I hr_p2) (aNs_c (aNr_I hr_p3) (fun _ q => nomatch q))))))
set_option maxRecDepth 20000 in
theorem rX12_meet_60 {E : EN} (hE : Ep E) {k : Nat} {mem : Mm} {Q : Int → Mm → Prop} {p0 p1 p2 p3 : Int}
    (h : Q (-1) mem) :
    VM E mX12_meet (k + 1) mem 60 [] [] (retI Q) := by
  refine v_iconst (pc := 60) dX12_meet_60 (by decide) ?_
  exact m_retI (pc := 61) dX12_meet_61 rfl h
set_option maxRecDepth 20000 in
theorem rX12_meet_73 {E : EN} (hE : Ep E) {k : Nat} {mem : Mm} {Q : Int → Mm → Prop} {p0 p1 p2 p3 x5 x6 x7 : Int}
    (h : ((32 ≤ x7 → ((x6 = (-1) → VM E mX12_meet (k + 1) mem 208 [(6, aI x6)] [] (retI Q)) ∧ (¬ x6 = (-1) → ((¬ p3 = 0 → Q x5 mem) ∧ (p3 = 0 → VM E mX12_meet (k + 1) mem 208 [(6, aI x6)] [] (retI Q)))))) ∧ (x7 < 32 → (R32 p1 → R32 x7 → CI E mX12_canLie k mem [aR 603, aI p1, aI x7] (fun r2 m1 => ((r2 = 0 → VM E mX12_meet (k + 1) m1 191 [(0, aR 603), (1, aI p0), (2, aI p1), (3, aI p2), (4, aI p3), (5, aI x5), (6, aI x6), (7, aI x7)] [] (retI Q)) ∧ (¬ r2 = 0 → (CV E mX12_keepAll k m1 [aR 603, aI 16] (fun m3 => (R32 p1 → R32 x7 → CV E mX12_lay k m3 [aR 603, aI p1, aI x7, aI 0] (fun m4 => VM E mX12_meet (k + 1) m4 107 [(0, aR 603), (1, aI p0), (2, aI p1), (3, aI p2), (4, aI p3), (5, aI x5), (6, aI x6), (7, aI x7), (8, aI 0)] [] (retI Q)))))))))))) :
    VM E mX12_meet (k + 1) mem 73 [(0, aR 603), (1, aI p0), (2, aI p1), (3, aI p2), (4, aI p3), (5, aI x5), (6, aI x6), (7, aI x7)] [] (retI Q) := by
  refine v_iload (pc := 73) dX12_meet_73 7 rfl ?_
  refine v_bipush (pc := 75) dX12_meet_75 (by decide) ?_
  refine v_icmpge (pc := 77) (tgt := 197) dX12_meet_77 (by decide) (fun c1 => ?_) (fun c1 => ?_)
  · have h := h.1 c1
    refine v_iload (pc := 197) dX12_meet_197 6 rfl ?_
    refine v_iconst (pc := 199) dX12_meet_199 (by decide) ?_
    refine v_icmpeq (pc := 200) (tgt := 208) dX12_meet_200 (by decide) (fun c1 => ?_) (fun c1 => ?_)
    · have h := h.1 c1
      exact VG_sub (al' := [(6, aI x6)]) [6] rfl h
    · have h := h.2 c1
      refine v_iload (pc := 203) dX12_meet_203 4 rfl ?_
      refine v_ifne (pc := 205) (tgt := 213) dX12_meet_205 (by decide) (fun c1 => ?_) (fun c1 => ?_)
      · have h := h.1 c1
        refine v_iload (pc := 213) dX12_meet_213 5 rfl ?_
        exact m_retI (pc := 215) dX12_meet_215 rfl h
      · have h := h.2 c1
        exact VG_sub (al' := [(6, aI x6)]) [6] rfl h
  · have h := h.2 c1
    refine v_aload_n (pc := 80) dX12_meet_80 0 rfl ?_
    refine v_iload_n (pc := 81) dX12_meet_81 2 rfl ?_
    refine v_iload (pc := 82) dX12_meet_82 7 rfl ?_
    refine m_invI (pc := 84) (mi' := mX12_canLie) (rest := []) [aI p1, aI x7] dX12_meet_84 at603 (by decide) rfl msX12_canLie mvX12_canLie lkX12_441 rfl (Nat.le_of_ble_eq_true rfl) (fun hn => CI_mono (h (aaI hn 1 rfl) (aaI hn 2 rfl)) (fun r2 m1 h => ?_))
    refine v_ifeq (pc := 87) (tgt := 191) dX12_meet_87 (by decide) (fun c1 => ?_) (fun c1 => ?_)
    · have h := h.1 c1
      exact VG_sub (al' := [(0, aR 603), (1, aI p0), (2, aI p1), (3, aI p2), (4, aI p3), (5, aI x5), (6, aI x6), (7, aI x7)]) [0, 1, 2, 3, 4, 5, 6, 7] rfl h
    · have h := h.2 c1
      refine v_aload_n (pc := 90) dX12_meet_90 0 rfl ?_
      refine v_bipush (pc := 91) dX12_meet_91 (by decide) ?_
      refine m_invV (pc := 93) (mi' := mX12_keepAll) (rest := []) [aI 16] dX12_meet_93 at603 (by decide) rfl msX12_keepAll mvX12_keepAll lkX12_171 rfl (Nat.le_of_ble_eq_true rfl) (fun hn => CV_mono (h) (fun m3 h => ?_))
      refine v_aload_n (pc := 96) dX12_meet_96 0 rfl ?_
      refine v_iload_n (pc := 97) dX12_meet_97 2 rfl ?_
      refine v_iload (pc := 98) dX12_meet_98 7 rfl ?_
      refine v_iconst (pc := 100) dX12_meet_100 (by decide) ?_
      refine m_invV (pc := 101) (mi' := mX12_lay) (rest := []) [aI p1, aI x7, aI 0] dX12_meet_101 at603 (by decide) rfl msX12_lay mvX12_lay lkX12_447 rfl (Nat.le_of_ble_eq_true rfl) (fun hn => CV_mono (h (aaI hn 1 rfl) (aaI hn 2 rfl)) (fun m4 h => ?_))
      refine v_iconst (pc := 104) dX12_meet_104 (by decide) ?_
      refine v_istore (pc := 105) (al2 := [(8, aI 0), (0, aR 603), (1, aI p0), (2, aI p1), (3, aI p2), (4, aI p3), (5, aI x5), (6, aI x6), (7, aI x7)]) dX12_meet_105 (by decide) rfl ?_
      exact VG_sub (al' := [(0, aR 603), (1, aI p0), (2, aI p1), (3, aI p2), (4, aI p3), (5, aI x5), (6, aI x6), (7, aI x7), (8, aI 0)]) [1, 2, 3, 4, 5, 6, 7, 8, 0] rfl h
set_option maxRecDepth 20000 in
theorem rX12_meet_208 {E : EN} (hE : Ep E) {k : Nat} {mem : Mm} {Q : Int → Mm → Prop} {p0 p1 p2 p3 x6 : Int}
    (h : Q x6 mem) :
    VM E mX12_meet (k + 1) mem 208 [(6, aI x6)] [] (retI Q) := by
  refine v_iload (pc := 208) dX12_meet_208 0 rfl ?_
  refine v_goto (pc := 210) (tgt := 215) dX12_meet_210 (by decide) ?_
  exact m_retI (pc := 215) dX12_meet_215 rfl h
set_option maxRecDepth 20000 in
theorem rX12_meet_191 {E : EN} (hE : Ep E) {k : Nat} {mem : Mm} {Q : Int → Mm → Prop} {p0 p1 p2 p3 x5 x6 x7 : Int}
    (h : (R32 (x7 + 1)) ∧ VM E mX12_meet (k + 1) mem 73 [(0, aR 603), (1, aI p0), (2, aI p1), (3, aI p2), (4, aI p3), (5, aI x5), (6, aI x6), (7, aI (x7 + 1))] [] (retI Q)) :
    VM E mX12_meet (k + 1) mem 191 [(0, aR 603), (1, aI p0), (2, aI p1), (3, aI p2), (4, aI p3), (5, aI x5), (6, aI x6), (7, aI x7)] [] (retI Q) := by
  obtain ⟨o1, h⟩ := h
  refine m_iinc (pc := 191) (al2 := [(7, aI (x7 + 1)), (0, aR 603), (1, aI p0), (2, aI p1), (3, aI p2), (4, aI p3), (5, aI x5), (6, aI x6)]) dX12_meet_191 7 rfl (by decide) o1 rfl ?_
  refine v_goto (pc := 194) (tgt := 73) dX12_meet_194 (by decide) ?_
  exact VG_sub (al' := [(0, aR 603), (1, aI p0), (2, aI p1), (3, aI p2), (4, aI p3), (5, aI x5), (6, aI x6), (7, aI (x7 + 1))]) [1, 2, 3, 4, 5, 6, 7, 0] rfl h
set_option maxRecDepth 20000 in
theorem rX12_meet_107 {E : EN} (hE : Ep E) {k : Nat} {mem : Mm} {Q : Int → Mm → Prop} {p0 p1 p2 p3 x5 x6 x7 x8 : Int}
    (h : ((p2 < x8 → VM E mX12_meet (k + 1) mem 141 [(0, aR 603), (1, aI p0), (2, aI p1), (3, aI p2), (4, aI p3), (5, aI x5), (6, aI x6), (7, aI x7), (8, aI x8)] [] (retI Q)) ∧ (x8 ≤ p2 → (R32 ((mem 605 7) - 1)) ∧ (R32 p0 → R32 ((mem 605 7) - 1) → CI E mX12_areBeside k mem [aR 603, aI p0, aI ((mem 605 7) - 1)] (fun r3 m2 => ((¬ r3 = 0 → VM E mX12_meet (k + 1) m2 141 [(0, aR 603), (1, aI p0), (2, aI p1), (3, aI p2), (4, aI p3), (5, aI x5), (6, aI x6), (7, aI x7), (8, aI x8)] [] (retI Q)) ∧ (r3 = 0 → (CI E mX12_passIt k m2 [aR 603] (fun r5 m4 => (R32 (x8 + 1)) ∧ VM E mX12_meet (k + 1) m4 107 [(0, aR 603), (1, aI p0), (2, aI p1), (3, aI p2), (4, aI p3), (5, aI x5), (6, aI x6), (7, aI x7), (8, aI (x8 + 1))] [] (retI Q)))))))))) :
    VM E mX12_meet (k + 1) mem 107 [(0, aR 603), (1, aI p0), (2, aI p1), (3, aI p2), (4, aI p3), (5, aI x5), (6, aI x6), (7, aI x7), (8, aI x8)] [] (retI Q) := by
  refine v_iload (pc := 107) dX12_meet_107 8 rfl ?_
  refine v_iload_n (pc := 109) dX12_meet_109 3 rfl ?_
  refine v_icmpgt (pc := 110) (tgt := 141) dX12_meet_110 (by decide) (fun c1 => ?_) (fun c1 => ?_)
  · have h := h.1 c1
    exact VG_sub (al' := [(0, aR 603), (1, aI p0), (2, aI p1), (3, aI p2), (4, aI p3), (5, aI x5), (6, aI x6), (7, aI x7), (8, aI x8)]) [0, 1, 2, 3, 4, 5, 6, 7, 8] rfl h
  · have h := h.2 c1
    refine v_aload_n (pc := 113) dX12_meet_113 0 rfl ?_
    refine v_iload_n (pc := 114) dX12_meet_114 1 rfl ?_
    refine v_aload_n (pc := 115) dX12_meet_115 0 rfl ?_
    refine m_getfin (pc := 116) (v := 605) hE dX12_meet_116 flX12_13 rfl at603 rfl ?_
    refine v_bipush (pc := 119) dX12_meet_119 (by decide) ?_
    refine m_iald (pc := 121) (v := (mem 605 7)) dX12_meet_121 at605 (by omega) (by omega) rfl ?_
    refine v_iconst (pc := 122) dX12_meet_122 (by decide) ?_
    obtain ⟨o1, h⟩ := h
    refine m_isub (pc := 123) dX12_meet_123 o1 ?_
    refine m_invI (pc := 124) (mi' := mX12_areBeside) (rest := []) [aI p0, aI ((mem 605 7) - 1)] dX12_meet_124 at603 (by decide) rfl msX12_areBeside mvX12_areBeside lkX12_499 rfl (Nat.le_of_ble_eq_true rfl) (fun hn => CI_mono (h (aaI hn 1 rfl) (aaI hn 2 rfl)) (fun r3 m2 h => ?_))
    refine v_ifne (pc := 127) (tgt := 141) dX12_meet_127 (by decide) (fun c1 => ?_) (fun c1 => ?_)
    · have h := h.1 c1
      exact VG_sub (al' := [(0, aR 603), (1, aI p0), (2, aI p1), (3, aI p2), (4, aI p3), (5, aI x5), (6, aI x6), (7, aI x7), (8, aI x8)]) [0, 1, 2, 3, 4, 5, 6, 7, 8] rfl h
    · have h := h.2 c1
      refine v_aload_n (pc := 130) dX12_meet_130 0 rfl ?_
      refine m_invI (pc := 131) (mi' := mX12_passIt) (rest := []) [] dX12_meet_131 at603 (by decide) rfl msX12_passIt mvX12_passIt lkX12_470 rfl (Nat.le_of_ble_eq_true rfl) (fun hn => CI_mono (h) (fun r5 m4 h => ?_))
      refine v_pop (pc := 134) dX12_meet_134 rfl ?_
      obtain ⟨o6, h⟩ := h
      refine m_iinc (pc := 135) (al2 := [(8, aI (x8 + 1)), (0, aR 603), (1, aI p0), (2, aI p1), (3, aI p2), (4, aI p3), (5, aI x5), (6, aI x6), (7, aI x7)]) dX12_meet_135 8 rfl (by decide) o6 rfl ?_
      refine v_goto (pc := 138) (tgt := 107) dX12_meet_138 (by decide) ?_
      exact VG_sub (al' := [(0, aR 603), (1, aI p0), (2, aI p1), (3, aI p2), (4, aI p3), (5, aI x5), (6, aI x6), (7, aI x7), (8, aI (x8 + 1))]) [1, 2, 3, 4, 5, 6, 7, 8, 0] rfl h
set_option maxRecDepth 20000 in
theorem rX12_meet_141 {E : EN} (hE : Ep E) {k : Nat} {mem : Mm} {Q : Int → Mm → Prop} {p0 p1 p2 p3 x5 x6 x7 x8 : Int}
    (h : (CV E mX12_putBack k mem [aR 603, aI 16] (fun m1 => ((p2 < x8 → VM E mX12_meet (k + 1) m1 165 [(0, aR 603), (1, aI p0), (2, aI p1), (3, aI p2), (4, aI p3), (5, aI x5), (6, aI x6), (7, aI x7), (8, aI x8)] [] (retI Q)) ∧ (x8 ≤ p2 → ((x5 ≤ x8 → VM E mX12_meet (k + 1) m1 165 [(0, aR 603), (1, aI p0), (2, aI p1), (3, aI p2), (4, aI p3), (5, aI x5), (6, aI x6), (7, aI x7), (8, aI x8)] [] (retI Q)) ∧ (x8 < x5 → ((p2 < x8 → VM E mX12_meet (k + 1) m1 187 [(0, aR 603), (1, aI p0), (2, aI p1), (3, aI p2), (4, aI p3), (5, aI x5), (6, aI x7), (7, aI x7)] [] (retI Q)) ∧ (x8 ≤ p2 → ((x5 ≤ x8 → VM E mX12_meet (k + 1) m1 187 [(0, aR 603), (1, aI p0), (2, aI p1), (3, aI p2), (4, aI p3), (5, aI x5), (6, aI x7), (7, aI x7)] [] (retI Q)) ∧ (x8 < x5 → VM E mX12_meet (k + 1) m1 191 [(0, aR 603), (1, aI p0), (2, aI p1), (3, aI p2), (4, aI p3), (5, aI x8), (6, aI x7), (7, aI x7)] [] (retI Q)))))))))))) :
    VM E mX12_meet (k + 1) mem 141 [(0, aR 603), (1, aI p0), (2, aI p1), (3, aI p2), (4, aI p3), (5, aI x5), (6, aI x6), (7, aI x7), (8, aI x8)] [] (retI Q) := by
  refine v_aload_n (pc := 141) dX12_meet_141 0 rfl ?_
  refine v_bipush (pc := 142) dX12_meet_142 (by decide) ?_
  refine m_invV (pc := 144) (mi' := mX12_putBack) (rest := []) [aI 16] dX12_meet_144 at603 (by decide) rfl msX12_putBack mvX12_putBack lkX12_179 rfl (Nat.le_of_ble_eq_true rfl) (fun hn => CV_mono (h) (fun m1 h => ?_))
  refine v_iload (pc := 147) dX12_meet_147 8 rfl ?_
  refine v_iload_n (pc := 149) dX12_meet_149 3 rfl ?_
  refine v_icmpgt (pc := 150) (tgt := 165) dX12_meet_150 (by decide) (fun c1 => ?_) (fun c1 => ?_)
  · have h := h.1 c1
    exact VG_sub (al' := [(0, aR 603), (1, aI p0), (2, aI p1), (3, aI p2), (4, aI p3), (5, aI x5), (6, aI x6), (7, aI x7), (8, aI x8)]) [0, 1, 2, 3, 4, 5, 6, 7, 8] rfl h
  · have h := h.2 c1
    refine v_iload (pc := 153) dX12_meet_153 8 rfl ?_
    refine v_iload (pc := 155) dX12_meet_155 5 rfl ?_
    refine v_icmpge (pc := 157) (tgt := 165) dX12_meet_157 (by decide) (fun c1 => ?_) (fun c1 => ?_)
    · have h := h.1 c1
      exact VG_sub (al' := [(0, aR 603), (1, aI p0), (2, aI p1), (3, aI p2), (4, aI p3), (5, aI x5), (6, aI x6), (7, aI x7), (8, aI x8)]) [0, 1, 2, 3, 4, 5, 6, 7, 8] rfl h
    · have h := h.2 c1
      refine v_iload (pc := 160) dX12_meet_160 7 rfl ?_
      refine v_goto (pc := 162) (tgt := 167) dX12_meet_162 (by decide) ?_
      refine v_istore (pc := 167) (al2 := [(6, aI x7), (0, aR 603), (1, aI p0), (2, aI p1), (3, aI p2), (4, aI p3), (5, aI x5), (7, aI x7), (8, aI x8)]) dX12_meet_167 (by decide) rfl ?_
      refine v_iload (pc := 169) dX12_meet_169 8 rfl ?_
      refine v_iload_n (pc := 171) dX12_meet_171 4 rfl ?_
      refine v_icmpgt (pc := 172) (tgt := 187) dX12_meet_172 (by decide) (fun c1 => ?_) (fun c1 => ?_)
      · have h := h.1 c1
        exact VG_sub (al' := [(0, aR 603), (1, aI p0), (2, aI p1), (3, aI p2), (4, aI p3), (5, aI x5), (6, aI x7), (7, aI x7)]) [1, 2, 3, 4, 5, 6, 0, 7] rfl h
      · have h := h.2 c1
        refine v_iload (pc := 175) dX12_meet_175 8 rfl ?_
        refine v_iload (pc := 177) dX12_meet_177 6 rfl ?_
        refine v_icmpge (pc := 179) (tgt := 187) dX12_meet_179 (by decide) (fun c1 => ?_) (fun c1 => ?_)
        · have h := h.1 c1
          exact VG_sub (al' := [(0, aR 603), (1, aI p0), (2, aI p1), (3, aI p2), (4, aI p3), (5, aI x5), (6, aI x7), (7, aI x7)]) [1, 2, 3, 4, 5, 6, 0, 7] rfl h
        · have h := h.2 c1
          refine v_iload (pc := 182) dX12_meet_182 8 rfl ?_
          refine v_goto (pc := 184) (tgt := 189) dX12_meet_184 (by decide) ?_
          refine v_istore (pc := 189) (al2 := [(5, aI x8), (6, aI x7), (0, aR 603), (1, aI p0), (2, aI p1), (3, aI p2), (4, aI p3), (7, aI x7), (8, aI x8)]) dX12_meet_189 (by decide) rfl ?_
          exact VG_sub (al' := [(0, aR 603), (1, aI p0), (2, aI p1), (3, aI p2), (4, aI p3), (5, aI x8), (6, aI x7), (7, aI x7)]) [2, 3, 4, 5, 6, 0, 1, 7] rfl h
set_option maxRecDepth 20000 in
theorem rX12_meet_165 {E : EN} (hE : Ep E) {k : Nat} {mem : Mm} {Q : Int → Mm → Prop} {p0 p1 p2 p3 x5 x6 x7 x8 : Int}
    (h : ((p2 < x8 → VM E mX12_meet (k + 1) mem 187 [(0, aR 603), (1, aI p0), (2, aI p1), (3, aI p2), (4, aI p3), (5, aI x5), (6, aI x6), (7, aI x7)] [] (retI Q)) ∧ (x8 ≤ p2 → ((x5 ≤ x8 → VM E mX12_meet (k + 1) mem 187 [(0, aR 603), (1, aI p0), (2, aI p1), (3, aI p2), (4, aI p3), (5, aI x5), (6, aI x6), (7, aI x7)] [] (retI Q)) ∧ (x8 < x5 → VM E mX12_meet (k + 1) mem 191 [(0, aR 603), (1, aI p0), (2, aI p1), (3, aI p2), (4, aI p3), (5, aI x8), (6, aI x6), (7, aI x7)] [] (retI Q)))))) :
    VM E mX12_meet (k + 1) mem 165 [(0, aR 603), (1, aI p0), (2, aI p1), (3, aI p2), (4, aI p3), (5, aI x5), (6, aI x6), (7, aI x7), (8, aI x8)] [] (retI Q) := by
  refine v_iload (pc := 165) dX12_meet_165 6 rfl ?_
  refine v_istore (pc := 167) (al2 := [(6, aI x6), (0, aR 603), (1, aI p0), (2, aI p1), (3, aI p2), (4, aI p3), (5, aI x5), (7, aI x7), (8, aI x8)]) dX12_meet_167 (by decide) rfl ?_
  refine v_iload (pc := 169) dX12_meet_169 8 rfl ?_
  refine v_iload_n (pc := 171) dX12_meet_171 4 rfl ?_
  refine v_icmpgt (pc := 172) (tgt := 187) dX12_meet_172 (by decide) (fun c1 => ?_) (fun c1 => ?_)
  · have h := h.1 c1
    exact VG_sub (al' := [(0, aR 603), (1, aI p0), (2, aI p1), (3, aI p2), (4, aI p3), (5, aI x5), (6, aI x6), (7, aI x7)]) [1, 2, 3, 4, 5, 6, 0, 7] rfl h
  · have h := h.2 c1
    refine v_iload (pc := 175) dX12_meet_175 8 rfl ?_
    refine v_iload (pc := 177) dX12_meet_177 6 rfl ?_
    refine v_icmpge (pc := 179) (tgt := 187) dX12_meet_179 (by decide) (fun c1 => ?_) (fun c1 => ?_)
    · have h := h.1 c1
      exact VG_sub (al' := [(0, aR 603), (1, aI p0), (2, aI p1), (3, aI p2), (4, aI p3), (5, aI x5), (6, aI x6), (7, aI x7)]) [1, 2, 3, 4, 5, 6, 0, 7] rfl h
    · have h := h.2 c1
      refine v_iload (pc := 182) dX12_meet_182 8 rfl ?_
      refine v_goto (pc := 184) (tgt := 189) dX12_meet_184 (by decide) ?_
      refine v_istore (pc := 189) (al2 := [(5, aI x8), (6, aI x6), (0, aR 603), (1, aI p0), (2, aI p1), (3, aI p2), (4, aI p3), (7, aI x7), (8, aI x8)]) dX12_meet_189 (by decide) rfl ?_
      exact VG_sub (al' := [(0, aR 603), (1, aI p0), (2, aI p1), (3, aI p2), (4, aI p3), (5, aI x8), (6, aI x6), (7, aI x7)]) [2, 3, 4, 5, 6, 0, 1, 7] rfl h
set_option maxRecDepth 20000 in
theorem rX12_meet_187 {E : EN} (hE : Ep E) {k : Nat} {mem : Mm} {Q : Int → Mm → Prop} {p0 p1 p2 p3 x5 x6 x7 : Int}
    (h : VM E mX12_meet (k + 1) mem 191 [(0, aR 603), (1, aI p0), (2, aI p1), (3, aI p2), (4, aI p3), (5, aI x5), (6, aI x6), (7, aI x7)] [] (retI Q)) :
    VM E mX12_meet (k + 1) mem 187 [(0, aR 603), (1, aI p0), (2, aI p1), (3, aI p2), (4, aI p3), (5, aI x5), (6, aI x6), (7, aI x7)] [] (retI Q) := by
  refine v_iload (pc := 187) dX12_meet_187 5 rfl ?_
  refine v_istore (pc := 189) (al2 := [(5, aI x5), (0, aR 603), (1, aI p0), (2, aI p1), (3, aI p2), (4, aI p3), (6, aI x6), (7, aI x7)]) dX12_meet_189 (by decide) rfl ?_
  exact VG_sub (al' := [(0, aR 603), (1, aI p0), (2, aI p1), (3, aI p2), (4, aI p3), (5, aI x5), (6, aI x6), (7, aI x7)]) [1, 2, 3, 4, 5, 0, 6, 7] rfl h

theorem dX12_find_0 : decode cX12_find 0 = .ok (.aload_n 0, 1) := by decide +kernel
theorem dX12_find_1 : decode cX12_find 1 = .ok (.iconst 0, 1) := by decide +kernel
theorem dX12_find_2 : decode cX12_find 2 = .ok (.putfield 162, 3) := by decide +kernel
theorem dX12_find_5 : decode cX12_find 5 = .ok (.iload_n 1, 1) := by decide +kernel
theorem dX12_find_6 : decode cX12_find 6 = .ok (.i2l, 1) := by decide +kernel
theorem dX12_find_7 : decode cX12_find 7 = .ok (.lconst 0, 1) := by decide +kernel
theorem dX12_find_8 : decode cX12_find 8 = .ok (.ldc2_w 227, 3) := by decide +kernel
theorem dX12_find_11 : decode cX12_find 11 = .ok (.invokestatic 182, 3) := by decide +kernel
theorem dX12_find_14 : decode cX12_find 14 = .ok (.ifCond .eq 20, 3) := by decide +kernel
theorem dX12_find_17 : decode cX12_find 17 = .ok (.iload_n 2, 1) := by decide +kernel
theorem dX12_find_18 : decode cX12_find 18 = .ok (.invokestatic 192, 3) := by decide +kernel
theorem dX12_find_21 : decode cX12_find 21 = .ok (.ifCond .eq 13, 3) := by decide +kernel
theorem dX12_find_24 : decode cX12_find 24 = .ok (.iload_n 3, 1) := by decide +kernel
theorem dX12_find_25 : decode cX12_find 25 = .ok (.i2l, 1) := by decide +kernel
theorem dX12_find_26 : decode cX12_find 26 = .ok (.lconst 0, 1) := by decide +kernel
theorem dX12_find_27 : decode cX12_find 27 = .ok (.lconst 1, 1) := by decide +kernel
theorem dX12_find_28 : decode cX12_find 28 = .ok (.invokestatic 182, 3) := by decide +kernel
theorem dX12_find_31 : decode cX12_find 31 = .ok (.ifCond .ne 9, 3) := by decide +kernel
theorem dX12_find_34 : decode cX12_find 34 = .ok (.aload_n 0, 1) := by decide +kernel
theorem dX12_find_35 : decode cX12_find 35 = .ok (.iconst (-1), 1) := by decide +kernel
theorem dX12_find_36 : decode cX12_find 36 = .ok (.invokevirtual 175, 3) := by decide +kernel
theorem dX12_find_39 : decode cX12_find 39 = .ok (.ireturn, 1) := by decide +kernel
theorem dX12_find_40 : decode cX12_find 40 = .ok (.aload_n 0, 1) := by decide +kernel
theorem dX12_find_41 : decode cX12_find 41 = .ok (.getfield 13, 3) := by decide +kernel
theorem dX12_find_44 : decode cX12_find 44 = .ok (.iconst 0, 1) := by decide +kernel
theorem dX12_find_45 : decode cX12_find 45 = .ok (.iaload, 1) := by decide +kernel
theorem dX12_find_46 : decode cX12_find 46 = .ok (.istore 4, 2) := by decide +kernel
theorem dX12_find_48 : decode cX12_find 48 = .ok (.iload 4, 2) := by decide +kernel
theorem dX12_find_50 : decode cX12_find 50 = .ok (.bipush 8, 2) := by decide +kernel
theorem dX12_find_52 : decode cX12_find 52 = .ok (.if_icmp .ne 10, 3) := by decide +kernel
theorem dX12_find_55 : decode cX12_find 55 = .ok (.aload_n 0, 1) := by decide +kernel
theorem dX12_find_56 : decode cX12_find 56 = .ok (.bipush (-5), 2) := by decide +kernel
theorem dX12_find_58 : decode cX12_find 58 = .ok (.invokevirtual 175, 3) := by decide +kernel
theorem dX12_find_61 : decode cX12_find 61 = .ok (.ireturn, 1) := by decide +kernel
theorem dX12_find_62 : decode cX12_find 62 = .ok (.aload_n 0, 1) := by decide +kernel
theorem dX12_find_63 : decode cX12_find 63 = .ok (.getfield 13, 3) := by decide +kernel
theorem dX12_find_66 : decode cX12_find 66 = .ok (.sipush 144, 3) := by decide +kernel
theorem dX12_find_69 : decode cX12_find 69 = .ok (.iconst 3, 1) := by decide +kernel
theorem dX12_find_70 : decode cX12_find 70 = .ok (.iload 4, 2) := by decide +kernel
theorem dX12_find_72 : decode cX12_find 72 = .ok (.imul, 1) := by decide +kernel
theorem dX12_find_73 : decode cX12_find 73 = .ok (.iadd, 1) := by decide +kernel
theorem dX12_find_74 : decode cX12_find 74 = .ok (.iload_n 1, 1) := by decide +kernel
theorem dX12_find_75 : decode cX12_find 75 = .ok (.iastore, 1) := by decide +kernel
theorem dX12_find_76 : decode cX12_find 76 = .ok (.aload_n 0, 1) := by decide +kernel
theorem dX12_find_77 : decode cX12_find 77 = .ok (.getfield 13, 3) := by decide +kernel
theorem dX12_find_80 : decode cX12_find 80 = .ok (.sipush 144, 3) := by decide +kernel
theorem dX12_find_83 : decode cX12_find 83 = .ok (.iconst 3, 1) := by decide +kernel
theorem dX12_find_84 : decode cX12_find 84 = .ok (.iload 4, 2) := by decide +kernel
theorem dX12_find_86 : decode cX12_find 86 = .ok (.imul, 1) := by decide +kernel
theorem dX12_find_87 : decode cX12_find 87 = .ok (.iadd, 1) := by decide +kernel
theorem dX12_find_88 : decode cX12_find 88 = .ok (.iconst 1, 1) := by decide +kernel
theorem dX12_find_89 : decode cX12_find 89 = .ok (.iadd, 1) := by decide +kernel
theorem dX12_find_90 : decode cX12_find 90 = .ok (.iload_n 2, 1) := by decide +kernel
theorem dX12_find_91 : decode cX12_find 91 = .ok (.iastore, 1) := by decide +kernel
theorem dX12_find_92 : decode cX12_find 92 = .ok (.aload_n 0, 1) := by decide +kernel
theorem dX12_find_93 : decode cX12_find 93 = .ok (.getfield 13, 3) := by decide +kernel
theorem dX12_find_96 : decode cX12_find 96 = .ok (.sipush 144, 3) := by decide +kernel
theorem dX12_find_99 : decode cX12_find 99 = .ok (.iconst 3, 1) := by decide +kernel
theorem dX12_find_100 : decode cX12_find 100 = .ok (.iload 4, 2) := by decide +kernel
theorem dX12_find_102 : decode cX12_find 102 = .ok (.imul, 1) := by decide +kernel
theorem dX12_find_103 : decode cX12_find 103 = .ok (.iadd, 1) := by decide +kernel
theorem dX12_find_104 : decode cX12_find 104 = .ok (.iconst 2, 1) := by decide +kernel
theorem dX12_find_105 : decode cX12_find 105 = .ok (.iadd, 1) := by decide +kernel
theorem dX12_find_106 : decode cX12_find 106 = .ok (.iload_n 3, 1) := by decide +kernel
theorem dX12_find_107 : decode cX12_find 107 = .ok (.iastore, 1) := by decide +kernel
theorem dX12_find_108 : decode cX12_find 108 = .ok (.aload_n 0, 1) := by decide +kernel
theorem dX12_find_109 : decode cX12_find 109 = .ok (.getfield 13, 3) := by decide +kernel
theorem dX12_find_112 : decode cX12_find 112 = .ok (.iconst 0, 1) := by decide +kernel
theorem dX12_find_113 : decode cX12_find 113 = .ok (.dup2, 1) := by decide +kernel
theorem dX12_find_114 : decode cX12_find 114 = .ok (.iaload, 1) := by decide +kernel
theorem dX12_find_115 : decode cX12_find 115 = .ok (.iconst 1, 1) := by decide +kernel
theorem dX12_find_116 : decode cX12_find 116 = .ok (.iadd, 1) := by decide +kernel
theorem dX12_find_117 : decode cX12_find 117 = .ok (.iastore, 1) := by decide +kernel
theorem dX12_find_118 : decode cX12_find 118 = .ok (.aload_n 0, 1) := by decide +kernel
theorem dX12_find_119 : decode cX12_find 119 = .ok (.iload 4, 2) := by decide +kernel
theorem dX12_find_121 : decode cX12_find 121 = .ok (.iconst 1, 1) := by decide +kernel
theorem dX12_find_122 : decode cX12_find 122 = .ok (.iadd, 1) := by decide +kernel
theorem dX12_find_123 : decode cX12_find 123 = .ok (.invokevirtual 175, 3) := by decide +kernel
theorem dX12_find_126 : decode cX12_find 126 = .ok (.ireturn, 1) := by decide +kernel
set_option maxRecDepth 20000 in
theorem rX12_find_0 {E : EN} (hE : Ep E) {k : Nat} {mem : Mm} {Q : Int → Mm → Prop} {p0 p1 p2 : Int}
    (h : (R64 p0 → CI E mX12_in k (aUp mem 603 0 0) [aL p0, aL 0, aL 9] (fun r2 m1 => ((r2 = 0 → (CI E mX12_tell k m1 [aR 603, aI (-1)] (fun r4 m3 => Q r4 m3))) ∧ (¬ r2 = 0 → (R32 p1 → CI E mX12_isCell k m1 [aI p1] (fun r6 m5 => ((r6 = 0 → (CI E mX12_tell k m5 [aR 603, aI (-1)] (fun r8 m7 => Q r8 m7))) ∧ (¬ r6 = 0 → (R64 p2 → CI E mX12_in k m5 [aL p2, aL 0, aL 1] (fun r10 m9 => ((¬ r10 = 0 → ((¬ (m9 605 0) = 8 → (R32 (3 * (m9 605 0))) ∧ (R32 (144 + (3 * (m9 605 0)))) ∧ (0 ≤ (144 + (3 * (m9 605 0))) ∧ (144 + (3 * (m9 605 0))) < 5570) ∧ (R32 ((144 + (3 * (m9 605 0))) + 1)) ∧ (0 ≤ ((144 + (3 * (m9 605 0))) + 1) ∧ ((144 + (3 * (m9 605 0))) + 1) < 5570) ∧ (R32 ((144 + (3 * (m9 605 0))) + 2)) ∧ (0 ≤ ((144 + (3 * (m9 605 0))) + 2) ∧ ((144 + (3 * (m9 605 0))) + 2) < 5570) ∧ (R32 (((aUp (aUp (aUp m9 605 (144 + (3 * (m9 605 0))) p0) 605 ((144 + (3 * (m9 605 0))) + 1) p1) 605 ((144 + (3 * (m9 605 0))) + 2) p2) 605 0) + 1)) ∧ (R32 ((m9 605 0) + 1)) ∧ (R32 ((m9 605 0) + 1) → CI E mX12_tell k (aUp (aUp (aUp (aUp m9 605 (144 + (3 * (m9 605 0))) p0) 605 ((144 + (3 * (m9 605 0))) + 1) p1) 605 ((144 + (3 * (m9 605 0))) + 2) p2) 605 0 (((aUp (aUp (aUp m9 605 (144 + (3 * (m9 605 0))) p0) 605 ((144 + (3 * (m9 605 0))) + 1) p1) 605 ((144 + (3 * (m9 605 0))) + 2) p2) 605 0) + 1)) [aR 603, aI ((m9 605 0) + 1)] (fun r21 m20 => Q r21 m20))) ∧ ((m9 605 0) = 8 → (CI E mX12_tell k m9 [aR 603, aI (-5)] (fun r23 m22 => Q r23 m22))))) ∧ (r10 = 0 → (CI E mX12_tell k m9 [aR 603, aI (-1)] (fun r25 m24 => Q r25 m24))))))))))))))) :
    VM E mX12_find (k + 1) mem 0 [(0, aR 603), (1, aI p0), (2, aI p1), (3, aI p2)] [] (retI Q) := by
  refine v_aload_n (pc := 0) dX12_find_0 0 rfl ?_
  refine v_iconst (pc := 1) dX12_find_1 (by decide) ?_
  refine v_putf (pc := 2) dX12_find_2 flX12_162 ⟨_, _, rfl, Or.inl rfl⟩ rfl (by decide) (fun q => nomatch q) (Or.inl fun _ => rfl) at603 ?_
  refine v_iload_n (pc := 5) dX12_find_5 1 rfl ?_
  refine v_i2l (pc := 6) dX12_find_6 ?_
  refine v_lconst0 (pc := 7) dX12_find_7 ?_
  refine v_ldc2 (pc := 8) (n := 9) dX12_find_8 cnX12_227 (by decide) ?_
  refine m_invSI (pc := 11) (mi' := mX12_in) (rest := []) [aL p0, aL 0, aL 9] dX12_find_11 msX12_in stX12_in lkX12_182 rfl (Nat.le_of_ble_eq_true rfl) (fun hn => CI_mono (h (aaL hn 0 rfl)) (fun r2 m1 h => ?_))
  refine v_ifeq (pc := 14) (tgt := 34) dX12_find_14 (by decide) (fun c1 => ?_) (fun c1 => ?_)
  · have h := h.1 c1
    refine v_aload_n (pc := 34) dX12_find_34 0 rfl ?_
    refine v_iconst (pc := 35) dX12_find_35 (by decide) ?_
    refine m_invI (pc := 36) (mi' := mX12_tell) (rest := []) [aI (-1)] dX12_find_36 at603 (by decide) rfl msX12_tell mvX12_tell lkX12_175 rfl (Nat.le_of_ble_eq_true rfl) (fun hn => CI_mono (h) (fun r4 m3 h => ?_))
    exact m_retI (pc := 39) dX12_find_39 rfl h
  · have h := h.2 c1
    refine v_iload_n (pc := 17) dX12_find_17 2 rfl ?_
    refine m_invSI (pc := 18) (mi' := mX12_isCell) (rest := []) [aI p1] dX12_find_18 msX12_isCell stX12_isCell lkX12_192 rfl (Nat.le_of_ble_eq_true rfl) (fun hn => CI_mono (h (aaI hn 0 rfl)) (fun r6 m5 h => ?_))
    refine v_ifeq (pc := 21) (tgt := 34) dX12_find_21 (by decide) (fun c1 => ?_) (fun c1 => ?_)
    · have h := h.1 c1
      refine v_aload_n (pc := 34) dX12_find_34 0 rfl ?_
      refine v_iconst (pc := 35) dX12_find_35 (by decide) ?_
      refine m_invI (pc := 36) (mi' := mX12_tell) (rest := []) [aI (-1)] dX12_find_36 at603 (by decide) rfl msX12_tell mvX12_tell lkX12_175 rfl (Nat.le_of_ble_eq_true rfl) (fun hn => CI_mono (h) (fun r8 m7 h => ?_))
      exact m_retI (pc := 39) dX12_find_39 rfl h
    · have h := h.2 c1
      refine v_iload_n (pc := 24) dX12_find_24 3 rfl ?_
      refine v_i2l (pc := 25) dX12_find_25 ?_
      refine v_lconst0 (pc := 26) dX12_find_26 ?_
      refine v_lconst1 (pc := 27) dX12_find_27 ?_
      refine m_invSI (pc := 28) (mi' := mX12_in) (rest := []) [aL p2, aL 0, aL 1] dX12_find_28 msX12_in stX12_in lkX12_182 rfl (Nat.le_of_ble_eq_true rfl) (fun hn => CI_mono (h (aaL hn 0 rfl)) (fun r10 m9 h => ?_))
      refine v_ifne (pc := 31) (tgt := 40) dX12_find_31 (by decide) (fun c1 => ?_) (fun c1 => ?_)
      · have h := h.1 c1
        refine v_aload_n (pc := 40) dX12_find_40 0 rfl ?_
        refine m_getfin (pc := 41) (v := 605) hE dX12_find_41 flX12_13 rfl at603 rfl ?_
        refine v_iconst (pc := 44) dX12_find_44 (by decide) ?_
        refine m_iald (pc := 45) (v := (m9 605 0)) dX12_find_45 at605 (by omega) (by omega) rfl ?_
        refine v_istore (pc := 46) (al2 := [(4, aI (m9 605 0)), (0, aR 603), (1, aI p0), (2, aI p1), (3, aI p2)]) dX12_find_46 (by decide) rfl ?_
        refine v_iload (pc := 48) dX12_find_48 0 rfl ?_
        refine v_bipush (pc := 50) dX12_find_50 (by decide) ?_
        refine v_icmpne (pc := 52) (tgt := 62) dX12_find_52 (by decide) (fun c1 => ?_) (fun c1 => ?_)
        · have h := h.1 c1
          refine v_aload_n (pc := 62) dX12_find_62 1 rfl ?_
          refine m_getfin (pc := 63) (v := 605) hE dX12_find_63 flX12_13 rfl at603 rfl ?_
          refine v_sipush (pc := 66) dX12_find_66 (by decide) ?_
          refine v_iconst (pc := 69) dX12_find_69 (by decide) ?_
          refine v_iload (pc := 70) dX12_find_70 0 rfl ?_
          obtain ⟨o11, h⟩ := h
          refine m_imul (pc := 72) dX12_find_72 o11 ?_
          obtain ⟨o12, h⟩ := h
          refine m_iadd (pc := 73) dX12_find_73 o12 ?_
          refine v_iload_n (pc := 74) dX12_find_74 2 rfl ?_
          obtain ⟨o13, h⟩ := h
          refine v_iast (pc := 75) dX12_find_75 at605 o13.1 o13.2 ?_
          refine v_aload_n (pc := 76) dX12_find_76 1 rfl ?_
          refine m_getfin (pc := 77) (v := 605) hE dX12_find_77 flX12_13 rfl at603 rfl ?_
          refine v_sipush (pc := 80) dX12_find_80 (by decide) ?_
          refine v_iconst (pc := 83) dX12_find_83 (by decide) ?_
          refine v_iload (pc := 84) dX12_find_84 0 rfl ?_
          refine m_imul (pc := 86) dX12_find_86 o11 ?_
          refine m_iadd (pc := 87) dX12_find_87 o12 ?_
          refine v_iconst (pc := 88) dX12_find_88 (by decide) ?_
          obtain ⟨o14, h⟩ := h
          refine m_iadd (pc := 89) dX12_find_89 o14 ?_
          refine v_iload_n (pc := 90) dX12_find_90 3 rfl ?_
          obtain ⟨o15, h⟩ := h
          refine v_iast (pc := 91) dX12_find_91 at605 o15.1 o15.2 ?_
          refine v_aload_n (pc := 92) dX12_find_92 1 rfl ?_
          refine m_getfin (pc := 93) (v := 605) hE dX12_find_93 flX12_13 rfl at603 rfl ?_
          refine v_sipush (pc := 96) dX12_find_96 (by decide) ?_
          refine v_iconst (pc := 99) dX12_find_99 (by decide) ?_
          refine v_iload (pc := 100) dX12_find_100 0 rfl ?_
          refine m_imul (pc := 102) dX12_find_102 o11 ?_
          refine m_iadd (pc := 103) dX12_find_103 o12 ?_
          refine v_iconst (pc := 104) dX12_find_104 (by decide) ?_
          obtain ⟨o16, h⟩ := h
          refine m_iadd (pc := 105) dX12_find_105 o16 ?_
          refine v_iload_n (pc := 106) dX12_find_106 4 rfl ?_
          obtain ⟨o17, h⟩ := h
          refine v_iast (pc := 107) dX12_find_107 at605 o17.1 o17.2 ?_
          refine v_aload_n (pc := 108) dX12_find_108 1 rfl ?_
          refine m_getfin (pc := 109) (v := 605) hE dX12_find_109 flX12_13 rfl at603 rfl ?_
          refine v_iconst (pc := 112) dX12_find_112 (by decide) ?_
          refine v_dup2 (pc := 113) dX12_find_113 rfl rfl ?_
          refine m_iald (pc := 114) (v := ((aUp (aUp (aUp m9 605 (144 + (3 * (m9 605 0))) p0) 605 ((144 + (3 * (m9 605 0))) + 1) p1) 605 ((144 + (3 * (m9 605 0))) + 2) p2) 605 0)) dX12_find_114 at605 (by omega) (by omega) rfl ?_
          refine v_iconst (pc := 115) dX12_find_115 (by decide) ?_
          obtain ⟨o18, h⟩ := h
          refine m_iadd (pc := 116) dX12_find_116 o18 ?_
          refine v_iast (pc := 117) dX12_find_117 at605 (by omega) (by omega) ?_
          refine v_aload_n (pc := 118) dX12_find_118 1 rfl ?_
          refine v_iload (pc := 119) dX12_find_119 0 rfl ?_
          refine v_iconst (pc := 121) dX12_find_121 (by decide) ?_
          obtain ⟨o19, h⟩ := h
          refine m_iadd (pc := 122) dX12_find_122 o19 ?_
          refine m_invI (pc := 123) (mi' := mX12_tell) (rest := []) [aI ((m9 605 0) + 1)] dX12_find_123 at603 (by decide) rfl msX12_tell mvX12_tell lkX12_175 rfl (Nat.le_of_ble_eq_true rfl) (fun hn => CI_mono (h (aaI hn 1 rfl)) (fun r21 m20 h => ?_))
          exact m_retI (pc := 126) dX12_find_126 rfl h
        · have h := h.2 c1
          refine v_aload_n (pc := 55) dX12_find_55 1 rfl ?_
          refine v_bipush (pc := 56) dX12_find_56 (by decide) ?_
          refine m_invI (pc := 58) (mi' := mX12_tell) (rest := []) [aI (-5)] dX12_find_58 at603 (by decide) rfl msX12_tell mvX12_tell lkX12_175 rfl (Nat.le_of_ble_eq_true rfl) (fun hn => CI_mono (h) (fun r23 m22 h => ?_))
          exact m_retI (pc := 61) dX12_find_61 rfl h
      · have h := h.2 c1
        refine v_aload_n (pc := 34) dX12_find_34 0 rfl ?_
        refine v_iconst (pc := 35) dX12_find_35 (by decide) ?_
        refine m_invI (pc := 36) (mi' := mX12_tell) (rest := []) [aI (-1)] dX12_find_36 at603 (by decide) rfl msX12_tell mvX12_tell lkX12_175 rfl (Nat.le_of_ble_eq_true rfl) (fun hn => CI_mono (h) (fun r25 m24 h => ?_))
        exact m_retI (pc := 39) dX12_find_39 rfl h
theorem eX12_find {E : EN} {k : Nat} {mem : Mm} {Q : Int → Mm → Prop} {p0 p1 p2 : Int} (hr_p0 : R32 p0) (hr_p1 : R32 p1) (hr_p2 : R32 p2) (h : VM E mX12_find (k + 1) mem 0 [(0, aR 603), (1, aI p0), (2, aI p1), (3, aI p2)] [] (retI Q)) : CI E mX12_find (k + 1) mem [aR 603, aI p0, aI p1, aI p2] Q := CI_of rfl (Nat.le_of_ble_eq_true rfl) h (aNs_c (aNr_R _) (aNs_c (aNr_I hr_p0) (aNs_c (aNr_I hr_p1) (aNs_c (aNr_I hr_p2) (fun _ q => nomatch q)))))

theorem dX12_forget_0 : decode cX12_forget 0 = .ok (.aload_n 0, 1) := by decide +kernel
theorem dX12_forget_1 : decode cX12_forget 1 = .ok (.iconst 0, 1) := by decide +kernel
theorem dX12_forget_2 : decode cX12_forget 2 = .ok (.putfield 162, 3) := by decide +kernel
theorem dX12_forget_5 : decode cX12_forget 5 = .ok (.aload_n 0, 1) := by decide +kernel
theorem dX12_forget_6 : decode cX12_forget 6 = .ok (.getfield 13, 3) := by decide +kernel
theorem dX12_forget_9 : decode cX12_forget 9 = .ok (.iconst 0, 1) := by decide +kernel
theorem dX12_forget_10 : decode cX12_forget 10 = .ok (.iaload, 1) := by decide +kernel
theorem dX12_forget_11 : decode cX12_forget 11 = .ok (.istore_n 1, 1) := by decide +kernel
theorem dX12_forget_12 : decode cX12_forget 12 = .ok (.aload_n 0, 1) := by decide +kernel
theorem dX12_forget_13 : decode cX12_forget 13 = .ok (.getfield 13, 3) := by decide +kernel
theorem dX12_forget_16 : decode cX12_forget 16 = .ok (.iconst 0, 1) := by decide +kernel
theorem dX12_forget_17 : decode cX12_forget 17 = .ok (.iconst 0, 1) := by decide +kernel
theorem dX12_forget_18 : decode cX12_forget 18 = .ok (.iastore, 1) := by decide +kernel
theorem dX12_forget_19 : decode cX12_forget 19 = .ok (.iload_n 1, 1) := by decide +kernel
theorem dX12_forget_20 : decode cX12_forget 20 = .ok (.ireturn, 1) := by decide +kernel
set_option maxRecDepth 20000 in
theorem rX12_forget_0 {E : EN} (hE : Ep E) {k : Nat} {mem : Mm} {Q : Int → Mm → Prop}
    (h : Q (mem 605 0) (aUp (aUp mem 603 0 0) 605 0 0)) :
    VM E mX12_forget k mem 0 [(0, aR 603)] [] (retI Q) := by
  refine v_aload_n (pc := 0) dX12_forget_0 0 rfl ?_
  refine v_iconst (pc := 1) dX12_forget_1 (by decide) ?_
  refine v_putf (pc := 2) dX12_forget_2 flX12_162 ⟨_, _, rfl, Or.inl rfl⟩ rfl (by decide) (fun q => nomatch q) (Or.inl fun _ => rfl) at603 ?_
  refine v_aload_n (pc := 5) dX12_forget_5 0 rfl ?_
  refine m_getfin (pc := 6) (v := 605) hE dX12_forget_6 flX12_13 rfl at603 rfl ?_
  refine v_iconst (pc := 9) dX12_forget_9 (by decide) ?_
  refine m_iald (pc := 10) (v := (mem 605 0)) dX12_forget_10 at605 (by omega) (by omega) (aUp_rn (by omega)) ?_
  refine v_istore_n (pc := 11) (al2 := [(1, aI (mem 605 0)), (0, aR 603)]) dX12_forget_11 (by decide) rfl ?_
  refine v_aload_n (pc := 12) dX12_forget_12 1 rfl ?_
  refine m_getfin (pc := 13) (v := 605) hE dX12_forget_13 flX12_13 rfl at603 rfl ?_
  refine v_iconst (pc := 16) dX12_forget_16 (by decide) ?_
  refine v_iconst (pc := 17) dX12_forget_17 (by decide) ?_
  refine v_iast (pc := 18) dX12_forget_18 at605 (by omega) (by omega) ?_
  refine v_iload_n (pc := 19) dX12_forget_19 0 rfl ?_
  exact m_retI (pc := 20) dX12_forget_20 rfl h
theorem eX12_forget {E : EN} {k : Nat} {mem : Mm} {Q : Int → Mm → Prop}  (h : VM E mX12_forget k mem 0 [(0, aR 603)] [] (retI Q)) : CI E mX12_forget k mem [aR 603] Q := CI_of rfl (Nat.le_of_ble_eq_true rfl) h (aNs_c (aNr_R _) (fun _ q => nomatch q))

theorem dX12_isAsFound_0 : decode cX12_isAsFound 0 = .ok (.iconst 1, 1) := by decide +kernel
theorem dX12_isAsFound_1 : decode cX12_isAsFound 1 = .ok (.istore_n 2, 1) := by decide +kernel
theorem dX12_isAsFound_2 : decode cX12_isAsFound 2 = .ok (.iconst 0, 1) := by decide +kernel
theorem dX12_isAsFound_3 : decode cX12_isAsFound 3 = .ok (.istore_n 3, 1) := by decide +kernel
theorem dX12_isAsFound_4 : decode cX12_isAsFound 4 = .ok (.iload_n 3, 1) := by decide +kernel
theorem dX12_isAsFound_5 : decode cX12_isAsFound 5 = .ok (.aload_n 0, 1) := by decide +kernel
theorem dX12_isAsFound_6 : decode cX12_isAsFound 6 = .ok (.getfield 13, 3) := by decide +kernel
theorem dX12_isAsFound_9 : decode cX12_isAsFound 9 = .ok (.iconst 0, 1) := by decide +kernel
theorem dX12_isAsFound_10 : decode cX12_isAsFound 10 = .ok (.iaload, 1) := by decide +kernel
theorem dX12_isAsFound_11 : decode cX12_isAsFound 11 = .ok (.if_icmp .ge 82, 3) := by decide +kernel
theorem dX12_isAsFound_14 : decode cX12_isAsFound 14 = .ok (.sipush 144, 3) := by decide +kernel
theorem dX12_isAsFound_17 : decode cX12_isAsFound 17 = .ok (.iconst 3, 1) := by decide +kernel
theorem dX12_isAsFound_18 : decode cX12_isAsFound 18 = .ok (.iload_n 3, 1) := by decide +kernel
theorem dX12_isAsFound_19 : decode cX12_isAsFound 19 = .ok (.imul, 1) := by decide +kernel
theorem dX12_isAsFound_20 : decode cX12_isAsFound 20 = .ok (.iadd, 1) := by decide +kernel
theorem dX12_isAsFound_21 : decode cX12_isAsFound 21 = .ok (.istore 4, 2) := by decide +kernel
theorem dX12_isAsFound_23 : decode cX12_isAsFound 23 = .ok (.iload_n 2, 1) := by decide +kernel
theorem dX12_isAsFound_24 : decode cX12_isAsFound 24 = .ok (.ifCond .eq 61, 3) := by decide +kernel
theorem dX12_isAsFound_27 : decode cX12_isAsFound 27 = .ok (.aload_n 0, 1) := by decide +kernel
theorem dX12_isAsFound_28 : decode cX12_isAsFound 28 = .ok (.getfield 13, 3) := by decide +kernel
theorem dX12_isAsFound_31 : decode cX12_isAsFound 31 = .ok (.iload 4, 2) := by decide +kernel
theorem dX12_isAsFound_33 : decode cX12_isAsFound 33 = .ok (.iaload, 1) := by decide +kernel
theorem dX12_isAsFound_34 : decode cX12_isAsFound 34 = .ok (.iload_n 1, 1) := by decide +kernel
theorem dX12_isAsFound_35 : decode cX12_isAsFound 35 = .ok (.if_icmp .ne 46, 3) := by decide +kernel
theorem dX12_isAsFound_38 : decode cX12_isAsFound 38 = .ok (.aload_n 0, 1) := by decide +kernel
theorem dX12_isAsFound_39 : decode cX12_isAsFound 39 = .ok (.aload_n 0, 1) := by decide +kernel
theorem dX12_isAsFound_40 : decode cX12_isAsFound 40 = .ok (.getfield 13, 3) := by decide +kernel
theorem dX12_isAsFound_43 : decode cX12_isAsFound 43 = .ok (.iload 4, 2) := by decide +kernel
theorem dX12_isAsFound_45 : decode cX12_isAsFound 45 = .ok (.iconst 1, 1) := by decide +kernel
theorem dX12_isAsFound_46 : decode cX12_isAsFound 46 = .ok (.iadd, 1) := by decide +kernel
theorem dX12_isAsFound_47 : decode cX12_isAsFound 47 = .ok (.iaload, 1) := by decide +kernel
theorem dX12_isAsFound_48 : decode cX12_isAsFound 48 = .ok (.invokevirtual 203, 3) := by decide +kernel
theorem dX12_isAsFound_51 : decode cX12_isAsFound 51 = .ok (.iconst (-1), 1) := by decide +kernel
theorem dX12_isAsFound_52 : decode cX12_isAsFound 52 = .ok (.if_icmp .eq 7, 3) := by decide +kernel
theorem dX12_isAsFound_55 : decode cX12_isAsFound 55 = .ok (.iconst 1, 1) := by decide +kernel
theorem dX12_isAsFound_56 : decode cX12_isAsFound 56 = .ok (.goto 4, 3) := by decide +kernel
theorem dX12_isAsFound_59 : decode cX12_isAsFound 59 = .ok (.iconst 0, 1) := by decide +kernel
theorem dX12_isAsFound_60 : decode cX12_isAsFound 60 = .ok (.aload_n 0, 1) := by decide +kernel
theorem dX12_isAsFound_61 : decode cX12_isAsFound 61 = .ok (.getfield 13, 3) := by decide +kernel
theorem dX12_isAsFound_64 : decode cX12_isAsFound 64 = .ok (.iload 4, 2) := by decide +kernel
theorem dX12_isAsFound_66 : decode cX12_isAsFound 66 = .ok (.iconst 2, 1) := by decide +kernel
theorem dX12_isAsFound_67 : decode cX12_isAsFound 67 = .ok (.iadd, 1) := by decide +kernel
theorem dX12_isAsFound_68 : decode cX12_isAsFound 68 = .ok (.iaload, 1) := by decide +kernel
theorem dX12_isAsFound_69 : decode cX12_isAsFound 69 = .ok (.iconst 1, 1) := by decide +kernel
theorem dX12_isAsFound_70 : decode cX12_isAsFound 70 = .ok (.if_icmp .ne 7, 3) := by decide +kernel
theorem dX12_isAsFound_73 : decode cX12_isAsFound 73 = .ok (.iconst 1, 1) := by decide +kernel
theorem dX12_isAsFound_74 : decode cX12_isAsFound 74 = .ok (.goto 4, 3) := by decide +kernel
theorem dX12_isAsFound_77 : decode cX12_isAsFound 77 = .ok (.iconst 0, 1) := by decide +kernel
theorem dX12_isAsFound_78 : decode cX12_isAsFound 78 = .ok (.if_icmp .ne 7, 3) := by decide +kernel
theorem dX12_isAsFound_81 : decode cX12_isAsFound 81 = .ok (.iconst 1, 1) := by decide +kernel
theorem dX12_isAsFound_82 : decode cX12_isAsFound 82 = .ok (.goto 4, 3) := by decide +kernel
theorem dX12_isAsFound_85 : decode cX12_isAsFound 85 = .ok (.iconst 0, 1) := by decide +kernel
theorem dX12_isAsFound_86 : decode cX12_isAsFound 86 = .ok (.istore_n 2, 1) := by decide +kernel
theorem dX12_isAsFound_87 : decode cX12_isAsFound 87 = .ok (.iinc 3 1, 3) := by decide +kernel
theorem dX12_isAsFound_90 : decode cX12_isAsFound 90 = .ok (.goto (-86), 3) := by decide +kernel
theorem dX12_isAsFound_93 : decode cX12_isAsFound 93 = .ok (.iload_n 2, 1) := by decide +kernel
theorem dX12_isAsFound_94 : decode cX12_isAsFound 94 = .ok (.ireturn, 1) := by decide +kernel
set_option maxRecDepth 20000 in
theorem rX12_isAsFound_0 {E : EN} (hE : Ep E) {k : Nat} {mem : Mm} {Q : Int → Mm → Prop} {p0 : Int}
    (h : VM E mX12_isAsFound (k + 1) mem 4 [(0, aR 603), (1, aI p0), (2, aI 1), (3, aI 0)] [] (retI Q)) :
    VM E mX12_isAsFound (k + 1) mem 0 [(0, aR 603), (1, aI p0)] [] (retI Q) := by
  refine v_iconst (pc := 0) dX12_isAsFound_0 (by decide) ?_
  refine v_istore_n (pc := 1) (al2 := [(2, aI 1), (0, aR 603), (1, aI p0)]) dX12_isAsFound_1 (by decide) rfl ?_
  refine v_iconst (pc := 2) dX12_isAsFound_2 (by decide) ?_
  refine v_istore_n (pc := 3) (al2 := [(3, aI 0), (2, aI 1), (0, aR 603), (1, aI p0)]) dX12_isAsFound_3 (by decide) rfl ?_
  exact VG_sub (al' := [(0, aR 603), (1, aI p0), (2, aI 1), (3, aI 0)]) [2, 3, 1, 0] rfl h
theorem eX12_isAsFound {E : EN} {k : Nat} {mem : Mm} {Q : Int → Mm → Prop} {p0 : Int} (hr_p0 : R32 p0) (h : VM E mX12_isAsFound (k + 1) mem 0 [(0, aR 603), (1, aI p0)] [] (retI Q)) : CI E mX12_isAsFound (k + 1) mem [aR 603, aI p0] Q := CI_of rfl (Nat.le_of_ble_eq_true rfl) h (aNs_c (aNr_R _) (aNs_c (aNr_I hr_p0) (fun _ q => nomatch q)))
set_option maxRecDepth 20000 in
theorem rX12_isAsFound_4 {E : EN} (hE : Ep E) {k : Nat} {mem : Mm} {Q : Int → Mm → Prop} {p0 x2 x3 : Int}
    (h : (((mem 605 0) ≤ x3 → (x2 = 0 ∨ x2 = 1) ∧ Q x2 mem) ∧ (x3 < (mem 605 0) → (R32 (3 * x3)) ∧ (R32 (144 + (3 * x3))) ∧ ((x2 = 0 → (R32 (x3 + 1)) ∧ VM E mX12_isAsFound (k + 1) mem 4 [(0, aR 603), (1, aI p0), (2, aI 0), (3, aI (x3 + 1))] [] (retI Q)) ∧ (¬ x2 = 0 → (0 ≤ (144 + (3 * x3)) ∧ (144 + (3 * x3)) < 5570) ∧ ((¬ (mem 605 (144 + (3 * x3))) = p0 → (R32 (x3 + 1)) ∧ VM E mX12_isAsFound (k + 1) mem 4 [(0, aR 603), (1, aI p0), (2, aI 1), (3, aI (x3 + 1))] [] (retI Q)) ∧ ((mem 605 (144 + (3 * x3))) = p0 → (R32 ((144 + (3 * x3)) + 1)) ∧ (0 ≤ ((144 + (3 * x3)) + 1) ∧ ((144 + (3 * x3)) + 1) < 5570) ∧ (R32 (mem 605 ((144 + (3 * x3)) + 1)) → CI E mX12_plotIn k mem [aR 603, aI (mem 605 ((144 + (3 * x3)) + 1))] (fun r10 m9 => ((r10 = (-1) → (R32 ((144 + (3 * x3)) + 2)) ∧ (0 ≤ ((144 + (3 * x3)) + 2) ∧ ((144 + (3 * x3)) + 2) < 5570) ∧ ((¬ (m9 605 ((144 + (3 * x3)) + 2)) = 1 → (R32 (x3 + 1)) ∧ VM E mX12_isAsFound (k + 1) m9 4 [(0, aR 603), (1, aI p0), (2, aI 1), (3, aI (x3 + 1))] [] (retI Q)) ∧ ((m9 605 ((144 + (3 * x3)) + 2)) = 1 → (R32 (x3 + 1)) ∧ VM E mX12_isAsFound (k + 1) m9 4 [(0, aR 603), (1, aI p0), (2, aI 0), (3, aI (x3 + 1))] [] (retI Q)))) ∧ (¬ r10 = (-1) → (R32 ((144 + (3 * x3)) + 2)) ∧ (0 ≤ ((144 + (3 * x3)) + 2) ∧ ((144 + (3 * x3)) + 2) < 5570) ∧ ((¬ (m9 605 ((144 + (3 * x3)) + 2)) = 1 → (R32 (x3 + 1)) ∧ VM E mX12_isAsFound (k + 1) m9 4 [(0, aR 603), (1, aI p0), (2, aI 0), (3, aI (x3 + 1))] [] (retI Q)) ∧ ((m9 605 ((144 + (3 * x3)) + 2)) = 1 → (R32 (x3 + 1)) ∧ VM E mX12_isAsFound (k + 1) m9 4 [(0, aR 603), (1, aI p0), (2, aI 1), (3, aI (x3 + 1))] [] (retI Q)))))))))))))) :
    VM E mX12_isAsFound (k + 1) mem 4 [(0, aR 603), (1, aI p0), (2, aI x2), (3, aI x3)] [] (retI Q) := by
  refine v_iload_n (pc := 4) dX12_isAsFound_4 3 rfl ?_
  refine v_aload_n (pc := 5) dX12_isAsFound_5 0 rfl ?_
  refine m_getfin (pc := 6) (v := 605) hE dX12_isAsFound_6 flX12_13 rfl at603 rfl ?_
  refine v_iconst (pc := 9) dX12_isAsFound_9 (by decide) ?_
  refine m_iald (pc := 10) (v := (mem 605 0)) dX12_isAsFound_10 at605 (by omega) (by omega) rfl ?_
  refine v_icmpge (pc := 11) (tgt := 93) dX12_isAsFound_11 (by decide) (fun c1 => ?_) (fun c1 => ?_)
  · have h := h.1 c1
    refine v_iload_n (pc := 93) dX12_isAsFound_93 2 rfl ?_
    obtain ⟨o1, h⟩ := h
    exact m_retZ (pc := 94) dX12_isAsFound_94 rfl o1 h
  · have h := h.2 c1
    refine v_sipush (pc := 14) dX12_isAsFound_14 (by decide) ?_
    refine v_iconst (pc := 17) dX12_isAsFound_17 (by decide) ?_
    refine v_iload_n (pc := 18) dX12_isAsFound_18 3 rfl ?_
    obtain ⟨o2, h⟩ := h
    refine m_imul (pc := 19) dX12_isAsFound_19 o2 ?_
    obtain ⟨o3, h⟩ := h
    refine m_iadd (pc := 20) dX12_isAsFound_20 o3 ?_
    refine v_istore (pc := 21) (al2 := [(4, aI (144 + (3 * x3))), (0, aR 603), (1, aI p0), (2, aI x2), (3, aI x3)]) dX12_isAsFound_21 (by decide) rfl ?_
    refine v_iload_n (pc := 23) dX12_isAsFound_23 3 rfl ?_
    refine v_ifeq (pc := 24) (tgt := 85) dX12_isAsFound_24 (by decide) (fun c1 => ?_) (fun c1 => ?_)
    · have h := h.1 c1
      refine v_iconst (pc := 85) dX12_isAsFound_85 (by decide) ?_
      refine v_istore_n (pc := 86) (al2 := [(2, aI 0), (4, aI (144 + (3 * x3))), (0, aR 603), (1, aI p0), (3, aI x3)]) dX12_isAsFound_86 (by decide) rfl ?_
      obtain ⟨o4, h⟩ := h
      refine m_iinc (pc := 87) (al2 := [(3, aI (x3 + 1)), (2, aI 0), (4, aI (144 + (3 * x3))), (0, aR 603), (1, aI p0)]) dX12_isAsFound_87 4 rfl (by decide) o4 rfl ?_
      refine v_goto (pc := 90) (tgt := 4) dX12_isAsFound_90 (by decide) ?_
      exact VG_sub (al' := [(0, aR 603), (1, aI p0), (2, aI 0), (3, aI (x3 + 1))]) [3, 4, 1, 0] rfl h
    · have h := h.2 c1
      refine v_aload_n (pc := 27) dX12_isAsFound_27 1 rfl ?_
      refine m_getfin (pc := 28) (v := 605) hE dX12_isAsFound_28 flX12_13 rfl at603 rfl ?_
      refine v_iload (pc := 31) dX12_isAsFound_31 0 rfl ?_
      obtain ⟨o5, h⟩ := h
      refine m_iald (pc := 33) (v := (mem 605 (144 + (3 * x3)))) dX12_isAsFound_33 at605 o5.1 o5.2 rfl ?_
      refine v_iload_n (pc := 34) dX12_isAsFound_34 2 rfl ?_
      refine v_icmpne (pc := 35) (tgt := 81) dX12_isAsFound_35 (by decide) (fun c1 => ?_) (fun c1 => ?_)
      · have h := h.1 c1
        refine v_iconst (pc := 81) dX12_isAsFound_81 (by decide) ?_
        refine v_goto (pc := 82) (tgt := 86) dX12_isAsFound_82 (by decide) ?_
        refine v_istore_n (pc := 86) (al2 := [(2, aI 1), (4, aI (144 + (3 * x3))), (0, aR 603), (1, aI p0), (3, aI x3)]) dX12_isAsFound_86 (by decide) rfl ?_
        obtain ⟨o6, h⟩ := h
        refine m_iinc (pc := 87) (al2 := [(3, aI (x3 + 1)), (2, aI 1), (4, aI (144 + (3 * x3))), (0, aR 603), (1, aI p0)]) dX12_isAsFound_87 4 rfl (by decide) o6 rfl ?_
        refine v_goto (pc := 90) (tgt := 4) dX12_isAsFound_90 (by decide) ?_
        exact VG_sub (al' := [(0, aR 603), (1, aI p0), (2, aI 1), (3, aI (x3 + 1))]) [3, 4, 1, 0] rfl h
      · have h := h.2 c1
        refine v_aload_n (pc := 38) dX12_isAsFound_38 1 rfl ?_
        refine v_aload_n (pc := 39) dX12_isAsFound_39 1 rfl ?_
        refine m_getfin (pc := 40) (v := 605) hE dX12_isAsFound_40 flX12_13 rfl at603 rfl ?_
        refine v_iload (pc := 43) dX12_isAsFound_43 0 rfl ?_
        refine v_iconst (pc := 45) dX12_isAsFound_45 (by decide) ?_
        obtain ⟨o7, h⟩ := h
        refine m_iadd (pc := 46) dX12_isAsFound_46 o7 ?_
        obtain ⟨o8, h⟩ := h
        refine m_iald (pc := 47) (v := (mem 605 ((144 + (3 * x3)) + 1))) dX12_isAsFound_47 at605 o8.1 o8.2 rfl ?_
        refine m_invI (pc := 48) (mi' := mX12_plotIn) (rest := []) [aI (mem 605 ((144 + (3 * x3)) + 1))] dX12_isAsFound_48 at603 (by decide) rfl msX12_plotIn mvX12_plotIn lkX12_203 rfl (Nat.le_of_ble_eq_true rfl) (fun hn => CI_mono (h (aaI hn 1 rfl)) (fun r10 m9 h => ?_))
        refine v_iconst (pc := 51) dX12_isAsFound_51 (by decide) ?_
        refine v_icmpeq (pc := 52) (tgt := 59) dX12_isAsFound_52 (by decide) (fun c1 => ?_) (fun c1 => ?_)
        · have h := h.1 c1
          refine v_iconst (pc := 59) dX12_isAsFound_59 (by decide) ?_
          refine v_aload_n (pc := 60) dX12_isAsFound_60 1 rfl ?_
          refine m_getfin (pc := 61) (v := 605) hE dX12_isAsFound_61 flX12_13 rfl at603 rfl ?_
          refine v_iload (pc := 64) dX12_isAsFound_64 0 rfl ?_
          refine v_iconst (pc := 66) dX12_isAsFound_66 (by decide) ?_
          obtain ⟨o11, h⟩ := h
          refine m_iadd (pc := 67) dX12_isAsFound_67 o11 ?_
          obtain ⟨o12, h⟩ := h
          refine m_iald (pc := 68) (v := (m9 605 ((144 + (3 * x3)) + 2))) dX12_isAsFound_68 at605 o12.1 o12.2 rfl ?_
          refine v_iconst (pc := 69) dX12_isAsFound_69 (by decide) ?_
          refine v_icmpne (pc := 70) (tgt := 77) dX12_isAsFound_70 (by decide) (fun c1 => ?_) (fun c1 => ?_)
          · have h := h.1 c1
            refine v_iconst (pc := 77) dX12_isAsFound_77 (by decide) ?_
            refine v_icmpne (pc := 78) (tgt := 85) dX12_isAsFound_78 (by decide) (fun c1 => absurd c1 (by decide)) (fun c1 => ?_)
            refine v_iconst (pc := 81) dX12_isAsFound_81 (by decide) ?_
            refine v_goto (pc := 82) (tgt := 86) dX12_isAsFound_82 (by decide) ?_
            refine v_istore_n (pc := 86) (al2 := [(2, aI 1), (4, aI (144 + (3 * x3))), (0, aR 603), (1, aI p0), (3, aI x3)]) dX12_isAsFound_86 (by decide) rfl ?_
            obtain ⟨o13, h⟩ := h
            refine m_iinc (pc := 87) (al2 := [(3, aI (x3 + 1)), (2, aI 1), (4, aI (144 + (3 * x3))), (0, aR 603), (1, aI p0)]) dX12_isAsFound_87 4 rfl (by decide) o13 rfl ?_
            refine v_goto (pc := 90) (tgt := 4) dX12_isAsFound_90 (by decide) ?_
            exact VG_sub (al' := [(0, aR 603), (1, aI p0), (2, aI 1), (3, aI (x3 + 1))]) [3, 4, 1, 0] rfl h
          · have h := h.2 c1
            refine v_iconst (pc := 73) dX12_isAsFound_73 (by decide) ?_
            refine v_goto (pc := 74) (tgt := 78) dX12_isAsFound_74 (by decide) ?_
            refine v_icmpne (pc := 78) (tgt := 85) dX12_isAsFound_78 (by decide) (fun c1 => ?_) (fun c1 => absurd c1 (by decide))
            refine v_iconst (pc := 85) dX12_isAsFound_85 (by decide) ?_
            refine v_istore_n (pc := 86) (al2 := [(2, aI 0), (4, aI (144 + (3 * x3))), (0, aR 603), (1, aI p0), (3, aI x3)]) dX12_isAsFound_86 (by decide) rfl ?_
            obtain ⟨o14, h⟩ := h
            refine m_iinc (pc := 87) (al2 := [(3, aI (x3 + 1)), (2, aI 0), (4, aI (144 + (3 * x3))), (0, aR 603), (1, aI p0)]) dX12_isAsFound_87 4 rfl (by decide) o14 rfl ?_
            refine v_goto (pc := 90) (tgt := 4) dX12_isAsFound_90 (by decide) ?_
            exact VG_sub (al' := [(0, aR 603), (1, aI p0), (2, aI 0), (3, aI (x3 + 1))]) [3, 4, 1, 0] rfl h
        · have h := h.2 c1
          refine v_iconst (pc := 55) dX12_isAsFound_55 (by decide) ?_
          refine v_goto (pc := 56) (tgt := 60) dX12_isAsFound_56 (by decide) ?_
          refine v_aload_n (pc := 60) dX12_isAsFound_60 1 rfl ?_
          refine m_getfin (pc := 61) (v := 605) hE dX12_isAsFound_61 flX12_13 rfl at603 rfl ?_
          refine v_iload (pc := 64) dX12_isAsFound_64 0 rfl ?_
          refine v_iconst (pc := 66) dX12_isAsFound_66 (by decide) ?_
          obtain ⟨o15, h⟩ := h
          refine m_iadd (pc := 67) dX12_isAsFound_67 o15 ?_
          obtain ⟨o16, h⟩ := h
          refine m_iald (pc := 68) (v := (m9 605 ((144 + (3 * x3)) + 2))) dX12_isAsFound_68 at605 o16.1 o16.2 rfl ?_
          refine v_iconst (pc := 69) dX12_isAsFound_69 (by decide) ?_
          refine v_icmpne (pc := 70) (tgt := 77) dX12_isAsFound_70 (by decide) (fun c1 => ?_) (fun c1 => ?_)
          · have h := h.1 c1
            refine v_iconst (pc := 77) dX12_isAsFound_77 (by decide) ?_
            refine v_icmpne (pc := 78) (tgt := 85) dX12_isAsFound_78 (by decide) (fun c1 => ?_) (fun c1 => absurd c1 (by decide))
            refine v_iconst (pc := 85) dX12_isAsFound_85 (by decide) ?_
            refine v_istore_n (pc := 86) (al2 := [(2, aI 0), (4, aI (144 + (3 * x3))), (0, aR 603), (1, aI p0), (3, aI x3)]) dX12_isAsFound_86 (by decide) rfl ?_
            obtain ⟨o17, h⟩ := h
            refine m_iinc (pc := 87) (al2 := [(3, aI (x3 + 1)), (2, aI 0), (4, aI (144 + (3 * x3))), (0, aR 603), (1, aI p0)]) dX12_isAsFound_87 4 rfl (by decide) o17 rfl ?_
            refine v_goto (pc := 90) (tgt := 4) dX12_isAsFound_90 (by decide) ?_
            exact VG_sub (al' := [(0, aR 603), (1, aI p0), (2, aI 0), (3, aI (x3 + 1))]) [3, 4, 1, 0] rfl h
          · have h := h.2 c1
            refine v_iconst (pc := 73) dX12_isAsFound_73 (by decide) ?_
            refine v_goto (pc := 74) (tgt := 78) dX12_isAsFound_74 (by decide) ?_
            refine v_icmpne (pc := 78) (tgt := 85) dX12_isAsFound_78 (by decide) (fun c1 => absurd c1 (by decide)) (fun c1 => ?_)
            refine v_iconst (pc := 81) dX12_isAsFound_81 (by decide) ?_
            refine v_goto (pc := 82) (tgt := 86) dX12_isAsFound_82 (by decide) ?_
            refine v_istore_n (pc := 86) (al2 := [(2, aI 1), (4, aI (144 + (3 * x3))), (0, aR 603), (1, aI p0), (3, aI x3)]) dX12_isAsFound_86 (by decide) rfl ?_
            obtain ⟨o18, h⟩ := h
            refine m_iinc (pc := 87) (al2 := [(3, aI (x3 + 1)), (2, aI 1), (4, aI (144 + (3 * x3))), (0, aR 603), (1, aI p0)]) dX12_isAsFound_87 4 rfl (by decide) o18 rfl ?_
            refine v_goto (pc := 90) (tgt := 4) dX12_isAsFound_90 (by decide) ?_
            exact VG_sub (al' := [(0, aR 603), (1, aI p0), (2, aI 1), (3, aI (x3 + 1))]) [3, 4, 1, 0] rfl h

theorem dX12_isHidden_0 : decode cX12_isHidden 0 = .ok (.aload_n 0, 1) := by decide +kernel
theorem dX12_isHidden_1 : decode cX12_isHidden 1 = .ok (.getfield 13, 3) := by decide +kernel
theorem dX12_isHidden_4 : decode cX12_isHidden 4 = .ok (.bipush 80, 2) := by decide +kernel
theorem dX12_isHidden_6 : decode cX12_isHidden 6 = .ok (.iload_n 1, 1) := by decide +kernel
theorem dX12_isHidden_7 : decode cX12_isHidden 7 = .ok (.iadd, 1) := by decide +kernel
theorem dX12_isHidden_8 : decode cX12_isHidden 8 = .ok (.iaload, 1) := by decide +kernel
theorem dX12_isHidden_9 : decode cX12_isHidden 9 = .ok (.ifCond .ne 12, 3) := by decide +kernel
theorem dX12_isHidden_12 : decode cX12_isHidden 12 = .ok (.aload_n 0, 1) := by decide +kernel
theorem dX12_isHidden_13 : decode cX12_isHidden 13 = .ok (.iload_n 1, 1) := by decide +kernel
theorem dX12_isHidden_14 : decode cX12_isHidden 14 = .ok (.invokevirtual 203, 3) := by decide +kernel
theorem dX12_isHidden_17 : decode cX12_isHidden 17 = .ok (.iconst (-1), 1) := by decide +kernel
theorem dX12_isHidden_18 : decode cX12_isHidden 18 = .ok (.if_icmp .eq 5, 3) := by decide +kernel
theorem dX12_isHidden_21 : decode cX12_isHidden 21 = .ok (.iconst 0, 1) := by decide +kernel
theorem dX12_isHidden_22 : decode cX12_isHidden 22 = .ok (.ireturn, 1) := by decide +kernel
theorem dX12_isHidden_23 : decode cX12_isHidden 23 = .ok (.iconst 0, 1) := by decide +kernel
theorem dX12_isHidden_24 : decode cX12_isHidden 24 = .ok (.istore_n 2, 1) := by decide +kernel
theorem dX12_isHidden_25 : decode cX12_isHidden 25 = .ok (.iconst 0, 1) := by decide +kernel
theorem dX12_isHidden_26 : decode cX12_isHidden 26 = .ok (.istore_n 3, 1) := by decide +kernel
theorem dX12_isHidden_27 : decode cX12_isHidden 27 = .ok (.iload_n 3, 1) := by decide +kernel
theorem dX12_isHidden_28 : decode cX12_isHidden 28 = .ok (.aload_n 0, 1) := by decide +kernel
theorem dX12_isHidden_29 : decode cX12_isHidden 29 = .ok (.getfield 13, 3) := by decide +kernel
theorem dX12_isHidden_32 : decode cX12_isHidden 32 = .ok (.iconst 0, 1) := by decide +kernel
theorem dX12_isHidden_33 : decode cX12_isHidden 33 = .ok (.iaload, 1) := by decide +kernel
theorem dX12_isHidden_34 : decode cX12_isHidden 34 = .ok (.if_icmp .ge 42, 3) := by decide +kernel
theorem dX12_isHidden_37 : decode cX12_isHidden 37 = .ok (.aload_n 0, 1) := by decide +kernel
theorem dX12_isHidden_38 : decode cX12_isHidden 38 = .ok (.getfield 13, 3) := by decide +kernel
theorem dX12_isHidden_41 : decode cX12_isHidden 41 = .ok (.sipush 144, 3) := by decide +kernel
theorem dX12_isHidden_44 : decode cX12_isHidden 44 = .ok (.iconst 3, 1) := by decide +kernel
theorem dX12_isHidden_45 : decode cX12_isHidden 45 = .ok (.iload_n 3, 1) := by decide +kernel
theorem dX12_isHidden_46 : decode cX12_isHidden 46 = .ok (.imul, 1) := by decide +kernel
theorem dX12_isHidden_47 : decode cX12_isHidden 47 = .ok (.iadd, 1) := by decide +kernel
theorem dX12_isHidden_48 : decode cX12_isHidden 48 = .ok (.iaload, 1) := by decide +kernel
theorem dX12_isHidden_49 : decode cX12_isHidden 49 = .ok (.iload_n 2, 1) := by decide +kernel
theorem dX12_isHidden_50 : decode cX12_isHidden 50 = .ok (.if_icmp .le 18, 3) := by decide +kernel
theorem dX12_isHidden_53 : decode cX12_isHidden 53 = .ok (.aload_n 0, 1) := by decide +kernel
theorem dX12_isHidden_54 : decode cX12_isHidden 54 = .ok (.getfield 13, 3) := by decide +kernel
theorem dX12_isHidden_57 : decode cX12_isHidden 57 = .ok (.sipush 144, 3) := by decide +kernel
theorem dX12_isHidden_60 : decode cX12_isHidden 60 = .ok (.iconst 3, 1) := by decide +kernel
theorem dX12_isHidden_61 : decode cX12_isHidden 61 = .ok (.iload_n 3, 1) := by decide +kernel
theorem dX12_isHidden_62 : decode cX12_isHidden 62 = .ok (.imul, 1) := by decide +kernel
theorem dX12_isHidden_63 : decode cX12_isHidden 63 = .ok (.iadd, 1) := by decide +kernel
theorem dX12_isHidden_64 : decode cX12_isHidden 64 = .ok (.iaload, 1) := by decide +kernel
theorem dX12_isHidden_65 : decode cX12_isHidden 65 = .ok (.goto 4, 3) := by decide +kernel
theorem dX12_isHidden_68 : decode cX12_isHidden 68 = .ok (.iload_n 2, 1) := by decide +kernel
theorem dX12_isHidden_69 : decode cX12_isHidden 69 = .ok (.istore_n 2, 1) := by decide +kernel
theorem dX12_isHidden_70 : decode cX12_isHidden 70 = .ok (.iinc 3 1, 3) := by decide +kernel
theorem dX12_isHidden_73 : decode cX12_isHidden 73 = .ok (.goto (-46), 3) := by decide +kernel
theorem dX12_isHidden_76 : decode cX12_isHidden 76 = .ok (.aload_n 0, 1) := by decide +kernel
theorem dX12_isHidden_77 : decode cX12_isHidden 77 = .ok (.bipush 16, 2) := by decide +kernel
theorem dX12_isHidden_79 : decode cX12_isHidden 79 = .ok (.invokevirtual 171, 3) := by decide +kernel
theorem dX12_isHidden_82 : decode cX12_isHidden 82 = .ok (.aload_n 0, 1) := by decide +kernel
theorem dX12_isHidden_83 : decode cX12_isHidden 83 = .ok (.iconst 0, 1) := by decide +kernel
theorem dX12_isHidden_84 : decode cX12_isHidden 84 = .ok (.iload_n 1, 1) := by decide +kernel
theorem dX12_isHidden_85 : decode cX12_isHidden 85 = .ok (.iconst 0, 1) := by decide +kernel
theorem dX12_isHidden_86 : decode cX12_isHidden 86 = .ok (.invokevirtual 447, 3) := by decide +kernel
theorem dX12_isHidden_89 : decode cX12_isHidden 89 = .ok (.aload_n 0, 1) := by decide +kernel
theorem dX12_isHidden_90 : decode cX12_isHidden 90 = .ok (.iconst 0, 1) := by decide +kernel
theorem dX12_isHidden_91 : decode cX12_isHidden 91 = .ok (.invokevirtual 505, 3) := by decide +kernel
theorem dX12_isHidden_94 : decode cX12_isHidden 94 = .ok (.istore_n 3, 1) := by decide +kernel
theorem dX12_isHidden_95 : decode cX12_isHidden 95 = .ok (.iconst 1, 1) := by decide +kernel
theorem dX12_isHidden_96 : decode cX12_isHidden 96 = .ok (.istore 4, 2) := by decide +kernel
theorem dX12_isHidden_98 : decode cX12_isHidden 98 = .ok (.iload 4, 2) := by decide +kernel
theorem dX12_isHidden_100 : decode cX12_isHidden 100 = .ok (.iload_n 2, 1) := by decide +kernel
theorem dX12_isHidden_101 : decode cX12_isHidden 101 = .ok (.if_icmp .gt 25, 3) := by decide +kernel
theorem dX12_isHidden_104 : decode cX12_isHidden 104 = .ok (.iload_n 3, 1) := by decide +kernel
theorem dX12_isHidden_105 : decode cX12_isHidden 105 = .ok (.ifCond .eq 21, 3) := by decide +kernel
theorem dX12_isHidden_108 : decode cX12_isHidden 108 = .ok (.aload_n 0, 1) := by decide +kernel
theorem dX12_isHidden_109 : decode cX12_isHidden 109 = .ok (.invokevirtual 470, 3) := by decide +kernel
theorem dX12_isHidden_112 : decode cX12_isHidden 112 = .ok (.pop, 1) := by decide +kernel
theorem dX12_isHidden_113 : decode cX12_isHidden 113 = .ok (.aload_n 0, 1) := by decide +kernel
theorem dX12_isHidden_114 : decode cX12_isHidden 114 = .ok (.iload 4, 2) := by decide +kernel
theorem dX12_isHidden_116 : decode cX12_isHidden 116 = .ok (.invokevirtual 505, 3) := by decide +kernel
theorem dX12_isHidden_119 : decode cX12_isHidden 119 = .ok (.istore_n 3, 1) := by decide +kernel
theorem dX12_isHidden_120 : decode cX12_isHidden 120 = .ok (.iinc 4 1, 3) := by decide +kernel
theorem dX12_isHidden_123 : decode cX12_isHidden 123 = .ok (.goto (-25), 3) := by decide +kernel
theorem dX12_isHidden_126 : decode cX12_isHidden 126 = .ok (.aload_n 0, 1) := by decide +kernel
theorem dX12_isHidden_127 : decode cX12_isHidden 127 = .ok (.bipush 16, 2) := by decide +kernel
theorem dX12_isHidden_129 : decode cX12_isHidden 129 = .ok (.invokevirtual 179, 3) := by decide +kernel
theorem dX12_isHidden_132 : decode cX12_isHidden 132 = .ok (.iload_n 3, 1) := by decide +kernel
theorem dX12_isHidden_133 : decode cX12_isHidden 133 = .ok (.ireturn, 1) := by decide +kernel
set_option maxRecDepth 20000 in
theorem rX12_isHidden_0 {E : EN} (hE : Ep E) {k : Nat} {mem : Mm} {Q : Int → Mm → Prop} {p0 : Int}
    (h : (R32 (80 + p0)) ∧ (0 ≤ (80 + p0) ∧ (80 + p0) < 5570) ∧ ((¬ (mem 605 (80 + p0)) = 0 → Q 0 mem) ∧ ((mem 605 (80 + p0)) = 0 → (R32 p0 → CI E mX12_plotIn k mem [aR 603, aI p0] (fun r4 m3 => ((r4 = (-1) → VM E mX12_isHidden (k + 1) m3 27 [(0, aR 603), (1, aI p0), (2, aI 0), (3, aI 0)] [] (retI Q)) ∧ (¬ r4 = (-1) → Q 0 m3))))))) :
    VM E mX12_isHidden (k + 1) mem 0 [(0, aR 603), (1, aI p0)] [] (retI Q) := by
  refine v_aload_n (pc := 0) dX12_isHidden_0 0 rfl ?_
  refine m_getfin (pc := 1) (v := 605) hE dX12_isHidden_1 flX12_13 rfl at603 rfl ?_
  refine v_bipush (pc := 4) dX12_isHidden_4 (by decide) ?_
  refine v_iload_n (pc := 6) dX12_isHidden_6 1 rfl ?_
  obtain ⟨o1, h⟩ := h
  refine m_iadd (pc := 7) dX12_isHidden_7 o1 ?_
  obtain ⟨o2, h⟩ := h
  refine m_iald (pc := 8) (v := (mem 605 (80 + p0))) dX12_isHidden_8 at605 o2.1 o2.2 rfl ?_
  refine v_ifne (pc := 9) (tgt := 21) dX12_isHidden_9 (by decide) (fun c1 => ?_) (fun c1 => ?_)
  · have h := h.1 c1
    refine v_iconst (pc := 21) dX12_isHidden_21 (by decide) ?_
    exact m_retZ (pc := 22) dX12_isHidden_22 rfl (by decide) h
  · have h := h.2 c1
    refine v_aload_n (pc := 12) dX12_isHidden_12 0 rfl ?_
    refine v_iload_n (pc := 13) dX12_isHidden_13 1 rfl ?_
    refine m_invI (pc := 14) (mi' := mX12_plotIn) (rest := []) [aI p0] dX12_isHidden_14 at603 (by decide) rfl msX12_plotIn mvX12_plotIn lkX12_203 rfl (Nat.le_of_ble_eq_true rfl) (fun hn => CI_mono (h (aaI hn 1 rfl)) (fun r4 m3 h => ?_))
    refine v_iconst (pc := 17) dX12_isHidden_17 (by decide) ?_
    refine v_icmpeq (pc := 18) (tgt := 23) dX12_isHidden_18 (by decide) (fun c1 => ?_) (fun c1 => ?_)
    · have h := h.1 c1
      refine v_iconst (pc := 23) dX12_isHidden_23 (by decide) ?_
      refine v_istore_n (pc := 24) (al2 := [(2, aI 0), (0, aR 603), (1, aI p0)]) dX12_isHidden_24 (by decide) rfl ?_
      refine v_iconst (pc := 25) dX12_isHidden_25 (by decide) ?_
      refine v_istore_n (pc := 26) (al2 := [(3, aI 0), (2, aI 0), (0, aR 603), (1, aI p0)]) dX12_isHidden_26 (by decide) rfl ?_
      exact VG_sub (al' := [(0, aR 603), (1, aI p0), (2, aI 0), (3, aI 0)]) [2, 3, 1, 0] rfl h
    · have h := h.2 c1
      refine v_iconst (pc := 21) dX12_isHidden_21 (by decide) ?_
      exact m_retZ (pc := 22) dX12_isHidden_22 rfl (by decide) h
theorem eX12_isHidden {E : EN} {k : Nat} {mem : Mm} {Q : Int → Mm → Prop} {p0 : Int} (hr_p0 : R32 p0) (h : VM E mX12_isHidden (k + 1) mem 0 [(0, aR 603), (1, aI p0)] [] (retI Q)) : CI E mX12_isHidden (k + 1) mem [aR 603, aI p0] Q := CI_of rfl (Nat.le_of_ble_eq_true rfl) h (aNs_c (aNr_R _) (aNs_c (aNr_I hr_p0) (fun _ q => nomatch q)))
set_option maxRecDepth 20000 in
theorem rX12_isHidden_27 {E : EN} (hE : Ep E) {k : Nat} {mem : Mm} {Q : Int → Mm → Prop} {p0 x2 x3 : Int}
    (h : (((mem 605 0) ≤ x3 → (CV E mX12_keepAll k mem [aR 603, aI 16] (fun m1 => (R32 p0 → CV E mX12_lay k m1 [aR 603, aI 0, aI p0, aI 0] (fun m2 => (CI E mX12_isAsFound k m2 [aR 603, aI 0] (fun r4 m3 => VM E mX12_isHidden (k + 1) m3 98 [(0, aR 603), (2, aI x2), (3, aI r4), (4, aI 1)] [] (retI Q)))))))) ∧ (x3 < (mem 605 0) → (R32 (3 * x3)) ∧ (R32 (144 + (3 * x3))) ∧ (0 ≤ (144 + (3 * x3)) ∧ (144 + (3 * x3)) < 5570) ∧ (((mem 605 (144 + (3 * x3))) ≤ x2 → (R32 (x3 + 1)) ∧ VM E mX12_isHidden (k + 1) mem 27 [(0, aR 603), (1, aI p0), (2, aI x2), (3, aI (x3 + 1))] [] (retI Q)) ∧ (x2 < (mem 605 (144 + (3 * x3))) → (R32 (x3 + 1)) ∧ VM E mX12_isHidden (k + 1) mem 27 [(0, aR 603), (1, aI p0), (2, aI (mem 605 (144 + (3 * x3)))), (3, aI (x3 + 1))] [] (retI Q)))))) :
    VM E mX12_isHidden (k + 1) mem 27 [(0, aR 603), (1, aI p0), (2, aI x2), (3, aI x3)] [] (retI Q) := by
  refine v_iload_n (pc := 27) dX12_isHidden_27 3 rfl ?_
  refine v_aload_n (pc := 28) dX12_isHidden_28 0 rfl ?_
  refine m_getfin (pc := 29) (v := 605) hE dX12_isHidden_29 flX12_13 rfl at603 rfl ?_
  refine v_iconst (pc := 32) dX12_isHidden_32 (by decide) ?_
  refine m_iald (pc := 33) (v := (mem 605 0)) dX12_isHidden_33 at605 (by omega) (by omega) rfl ?_
  refine v_icmpge (pc := 34) (tgt := 76) dX12_isHidden_34 (by decide) (fun c1 => ?_) (fun c1 => ?_)
  · have h := h.1 c1
    refine v_aload_n (pc := 76) dX12_isHidden_76 0 rfl ?_
    refine v_bipush (pc := 77) dX12_isHidden_77 (by decide) ?_
    refine m_invV (pc := 79) (mi' := mX12_keepAll) (rest := []) [aI 16] dX12_isHidden_79 at603 (by decide) rfl msX12_keepAll mvX12_keepAll lkX12_171 rfl (Nat.le_of_ble_eq_true rfl) (fun hn => CV_mono (h) (fun m1 h => ?_))
    refine v_aload_n (pc := 82) dX12_isHidden_82 0 rfl ?_
    refine v_iconst (pc := 83) dX12_isHidden_83 (by decide) ?_
    refine v_iload_n (pc := 84) dX12_isHidden_84 1 rfl ?_
    refine v_iconst (pc := 85) dX12_isHidden_85 (by decide) ?_
    refine m_invV (pc := 86) (mi' := mX12_lay) (rest := []) [aI 0, aI p0, aI 0] dX12_isHidden_86 at603 (by decide) rfl msX12_lay mvX12_lay lkX12_447 rfl (Nat.le_of_ble_eq_true rfl) (fun hn => CV_mono (h (aaI hn 2 rfl)) (fun m2 h => ?_))
    refine v_aload_n (pc := 89) dX12_isHidden_89 0 rfl ?_
    refine v_iconst (pc := 90) dX12_isHidden_90 (by decide) ?_
    refine m_invI (pc := 91) (mi' := mX12_isAsFound) (rest := []) [aI 0] dX12_isHidden_91 at603 (by decide) rfl msX12_isAsFound mvX12_isAsFound lkX12_505 rfl (Nat.le_of_ble_eq_true rfl) (fun hn => CI_mono (h) (fun r4 m3 h => ?_))
    refine v_istore_n (pc := 94) (al2 := [(3, aI r4), (0, aR 603), (1, aI p0), (2, aI x2)]) dX12_isHidden_94 (by decide) rfl ?_
    refine v_iconst (pc := 95) dX12_isHidden_95 (by decide) ?_
    refine v_istore (pc := 96) (al2 := [(4, aI 1), (3, aI r4), (0, aR 603), (1, aI p0), (2, aI x2)]) dX12_isHidden_96 (by decide) rfl ?_
    exact VG_sub (al' := [(0, aR 603), (2, aI x2), (3, aI r4), (4, aI 1)]) [2, 4, 1, 0] rfl h
  · have h := h.2 c1
    refine v_aload_n (pc := 37) dX12_isHidden_37 0 rfl ?_
    refine m_getfin (pc := 38) (v := 605) hE dX12_isHidden_38 flX12_13 rfl at603 rfl ?_
    refine v_sipush (pc := 41) dX12_isHidden_41 (by decide) ?_
    refine v_iconst (pc := 44) dX12_isHidden_44 (by decide) ?_
    refine v_iload_n (pc := 45) dX12_isHidden_45 3 rfl ?_
    obtain ⟨o5, h⟩ := h
    refine m_imul (pc := 46) dX12_isHidden_46 o5 ?_
    obtain ⟨o6, h⟩ := h
    refine m_iadd (pc := 47) dX12_isHidden_47 o6 ?_
    obtain ⟨o7, h⟩ := h
    refine m_iald (pc := 48) (v := (mem 605 (144 + (3 * x3)))) dX12_isHidden_48 at605 o7.1 o7.2 rfl ?_
    refine v_iload_n (pc := 49) dX12_isHidden_49 2 rfl ?_
    refine v_icmple (pc := 50) (tgt := 68) dX12_isHidden_50 (by decide) (fun c1 => ?_) (fun c1 => ?_)
    · have h := h.1 c1
      refine v_iload_n (pc := 68) dX12_isHidden_68 2 rfl ?_
      refine v_istore_n (pc := 69) (al2 := [(2, aI x2), (0, aR 603), (1, aI p0), (3, aI x3)]) dX12_isHidden_69 (by decide) rfl ?_
      obtain ⟨o8, h⟩ := h
      refine m_iinc (pc := 70) (al2 := [(3, aI (x3 + 1)), (2, aI x2), (0, aR 603), (1, aI p0)]) dX12_isHidden_70 3 rfl (by decide) o8 rfl ?_
      refine v_goto (pc := 73) (tgt := 27) dX12_isHidden_73 (by decide) ?_
      exact VG_sub (al' := [(0, aR 603), (1, aI p0), (2, aI x2), (3, aI (x3 + 1))]) [2, 3, 1, 0] rfl h
    · have h := h.2 c1
      refine v_aload_n (pc := 53) dX12_isHidden_53 0 rfl ?_
      refine m_getfin (pc := 54) (v := 605) hE dX12_isHidden_54 flX12_13 rfl at603 rfl ?_
      refine v_sipush (pc := 57) dX12_isHidden_57 (by decide) ?_
      refine v_iconst (pc := 60) dX12_isHidden_60 (by decide) ?_
      refine v_iload_n (pc := 61) dX12_isHidden_61 3 rfl ?_
      refine m_imul (pc := 62) dX12_isHidden_62 o5 ?_
      refine m_iadd (pc := 63) dX12_isHidden_63 o6 ?_
      refine m_iald (pc := 64) (v := (mem 605 (144 + (3 * x3)))) dX12_isHidden_64 at605 o7.1 o7.2 rfl ?_
      refine v_goto (pc := 65) (tgt := 69) dX12_isHidden_65 (by decide) ?_
      refine v_istore_n (pc := 69) (al2 := [(2, aI (mem 605 (144 + (3 * x3)))), (0, aR 603), (1, aI p0), (3, aI x3)]) dX12_isHidden_69 (by decide) rfl ?_
      obtain ⟨o9, h⟩ := h
      refine m_iinc (pc := 70) (al2 := [(3, aI (x3 + 1)), (2, aI (mem 605 (144 + (3 * x3)))), (0, aR 603), (1, aI p0)]) dX12_isHidden_70 3 rfl (by decide) o9 rfl ?_
      refine v_goto (pc := 73) (tgt := 27) dX12_isHidden_73 (by decide) ?_
      exact VG_sub (al' := [(0, aR 603), (1, aI p0), (2, aI (mem 605 (144 + (3 * x3)))), (3, aI (x3 + 1))]) [2, 3, 1, 0] rfl h
set_option maxRecDepth 20000 in
theorem rX12_isHidden_98 {E : EN} (hE : Ep E) {k : Nat} {mem : Mm} {Q : Int → Mm → Prop} {p0 x2 x3 x4 : Int}
    (h : ((x2 < x4 → (CV E mX12_putBack k mem [aR 603, aI 16] (fun m1 => (x3 = 0 ∨ x3 = 1) ∧ Q x3 m1))) ∧ (x4 ≤ x2 → ((x3 = 0 → (CV E mX12_putBack k mem [aR 603, aI 16] (fun m3 => (x3 = 0 ∨ x3 = 1) ∧ Q x3 m3))) ∧ (¬ x3 = 0 → (CI E mX12_passIt k mem [aR 603] (fun r6 m5 => (R32 x4 → CI E mX12_isAsFound k m5 [aR 603, aI x4] (fun r8 m7 => (R32 (x4 + 1)) ∧ VM E mX12_isHidden (k + 1) m7 98 [(0, aR 603), (2, aI x2), (3, aI r8), (4, aI (x4 + 1))] [] (retI Q)))))))))) :
    VM E mX12_isHidden (k + 1) mem 98 [(0, aR 603), (2, aI x2), (3, aI x3), (4, aI x4)] [] (retI Q) := by
  refine v_iload (pc := 98) dX12_isHidden_98 3 rfl ?_
  refine v_iload_n (pc := 100) dX12_isHidden_100 1 rfl ?_
  refine v_icmpgt (pc := 101) (tgt := 126) dX12_isHidden_101 (by decide) (fun c1 => ?_) (fun c1 => ?_)
  · have h := h.1 c1
    refine v_aload_n (pc := 126) dX12_isHidden_126 0 rfl ?_
    refine v_bipush (pc := 127) dX12_isHidden_127 (by decide) ?_
    refine m_invV (pc := 129) (mi' := mX12_putBack) (rest := []) [aI 16] dX12_isHidden_129 at603 (by decide) rfl msX12_putBack mvX12_putBack lkX12_179 rfl (Nat.le_of_ble_eq_true rfl) (fun hn => CV_mono (h) (fun m1 h => ?_))
    refine v_iload_n (pc := 132) dX12_isHidden_132 2 rfl ?_
    obtain ⟨o2, h⟩ := h
    exact m_retZ (pc := 133) dX12_isHidden_133 rfl o2 h
  · have h := h.2 c1
    refine v_iload_n (pc := 104) dX12_isHidden_104 2 rfl ?_
    refine v_ifeq (pc := 105) (tgt := 126) dX12_isHidden_105 (by decide) (fun c1 => ?_) (fun c1 => ?_)
    · have h := h.1 c1
      refine v_aload_n (pc := 126) dX12_isHidden_126 0 rfl ?_
      refine v_bipush (pc := 127) dX12_isHidden_127 (by decide) ?_
      refine m_invV (pc := 129) (mi' := mX12_putBack) (rest := []) [aI 16] dX12_isHidden_129 at603 (by decide) rfl msX12_putBack mvX12_putBack lkX12_179 rfl (Nat.le_of_ble_eq_true rfl) (fun hn => CV_mono (h) (fun m3 h => ?_))
      refine v_iload_n (pc := 132) dX12_isHidden_132 2 rfl ?_
      obtain ⟨o4, h⟩ := h
      exact m_retZ (pc := 133) dX12_isHidden_133 rfl o4 h
    · have h := h.2 c1
      refine v_aload_n (pc := 108) dX12_isHidden_108 0 rfl ?_
      refine m_invI (pc := 109) (mi' := mX12_passIt) (rest := []) [] dX12_isHidden_109 at603 (by decide) rfl msX12_passIt mvX12_passIt lkX12_470 rfl (Nat.le_of_ble_eq_true rfl) (fun hn => CI_mono (h) (fun r6 m5 h => ?_))
      refine v_pop (pc := 112) dX12_isHidden_112 rfl ?_
      refine v_aload_n (pc := 113) dX12_isHidden_113 0 rfl ?_
      refine v_iload (pc := 114) dX12_isHidden_114 3 rfl ?_
      refine m_invI (pc := 116) (mi' := mX12_isAsFound) (rest := []) [aI x4] dX12_isHidden_116 at603 (by decide) rfl msX12_isAsFound mvX12_isAsFound lkX12_505 rfl (Nat.le_of_ble_eq_true rfl) (fun hn => CI_mono (h (aaI hn 1 rfl)) (fun r8 m7 h => ?_))
      refine v_istore_n (pc := 119) (al2 := [(3, aI r8), (0, aR 603), (2, aI x2), (4, aI x4)]) dX12_isHidden_119 (by decide) rfl ?_
      obtain ⟨o9, h⟩ := h
      refine m_iinc (pc := 120) (al2 := [(4, aI (x4 + 1)), (3, aI r8), (0, aR 603), (2, aI x2)]) dX12_isHidden_120 3 rfl (by decide) o9 rfl ?_
      refine v_goto (pc := 123) (tgt := 98) dX12_isHidden_123 (by decide) ?_
      exact VG_sub (al' := [(0, aR 603), (2, aI x2), (3, aI r8), (4, aI (x4 + 1))]) [2, 3, 1, 0] rfl h
