theorem dX12_tells_0 : decode cX12_tells 0 = .ok (.aload_n 0, 1) := by decide +kernel
theorem dX12_tells_1 : decode cX12_tells 1 = .ok (.getfield 13, 3) := by decide +kernel
theorem dX12_tells_4 : decode cX12_tells 4 = .ok (.iconst 2, 1) := by decide +kernel
theorem dX12_tells_5 : decode cX12_tells 5 = .ok (.iaload, 1) := by decide +kernel
theorem dX12_tells_6 : decode cX12_tells 6 = .ok (.iconst (-1), 1) := by decide +kernel
theorem dX12_tells_7 : decode cX12_tells 7 = .ok (.if_icmp .ne 6, 3) := by decide +kernel
theorem dX12_tells_10 : decode cX12_tells 10 = .ok (.lload 5, 2) := by decide +kernel
theorem dX12_tells_12 : decode cX12_tells 12 = .ok (.lreturn, 1) := by decide +kernel
theorem dX12_tells_13 : decode cX12_tells 13 = .ok (.aload_n 0, 1) := by decide +kernel
theorem dX12_tells_14 : decode cX12_tells 14 = .ok (.sipush 170, 3) := by decide +kernel
theorem dX12_tells_17 : decode cX12_tells 17 = .ok (.sipush 900, 3) := by decide +kernel
theorem dX12_tells_20 : decode cX12_tells 20 = .ok (.aload_n 0, 1) := by decide +kernel
theorem dX12_tells_21 : decode cX12_tells 21 = .ok (.getfield 13, 3) := by decide +kernel
theorem dX12_tells_24 : decode cX12_tells 24 = .ok (.iconst 2, 1) := by decide +kernel
theorem dX12_tells_25 : decode cX12_tells 25 = .ok (.iaload, 1) := by decide +kernel
theorem dX12_tells_26 : decode cX12_tells 26 = .ok (.imul, 1) := by decide +kernel
theorem dX12_tells_27 : decode cX12_tells 27 = .ok (.iadd, 1) := by decide +kernel
theorem dX12_tells_28 : decode cX12_tells 28 = .ok (.putfield 392, 3) := by decide +kernel
theorem dX12_tells_31 : decode cX12_tells 31 = .ok (.aload_n 0, 1) := by decide +kernel
theorem dX12_tells_32 : decode cX12_tells 32 = .ok (.getfield 103, 3) := by decide +kernel
theorem dX12_tells_35 : decode cX12_tells 35 = .ok (.iconst 1, 1) := by decide +kernel
theorem dX12_tells_36 : decode cX12_tells 36 = .ok (.iload_n 2, 1) := by decide +kernel
theorem dX12_tells_37 : decode cX12_tells 37 = .ok (.i2l, 1) := by decide +kernel
theorem dX12_tells_38 : decode cX12_tells 38 = .ok (.lastore, 1) := by decide +kernel
theorem dX12_tells_39 : decode cX12_tells 39 = .ok (.aload_n 0, 1) := by decide +kernel
theorem dX12_tells_40 : decode cX12_tells 40 = .ok (.getfield 103, 3) := by decide +kernel
theorem dX12_tells_43 : decode cX12_tells 43 = .ok (.iconst 2, 1) := by decide +kernel
theorem dX12_tells_44 : decode cX12_tells 44 = .ok (.iload 4, 2) := by decide +kernel
theorem dX12_tells_46 : decode cX12_tells 46 = .ok (.i2l, 1) := by decide +kernel
theorem dX12_tells_47 : decode cX12_tells 47 = .ok (.lastore, 1) := by decide +kernel
theorem dX12_tells_48 : decode cX12_tells 48 = .ok (.aload_n 0, 1) := by decide +kernel
theorem dX12_tells_49 : decode cX12_tells 49 = .ok (.getfield 103, 3) := by decide +kernel
theorem dX12_tells_52 : decode cX12_tells 52 = .ok (.iconst 3, 1) := by decide +kernel
theorem dX12_tells_53 : decode cX12_tells 53 = .ok (.aload_n 0, 1) := by decide +kernel
theorem dX12_tells_54 : decode cX12_tells 54 = .ok (.getfield 13, 3) := by decide +kernel
theorem dX12_tells_57 : decode cX12_tells 57 = .ok (.bipush 80, 2) := by decide +kernel
theorem dX12_tells_59 : decode cX12_tells 59 = .ok (.iload 4, 2) := by decide +kernel
theorem dX12_tells_61 : decode cX12_tells 61 = .ok (.iadd, 1) := by decide +kernel
theorem dX12_tells_62 : decode cX12_tells 62 = .ok (.iaload, 1) := by decide +kernel
theorem dX12_tells_63 : decode cX12_tells 63 = .ok (.i2l, 1) := by decide +kernel
theorem dX12_tells_64 : decode cX12_tells 64 = .ok (.lastore, 1) := by decide +kernel
theorem dX12_tells_65 : decode cX12_tells 65 = .ok (.aload_n 0, 1) := by decide +kernel
theorem dX12_tells_66 : decode cX12_tells 66 = .ok (.getfield 103, 3) := by decide +kernel
theorem dX12_tells_69 : decode cX12_tells 69 = .ok (.iconst 4, 1) := by decide +kernel
theorem dX12_tells_70 : decode cX12_tells 70 = .ok (.aload_n 0, 1) := by decide +kernel
theorem dX12_tells_71 : decode cX12_tells 71 = .ok (.getfield 13, 3) := by decide +kernel
theorem dX12_tells_74 : decode cX12_tells 74 = .ok (.bipush 112, 2) := by decide +kernel
theorem dX12_tells_76 : decode cX12_tells 76 = .ok (.iload 4, 2) := by decide +kernel
theorem dX12_tells_78 : decode cX12_tells 78 = .ok (.iadd, 1) := by decide +kernel
theorem dX12_tells_79 : decode cX12_tells 79 = .ok (.iaload, 1) := by decide +kernel
theorem dX12_tells_80 : decode cX12_tells 80 = .ok (.i2l, 1) := by decide +kernel
theorem dX12_tells_81 : decode cX12_tells 81 = .ok (.lastore, 1) := by decide +kernel
theorem dX12_tells_82 : decode cX12_tells 82 = .ok (.aload_n 0, 1) := by decide +kernel
theorem dX12_tells_83 : decode cX12_tells 83 = .ok (.getfield 103, 3) := by decide +kernel
theorem dX12_tells_86 : decode cX12_tells 86 = .ok (.iconst 5, 1) := by decide +kernel
theorem dX12_tells_87 : decode cX12_tells 87 = .ok (.aload_n 0, 1) := by decide +kernel
theorem dX12_tells_88 : decode cX12_tells 88 = .ok (.getfield 13, 3) := by decide +kernel
theorem dX12_tells_91 : decode cX12_tells 91 = .ok (.bipush 48, 2) := by decide +kernel
theorem dX12_tells_93 : decode cX12_tells 93 = .ok (.iload 4, 2) := by decide +kernel
theorem dX12_tells_95 : decode cX12_tells 95 = .ok (.iadd, 1) := by decide +kernel
theorem dX12_tells_96 : decode cX12_tells 96 = .ok (.iaload, 1) := by decide +kernel
theorem dX12_tells_97 : decode cX12_tells 97 = .ok (.i2l, 1) := by decide +kernel
theorem dX12_tells_98 : decode cX12_tells 98 = .ok (.lastore, 1) := by decide +kernel
theorem dX12_tells_99 : decode cX12_tells 99 = .ok (.aload_n 0, 1) := by decide +kernel
theorem dX12_tells_100 : decode cX12_tells 100 = .ok (.getfield 103, 3) := by decide +kernel
theorem dX12_tells_103 : decode cX12_tells 103 = .ok (.bipush 6, 2) := by decide +kernel
theorem dX12_tells_105 : decode cX12_tells 105 = .ok (.iload_n 3, 1) := by decide +kernel
theorem dX12_tells_106 : decode cX12_tells 106 = .ok (.i2l, 1) := by decide +kernel
theorem dX12_tells_107 : decode cX12_tells 107 = .ok (.lastore, 1) := by decide +kernel
theorem dX12_tells_108 : decode cX12_tells 108 = .ok (.aload_n 0, 1) := by decide +kernel
theorem dX12_tells_109 : decode cX12_tells 109 = .ok (.getfield 103, 3) := by decide +kernel
theorem dX12_tells_112 : decode cX12_tells 112 = .ok (.bipush 7, 2) := by decide +kernel
theorem dX12_tells_114 : decode cX12_tells 114 = .ok (.iload_n 2, 1) := by decide +kernel
theorem dX12_tells_115 : decode cX12_tells 115 = .ok (.iconst (-1), 1) := by decide +kernel
theorem dX12_tells_116 : decode cX12_tells 116 = .ok (.if_icmp .ne 9, 3) := by decide +kernel
theorem dX12_tells_119 : decode cX12_tells 119 = .ok (.ldc2_w 268, 3) := by decide +kernel
theorem dX12_tells_122 : decode cX12_tells 122 = .ok (.goto 13, 3) := by decide +kernel
theorem dX12_tells_125 : decode cX12_tells 125 = .ok (.aload_n 0, 1) := by decide +kernel
theorem dX12_tells_126 : decode cX12_tells 126 = .ok (.getfield 13, 3) := by decide +kernel
theorem dX12_tells_129 : decode cX12_tells 129 = .ok (.bipush 28, 2) := by decide +kernel
theorem dX12_tells_131 : decode cX12_tells 131 = .ok (.iload_n 2, 1) := by decide +kernel
theorem dX12_tells_132 : decode cX12_tells 132 = .ok (.iadd, 1) := by decide +kernel
theorem dX12_tells_133 : decode cX12_tells 133 = .ok (.iaload, 1) := by decide +kernel
theorem dX12_tells_134 : decode cX12_tells 134 = .ok (.i2l, 1) := by decide +kernel
theorem dX12_tells_135 : decode cX12_tells 135 = .ok (.lastore, 1) := by decide +kernel
theorem dX12_tells_136 : decode cX12_tells 136 = .ok (.aload_n 0, 1) := by decide +kernel
theorem dX12_tells_137 : decode cX12_tells 137 = .ok (.getfield 103, 3) := by decide +kernel
theorem dX12_tells_140 : decode cX12_tells 140 = .ok (.bipush 8, 2) := by decide +kernel
theorem dX12_tells_142 : decode cX12_tells 142 = .ok (.iload_n 2, 1) := by decide +kernel
theorem dX12_tells_143 : decode cX12_tells 143 = .ok (.iconst (-1), 1) := by decide +kernel
theorem dX12_tells_144 : decode cX12_tells 144 = .ok (.if_icmp .ne 7, 3) := by decide +kernel
theorem dX12_tells_147 : decode cX12_tells 147 = .ok (.lconst 0, 1) := by decide +kernel
theorem dX12_tells_148 : decode cX12_tells 148 = .ok (.goto 13, 3) := by decide +kernel
theorem dX12_tells_151 : decode cX12_tells 151 = .ok (.aload_n 0, 1) := by decide +kernel
theorem dX12_tells_152 : decode cX12_tells 152 = .ok (.getfield 13, 3) := by decide +kernel
theorem dX12_tells_155 : decode cX12_tells 155 = .ok (.bipush 38, 2) := by decide +kernel
theorem dX12_tells_157 : decode cX12_tells 157 = .ok (.iload_n 2, 1) := by decide +kernel
theorem dX12_tells_158 : decode cX12_tells 158 = .ok (.iadd, 1) := by decide +kernel
theorem dX12_tells_159 : decode cX12_tells 159 = .ok (.iaload, 1) := by decide +kernel
theorem dX12_tells_160 : decode cX12_tells 160 = .ok (.i2l, 1) := by decide +kernel
theorem dX12_tells_161 : decode cX12_tells 161 = .ok (.lastore, 1) := by decide +kernel
theorem dX12_tells_162 : decode cX12_tells 162 = .ok (.aload_n 0, 1) := by decide +kernel
theorem dX12_tells_163 : decode cX12_tells 163 = .ok (.getfield 103, 3) := by decide +kernel
theorem dX12_tells_166 : decode cX12_tells 166 = .ok (.bipush 9, 2) := by decide +kernel
theorem dX12_tells_168 : decode cX12_tells 168 = .ok (.aload_n 0, 1) := by decide +kernel
theorem dX12_tells_169 : decode cX12_tells 169 = .ok (.iconst 0, 1) := by decide +kernel
theorem dX12_tells_170 : decode cX12_tells 170 = .ok (.invokevirtual 412, 3) := by decide +kernel
theorem dX12_tells_173 : decode cX12_tells 173 = .ok (.i2l, 1) := by decide +kernel
theorem dX12_tells_174 : decode cX12_tells 174 = .ok (.lastore, 1) := by decide +kernel
theorem dX12_tells_175 : decode cX12_tells 175 = .ok (.aload_n 0, 1) := by decide +kernel
theorem dX12_tells_176 : decode cX12_tells 176 = .ok (.getfield 103, 3) := by decide +kernel
theorem dX12_tells_179 : decode cX12_tells 179 = .ok (.bipush 10, 2) := by decide +kernel
theorem dX12_tells_181 : decode cX12_tells 181 = .ok (.aload_n 0, 1) := by decide +kernel
theorem dX12_tells_182 : decode cX12_tells 182 = .ok (.iconst 3, 1) := by decide +kernel
theorem dX12_tells_183 : decode cX12_tells 183 = .ok (.invokevirtual 412, 3) := by decide +kernel
theorem dX12_tells_186 : decode cX12_tells 186 = .ok (.i2l, 1) := by decide +kernel
theorem dX12_tells_187 : decode cX12_tells 187 = .ok (.lastore, 1) := by decide +kernel
theorem dX12_tells_188 : decode cX12_tells 188 = .ok (.lload 5, 2) := by decide +kernel
theorem dX12_tells_190 : decode cX12_tells 190 = .ok (.lstore 7, 2) := by decide +kernel
theorem dX12_tells_192 : decode cX12_tells 192 = .ok (.iconst 0, 1) := by decide +kernel
theorem dX12_tells_193 : decode cX12_tells 193 = .ok (.istore 9, 2) := by decide +kernel
theorem dX12_tells_195 : decode cX12_tells 195 = .ok (.iload 9, 2) := by decide +kernel
theorem dX12_tells_197 : decode cX12_tells 197 = .ok (.aload_n 0, 1) := by decide +kernel
theorem dX12_tells_198 : decode cX12_tells 198 = .ok (.getfield 13, 3) := by decide +kernel
theorem dX12_tells_201 : decode cX12_tells 201 = .ok (.aload_n 0, 1) := by decide +kernel
theorem dX12_tells_202 : decode cX12_tells 202 = .ok (.getfield 392, 3) := by decide +kernel
theorem dX12_tells_205 : decode cX12_tells 205 = .ok (.iconst 1, 1) := by decide +kernel
theorem dX12_tells_206 : decode cX12_tells 206 = .ok (.iadd, 1) := by decide +kernel
theorem dX12_tells_207 : decode cX12_tells 207 = .ok (.iaload, 1) := by decide +kernel
theorem dX12_tells_208 : decode cX12_tells 208 = .ok (.if_icmp .ge 58, 3) := by decide +kernel
theorem dX12_tells_211 : decode cX12_tells 211 = .ok (.aload_n 0, 1) := by decide +kernel
theorem dX12_tells_212 : decode cX12_tells 212 = .ok (.getfield 392, 3) := by decide +kernel
theorem dX12_tells_215 : decode cX12_tells 215 = .ok (.iconst 2, 1) := by decide +kernel
theorem dX12_tells_216 : decode cX12_tells 216 = .ok (.iadd, 1) := by decide +kernel
theorem dX12_tells_217 : decode cX12_tells 217 = .ok (.bipush 8, 2) := by decide +kernel
theorem dX12_tells_219 : decode cX12_tells 219 = .ok (.iload 9, 2) := by decide +kernel
theorem dX12_tells_221 : decode cX12_tells 221 = .ok (.imul, 1) := by decide +kernel
theorem dX12_tells_222 : decode cX12_tells 222 = .ok (.iadd, 1) := by decide +kernel
theorem dX12_tells_223 : decode cX12_tells 223 = .ok (.istore 10, 2) := by decide +kernel
theorem dX12_tells_225 : decode cX12_tells 225 = .ok (.aload_n 0, 1) := by decide +kernel
theorem dX12_tells_226 : decode cX12_tells 226 = .ok (.getfield 13, 3) := by decide +kernel
theorem dX12_tells_229 : decode cX12_tells 229 = .ok (.iload 10, 2) := by decide +kernel
theorem dX12_tells_231 : decode cX12_tells 231 = .ok (.iaload, 1) := by decide +kernel
theorem dX12_tells_232 : decode cX12_tells 232 = .ok (.iload_n 1, 1) := by decide +kernel
theorem dX12_tells_233 : decode cX12_tells 233 = .ok (.if_icmp .ne 27, 3) := by decide +kernel
theorem dX12_tells_236 : decode cX12_tells 236 = .ok (.aload_n 0, 1) := by decide +kernel
theorem dX12_tells_237 : decode cX12_tells 237 = .ok (.iload 10, 2) := by decide +kernel
theorem dX12_tells_239 : decode cX12_tells 239 = .ok (.invokevirtual 415, 3) := by decide +kernel
theorem dX12_tells_242 : decode cX12_tells 242 = .ok (.ifCond .eq 18, 3) := by decide +kernel
theorem dX12_tells_245 : decode cX12_tells 245 = .ok (.iload_n 1, 1) := by decide +kernel
theorem dX12_tells_246 : decode cX12_tells 246 = .ok (.iconst 2, 1) := by decide +kernel
theorem dX12_tells_247 : decode cX12_tells 247 = .ok (.if_icmp .ge 10, 3) := by decide +kernel
theorem dX12_tells_250 : decode cX12_tells 250 = .ok (.aload_n 0, 1) := by decide +kernel
theorem dX12_tells_251 : decode cX12_tells 251 = .ok (.getfield 409, 3) := by decide +kernel
theorem dX12_tells_254 : decode cX12_tells 254 = .ok (.goto 4, 3) := by decide +kernel
theorem dX12_tells_257 : decode cX12_tells 257 = .ok (.lconst 1, 1) := by decide +kernel
theorem dX12_tells_258 : decode cX12_tells 258 = .ok (.lstore 7, 2) := by decide +kernel
theorem dX12_tells_260 : decode cX12_tells 260 = .ok (.iinc 9 1, 3) := by decide +kernel
theorem dX12_tells_263 : decode cX12_tells 263 = .ok (.goto (-68), 3) := by decide +kernel
theorem dX12_tells_266 : decode cX12_tells 266 = .ok (.lload 7, 2) := by decide +kernel
theorem dX12_tells_268 : decode cX12_tells 268 = .ok (.lreturn, 1) := by decide +kernel
set_option maxRecDepth 20000 in
theorem rX12_tells_0 {E : EN} (hE : Ep E) {k : Nat} {mem : Mm} {Q : Int → Mm → Prop} {p0 p1 p2 p3 p4 : Int}
    (h : ((¬ (mem 605 2) = (-1) → (R32 (900 * (mem 605 2))) ∧ (R32 (170 + (900 * (mem 605 2)))) ∧ (R32 (80 + p3)) ∧ (0 ≤ (80 + p3) ∧ (80 + p3) < 5570) ∧ (R32 (112 + p3)) ∧ (0 ≤ (112 + p3) ∧ (112 + p3) < 5570) ∧ (R32 (48 + p3)) ∧ (0 ≤ (48 + p3) ∧ (48 + p3) < 5570) ∧ ((¬ p1 = (-1) → (R32 (28 + p1)) ∧ (0 ≤ (28 + p1) ∧ (28 + p1) < 5570) ∧ ((¬ p1 = (-1) → (R32 (38 + p1)) ∧ (0 ≤ (38 + p1) ∧ (38 + p1) < 5570) ∧ (CI E mX12_term k (aUp (aUp (aUp (aUp (aUp (aUp (aUp (aUp (aUp mem 603 34 (170 + (900 * (mem 605 2)))) 621 1 p1) 621 2 p3) 621 3 (mem 605 (80 + p3))) 621 4 (mem 605 (112 + p3))) 621 5 (mem 605 (48 + p3))) 621 6 p2) 621 7 (mem 605 (28 + p1))) 621 8 (mem 605 (38 + p1))) [aR 603, aI 0] (fun r14 m13 => (CI E mX12_term k (aUp m13 621 9 r14) [aR 603, aI 3] (fun r16 m15 => VM E mX12_tells (k + 1) (aUp m15 621 10 r16) 195 [(0, aR 603), (1, aI p0), (7, aL p4), (9, aI 0)] [] (retL Q)))))) ∧ (p1 = (-1) → (CI E mX12_term k (aUp (aUp (aUp (aUp (aUp (aUp (aUp (aUp (aUp mem 603 34 (170 + (900 * (mem 605 2)))) 621 1 p1) 621 2 p3) 621 3 (mem 605 (80 + p3))) 621 4 (mem 605 (112 + p3))) 621 5 (mem 605 (48 + p3))) 621 6 p2) 621 7 (mem 605 (28 + p1))) 621 8 0) [aR 603, aI 0] (fun r18 m17 => (CI E mX12_term k (aUp m17 621 9 r18) [aR 603, aI 3] (fun r20 m19 => VM E mX12_tells (k + 1) (aUp m19 621 10 r20) 195 [(0, aR 603), (1, aI p0), (7, aL p4), (9, aI 0)] [] (retL Q)))))))) ∧ (p1 = (-1) → ((¬ p1 = (-1) → (R32 (38 + p1)) ∧ (0 ≤ (38 + p1) ∧ (38 + p1) < 5570) ∧ (CI E mX12_term k (aUp (aUp (aUp (aUp (aUp (aUp (aUp (aUp (aUp mem 603 34 (170 + (900 * (mem 605 2)))) 621 1 p1) 621 2 p3) 621 3 (mem 605 (80 + p3))) 621 4 (mem 605 (112 + p3))) 621 5 (mem 605 (48 + p3))) 621 6 p2) 621 7 (-1)) 621 8 (mem 605 (38 + p1))) [aR 603, aI 0] (fun r24 m23 => (CI E mX12_term k (aUp m23 621 9 r24) [aR 603, aI 3] (fun r26 m25 => VM E mX12_tells (k + 1) (aUp m25 621 10 r26) 195 [(0, aR 603), (1, aI p0), (7, aL p4), (9, aI 0)] [] (retL Q)))))) ∧ (p1 = (-1) → (CI E mX12_term k (aUp (aUp (aUp (aUp (aUp (aUp (aUp (aUp (aUp mem 603 34 (170 + (900 * (mem 605 2)))) 621 1 p1) 621 2 p3) 621 3 (mem 605 (80 + p3))) 621 4 (mem 605 (112 + p3))) 621 5 (mem 605 (48 + p3))) 621 6 p2) 621 7 (-1)) 621 8 0) [aR 603, aI 0] (fun r28 m27 => (CI E mX12_term k (aUp m27 621 9 r28) [aR 603, aI 3] (fun r30 m29 => VM E mX12_tells (k + 1) (aUp m29 621 10 r30) 195 [(0, aR 603), (1, aI p0), (7, aL p4), (9, aI 0)] [] (retL Q)))))))))) ∧ ((mem 605 2) = (-1) → Q p4 mem))) :
    VM E mX12_tells (k + 1) mem 0 [(0, aR 603), (1, aI p0), (2, aI p1), (3, aI p2), (4, aI p3), (5, aL p4)] [] (retL Q) := by
  refine v_aload_n (pc := 0) dX12_tells_0 0 rfl ?_
  refine m_getfin (pc := 1) (v := 605) hE dX12_tells_1 flX12_13 rfl at603 rfl ?_
  refine v_iconst (pc := 4) dX12_tells_4 (by decide) ?_
  refine m_iald (pc := 5) (v := (mem 605 2)) dX12_tells_5 at605 (by omega) (by omega) rfl ?_
  refine v_iconst (pc := 6) dX12_tells_6 (by decide) ?_
  refine v_icmpne (pc := 7) (tgt := 13) dX12_tells_7 (by decide) (fun c1 => ?_) (fun c1 => ?_)
  · have h := h.1 c1
    refine v_aload_n (pc := 13) dX12_tells_13 0 rfl ?_
    refine v_sipush (pc := 14) dX12_tells_14 (by decide) ?_
    refine v_sipush (pc := 17) dX12_tells_17 (by decide) ?_
    refine v_aload_n (pc := 20) dX12_tells_20 0 rfl ?_
    refine m_getfin (pc := 21) (v := 605) hE dX12_tells_21 flX12_13 rfl at603 rfl ?_
    refine v_iconst (pc := 24) dX12_tells_24 (by decide) ?_
    refine m_iald (pc := 25) (v := (mem 605 2)) dX12_tells_25 at605 (by omega) (by omega) rfl ?_
    obtain ⟨o1, h⟩ := h
    refine m_imul (pc := 26) dX12_tells_26 o1 ?_
    obtain ⟨o2, h⟩ := h
    refine m_iadd (pc := 27) dX12_tells_27 o2 ?_
    refine v_putf (pc := 28) dX12_tells_28 flX12_392 ⟨_, _, rfl, Or.inl rfl⟩ rfl (by decide) (fun q => nomatch q) (Or.inl fun _ => rfl) at603 ?_
    refine v_aload_n (pc := 31) dX12_tells_31 0 rfl ?_
    refine m_getfin (pc := 32) (v := 621) hE dX12_tells_32 flX12_103 rfl at603 rfl ?_
    refine v_iconst (pc := 35) dX12_tells_35 (by decide) ?_
    refine v_iload_n (pc := 36) dX12_tells_36 2 rfl ?_
    refine v_i2l (pc := 37) dX12_tells_37 ?_
    refine v_last (pc := 38) dX12_tells_38 at621 (by omega) (by omega) ?_
    refine v_aload_n (pc := 39) dX12_tells_39 0 rfl ?_
    refine m_getfin (pc := 40) (v := 621) hE dX12_tells_40 flX12_103 rfl at603 rfl ?_
    refine v_iconst (pc := 43) dX12_tells_43 (by decide) ?_
    refine v_iload (pc := 44) dX12_tells_44 4 rfl ?_
    refine v_i2l (pc := 46) dX12_tells_46 ?_
    refine v_last (pc := 47) dX12_tells_47 at621 (by omega) (by omega) ?_
    refine v_aload_n (pc := 48) dX12_tells_48 0 rfl ?_
    refine m_getfin (pc := 49) (v := 621) hE dX12_tells_49 flX12_103 rfl at603 rfl ?_
    refine v_iconst (pc := 52) dX12_tells_52 (by decide) ?_
    refine v_aload_n (pc := 53) dX12_tells_53 0 rfl ?_
    refine m_getfin (pc := 54) (v := 605) hE dX12_tells_54 flX12_13 rfl at603 rfl ?_
    refine v_bipush (pc := 57) dX12_tells_57 (by decide) ?_
    refine v_iload (pc := 59) dX12_tells_59 4 rfl ?_
    obtain ⟨o3, h⟩ := h
    refine m_iadd (pc := 61) dX12_tells_61 o3 ?_
    obtain ⟨o4, h⟩ := h
    refine m_iald (pc := 62) (v := (mem 605 (80 + p3))) dX12_tells_62 at605 o4.1 o4.2 ((aUp_rn (by omega)).trans ((aUp_rn (by omega)).trans (aUp_rn (by omega)))) ?_
    refine v_i2l (pc := 63) dX12_tells_63 ?_
    refine v_last (pc := 64) dX12_tells_64 at621 (by omega) (by omega) ?_
    refine v_aload_n (pc := 65) dX12_tells_65 0 rfl ?_
    refine m_getfin (pc := 66) (v := 621) hE dX12_tells_66 flX12_103 rfl at603 rfl ?_
    refine v_iconst (pc := 69) dX12_tells_69 (by decide) ?_
    refine v_aload_n (pc := 70) dX12_tells_70 0 rfl ?_
    refine m_getfin (pc := 71) (v := 605) hE dX12_tells_71 flX12_13 rfl at603 rfl ?_
    refine v_bipush (pc := 74) dX12_tells_74 (by decide) ?_
    refine v_iload (pc := 76) dX12_tells_76 4 rfl ?_
    obtain ⟨o5, h⟩ := h
    refine m_iadd (pc := 78) dX12_tells_78 o5 ?_
    obtain ⟨o6, h⟩ := h
    refine m_iald (pc := 79) (v := (mem 605 (112 + p3))) dX12_tells_79 at605 o6.1 o6.2 ((aUp_rn (by omega)).trans ((aUp_rn (by omega)).trans ((aUp_rn (by omega)).trans (aUp_rn (by omega))))) ?_
    refine v_i2l (pc := 80) dX12_tells_80 ?_
    refine v_last (pc := 81) dX12_tells_81 at621 (by omega) (by omega) ?_
    refine v_aload_n (pc := 82) dX12_tells_82 0 rfl ?_
    refine m_getfin (pc := 83) (v := 621) hE dX12_tells_83 flX12_103 rfl at603 rfl ?_
    refine v_iconst (pc := 86) dX12_tells_86 (by decide) ?_
    refine v_aload_n (pc := 87) dX12_tells_87 0 rfl ?_
    refine m_getfin (pc := 88) (v := 605) hE dX12_tells_88 flX12_13 rfl at603 rfl ?_
    refine v_bipush (pc := 91) dX12_tells_91 (by decide) ?_
    refine v_iload (pc := 93) dX12_tells_93 4 rfl ?_
    obtain ⟨o7, h⟩ := h
    refine m_iadd (pc := 95) dX12_tells_95 o7 ?_
    obtain ⟨o8, h⟩ := h
    refine m_iald (pc := 96) (v := (mem 605 (48 + p3))) dX12_tells_96 at605 o8.1 o8.2 ((aUp_rn (by omega)).trans ((aUp_rn (by omega)).trans ((aUp_rn (by omega)).trans ((aUp_rn (by omega)).trans (aUp_rn (by omega)))))) ?_
    refine v_i2l (pc := 97) dX12_tells_97 ?_
    refine v_last (pc := 98) dX12_tells_98 at621 (by omega) (by omega) ?_
    refine v_aload_n (pc := 99) dX12_tells_99 0 rfl ?_
    refine m_getfin (pc := 100) (v := 621) hE dX12_tells_100 flX12_103 rfl at603 rfl ?_
    refine v_bipush (pc := 103) dX12_tells_103 (by decide) ?_
    refine v_iload_n (pc := 105) dX12_tells_105 3 rfl ?_
    refine v_i2l (pc := 106) dX12_tells_106 ?_
    refine v_last (pc := 107) dX12_tells_107 at621 (by omega) (by omega) ?_
    refine v_aload_n (pc := 108) dX12_tells_108 0 rfl ?_
    refine m_getfin (pc := 109) (v := 621) hE dX12_tells_109 flX12_103 rfl at603 rfl ?_
    refine v_bipush (pc := 112) dX12_tells_112 (by decide) ?_
    refine v_iload_n (pc := 114) dX12_tells_114 2 rfl ?_
    refine v_iconst (pc := 115) dX12_tells_115 (by decide) ?_
    refine v_icmpne (pc := 116) (tgt := 125) dX12_tells_116 (by decide) (fun c1 => ?_) (fun c1 => ?_)
    · have h := h.1 c1
      refine v_aload_n (pc := 125) dX12_tells_125 0 rfl ?_
      refine m_getfin (pc := 126) (v := 605) hE dX12_tells_126 flX12_13 rfl at603 rfl ?_
      refine v_bipush (pc := 129) dX12_tells_129 (by decide) ?_
      refine v_iload_n (pc := 131) dX12_tells_131 2 rfl ?_
      obtain ⟨o9, h⟩ := h
      refine m_iadd (pc := 132) dX12_tells_132 o9 ?_
      obtain ⟨o10, h⟩ := h
      refine m_iald (pc := 133) (v := (mem 605 (28 + p1))) dX12_tells_133 at605 o10.1 o10.2 ((aUp_rn (by omega)).trans ((aUp_rn (by omega)).trans ((aUp_rn (by omega)).trans ((aUp_rn (by omega)).trans ((aUp_rn (by omega)).trans ((aUp_rn (by omega)).trans (aUp_rn (by omega)))))))) ?_
      refine v_i2l (pc := 134) dX12_tells_134 ?_
      refine v_last (pc := 135) dX12_tells_135 at621 (by omega) (by omega) ?_
      refine v_aload_n (pc := 136) dX12_tells_136 0 rfl ?_
      refine m_getfin (pc := 137) (v := 621) hE dX12_tells_137 flX12_103 rfl at603 rfl ?_
      refine v_bipush (pc := 140) dX12_tells_140 (by decide) ?_
      refine v_iload_n (pc := 142) dX12_tells_142 2 rfl ?_
      refine v_iconst (pc := 143) dX12_tells_143 (by decide) ?_
      refine v_icmpne (pc := 144) (tgt := 151) dX12_tells_144 (by decide) (fun c1 => ?_) (fun c1 => ?_)
      · have h := h.1 c1
        refine v_aload_n (pc := 151) dX12_tells_151 0 rfl ?_
        refine m_getfin (pc := 152) (v := 605) hE dX12_tells_152 flX12_13 rfl at603 rfl ?_
        refine v_bipush (pc := 155) dX12_tells_155 (by decide) ?_
        refine v_iload_n (pc := 157) dX12_tells_157 2 rfl ?_
        obtain ⟨o11, h⟩ := h
        refine m_iadd (pc := 158) dX12_tells_158 o11 ?_
        obtain ⟨o12, h⟩ := h
        refine m_iald (pc := 159) (v := (mem 605 (38 + p1))) dX12_tells_159 at605 o12.1 o12.2 ((aUp_rn (by omega)).trans ((aUp_rn (by omega)).trans ((aUp_rn (by omega)).trans ((aUp_rn (by omega)).trans ((aUp_rn (by omega)).trans ((aUp_rn (by omega)).trans ((aUp_rn (by omega)).trans (aUp_rn (by omega))))))))) ?_
        refine v_i2l (pc := 160) dX12_tells_160 ?_
        refine v_last (pc := 161) dX12_tells_161 at621 (by omega) (by omega) ?_
        refine v_aload_n (pc := 162) dX12_tells_162 0 rfl ?_
        refine m_getfin (pc := 163) (v := 621) hE dX12_tells_163 flX12_103 rfl at603 rfl ?_
        refine v_bipush (pc := 166) dX12_tells_166 (by decide) ?_
        refine v_aload_n (pc := 168) dX12_tells_168 0 rfl ?_
        refine v_iconst (pc := 169) dX12_tells_169 (by decide) ?_
        refine m_invI (pc := 170) (mi' := mX12_term) (rest := [aI 9, aR 621]) [aI 0] dX12_tells_170 at603 (by decide) rfl msX12_term mvX12_term lkX12_412 rfl (Nat.le_of_ble_eq_true rfl) (fun hn => CI_mono (h) (fun r14 m13 h => ?_))
        refine v_i2l (pc := 173) dX12_tells_173 ?_
        refine v_last (pc := 174) dX12_tells_174 at621 (by omega) (by omega) ?_
        refine v_aload_n (pc := 175) dX12_tells_175 0 rfl ?_
        refine m_getfin (pc := 176) (v := 621) hE dX12_tells_176 flX12_103 rfl at603 rfl ?_
        refine v_bipush (pc := 179) dX12_tells_179 (by decide) ?_
        refine v_aload_n (pc := 181) dX12_tells_181 0 rfl ?_
        refine v_iconst (pc := 182) dX12_tells_182 (by decide) ?_
        refine m_invI (pc := 183) (mi' := mX12_term) (rest := [aI 10, aR 621]) [aI 3] dX12_tells_183 at603 (by decide) rfl msX12_term mvX12_term lkX12_412 rfl (Nat.le_of_ble_eq_true rfl) (fun hn => CI_mono (h) (fun r16 m15 h => ?_))
        refine v_i2l (pc := 186) dX12_tells_186 ?_
        refine v_last (pc := 187) dX12_tells_187 at621 (by omega) (by omega) ?_
        refine v_lload (pc := 188) dX12_tells_188 5 rfl ?_
        refine v_lstore (pc := 190) (al2 := [(7, aL p4), (0, aR 603), (1, aI p0), (2, aI p1), (3, aI p2), (4, aI p3), (5, aL p4)]) dX12_tells_190 (by decide) rfl ?_
        refine v_iconst (pc := 192) dX12_tells_192 (by decide) ?_
        refine v_istore (pc := 193) (al2 := [(9, aI 0), (7, aL p4), (0, aR 603), (1, aI p0), (2, aI p1), (3, aI p2), (4, aI p3), (5, aL p4)]) dX12_tells_193 (by decide) rfl ?_
        exact VG_sub (al' := [(0, aR 603), (1, aI p0), (7, aL p4), (9, aI 0)]) [2, 3, 1, 0] rfl h
      · have h := h.2 c1
        refine v_lconst0 (pc := 147) dX12_tells_147 ?_
        refine v_goto (pc := 148) (tgt := 161) dX12_tells_148 (by decide) ?_
        refine v_last (pc := 161) dX12_tells_161 at621 (by omega) (by omega) ?_
        refine v_aload_n (pc := 162) dX12_tells_162 0 rfl ?_
        refine m_getfin (pc := 163) (v := 621) hE dX12_tells_163 flX12_103 rfl at603 rfl ?_
        refine v_bipush (pc := 166) dX12_tells_166 (by decide) ?_
        refine v_aload_n (pc := 168) dX12_tells_168 0 rfl ?_
        refine v_iconst (pc := 169) dX12_tells_169 (by decide) ?_
        refine m_invI (pc := 170) (mi' := mX12_term) (rest := [aI 9, aR 621]) [aI 0] dX12_tells_170 at603 (by decide) rfl msX12_term mvX12_term lkX12_412 rfl (Nat.le_of_ble_eq_true rfl) (fun hn => CI_mono (h) (fun r18 m17 h => ?_))
        refine v_i2l (pc := 173) dX12_tells_173 ?_
        refine v_last (pc := 174) dX12_tells_174 at621 (by omega) (by omega) ?_
        refine v_aload_n (pc := 175) dX12_tells_175 0 rfl ?_
        refine m_getfin (pc := 176) (v := 621) hE dX12_tells_176 flX12_103 rfl at603 rfl ?_
        refine v_bipush (pc := 179) dX12_tells_179 (by decide) ?_
        refine v_aload_n (pc := 181) dX12_tells_181 0 rfl ?_
        refine v_iconst (pc := 182) dX12_tells_182 (by decide) ?_
        refine m_invI (pc := 183) (mi' := mX12_term) (rest := [aI 10, aR 621]) [aI 3] dX12_tells_183 at603 (by decide) rfl msX12_term mvX12_term lkX12_412 rfl (Nat.le_of_ble_eq_true rfl) (fun hn => CI_mono (h) (fun r20 m19 h => ?_))
        refine v_i2l (pc := 186) dX12_tells_186 ?_
        refine v_last (pc := 187) dX12_tells_187 at621 (by omega) (by omega) ?_
        refine v_lload (pc := 188) dX12_tells_188 5 rfl ?_
        refine v_lstore (pc := 190) (al2 := [(7, aL p4), (0, aR 603), (1, aI p0), (2, aI p1), (3, aI p2), (4, aI p3), (5, aL p4)]) dX12_tells_190 (by decide) rfl ?_
        refine v_iconst (pc := 192) dX12_tells_192 (by decide) ?_
        refine v_istore (pc := 193) (al2 := [(9, aI 0), (7, aL p4), (0, aR 603), (1, aI p0), (2, aI p1), (3, aI p2), (4, aI p3), (5, aL p4)]) dX12_tells_193 (by decide) rfl ?_
        exact VG_sub (al' := [(0, aR 603), (1, aI p0), (7, aL p4), (9, aI 0)]) [2, 3, 1, 0] rfl h
    · have h := h.2 c1
      refine v_ldc2 (pc := 119) (n := (-1)) dX12_tells_119 cnX12_268 (by decide) ?_
      refine v_goto (pc := 122) (tgt := 135) dX12_tells_122 (by decide) ?_
      refine v_last (pc := 135) dX12_tells_135 at621 (by omega) (by omega) ?_
      refine v_aload_n (pc := 136) dX12_tells_136 0 rfl ?_
      refine m_getfin (pc := 137) (v := 621) hE dX12_tells_137 flX12_103 rfl at603 rfl ?_
      refine v_bipush (pc := 140) dX12_tells_140 (by decide) ?_
      refine v_iload_n (pc := 142) dX12_tells_142 2 rfl ?_
      refine v_iconst (pc := 143) dX12_tells_143 (by decide) ?_
      refine v_icmpne (pc := 144) (tgt := 151) dX12_tells_144 (by decide) (fun c1 => ?_) (fun c1 => ?_)
      · have h := h.1 c1
        refine v_aload_n (pc := 151) dX12_tells_151 0 rfl ?_
        refine m_getfin (pc := 152) (v := 605) hE dX12_tells_152 flX12_13 rfl at603 rfl ?_
        refine v_bipush (pc := 155) dX12_tells_155 (by decide) ?_
        refine v_iload_n (pc := 157) dX12_tells_157 2 rfl ?_
        obtain ⟨o21, h⟩ := h
        refine m_iadd (pc := 158) dX12_tells_158 o21 ?_
        obtain ⟨o22, h⟩ := h
        refine m_iald (pc := 159) (v := (mem 605 (38 + p1))) dX12_tells_159 at605 o22.1 o22.2 ((aUp_rn (by omega)).trans ((aUp_rn (by omega)).trans ((aUp_rn (by omega)).trans ((aUp_rn (by omega)).trans ((aUp_rn (by omega)).trans ((aUp_rn (by omega)).trans ((aUp_rn (by omega)).trans (aUp_rn (by omega))))))))) ?_
        refine v_i2l (pc := 160) dX12_tells_160 ?_
        refine v_last (pc := 161) dX12_tells_161 at621 (by omega) (by omega) ?_
        refine v_aload_n (pc := 162) dX12_tells_162 0 rfl ?_
        refine m_getfin (pc := 163) (v := 621) hE dX12_tells_163 flX12_103 rfl at603 rfl ?_
        refine v_bipush (pc := 166) dX12_tells_166 (by decide) ?_
        refine v_aload_n (pc := 168) dX12_tells_168 0 rfl ?_
        refine v_iconst (pc := 169) dX12_tells_169 (by decide) ?_
        refine m_invI (pc := 170) (mi' := mX12_term) (rest := [aI 9, aR 621]) [aI 0] dX12_tells_170 at603 (by decide) rfl msX12_term mvX12_term lkX12_412 rfl (Nat.le_of_ble_eq_true rfl) (fun hn => CI_mono (h) (fun r24 m23 h => ?_))
        refine v_i2l (pc := 173) dX12_tells_173 ?_
        refine v_last (pc := 174) dX12_tells_174 at621 (by omega) (by omega) ?_
        refine v_aload_n (pc := 175) dX12_tells_175 0 rfl ?_
        refine m_getfin (pc := 176) (v := 621) hE dX12_tells_176 flX12_103 rfl at603 rfl ?_
        refine v_bipush (pc := 179) dX12_tells_179 (by decide) ?_
        refine v_aload_n (pc := 181) dX12_tells_181 0 rfl ?_
        refine v_iconst (pc := 182) dX12_tells_182 (by decide) ?_
        refine m_invI (pc := 183) (mi' := mX12_term) (rest := [aI 10, aR 621]) [aI 3] dX12_tells_183 at603 (by decide) rfl msX12_term mvX12_term lkX12_412 rfl (Nat.le_of_ble_eq_true rfl) (fun hn => CI_mono (h) (fun r26 m25 h => ?_))
        refine v_i2l (pc := 186) dX12_tells_186 ?_
        refine v_last (pc := 187) dX12_tells_187 at621 (by omega) (by omega) ?_
        refine v_lload (pc := 188) dX12_tells_188 5 rfl ?_
        refine v_lstore (pc := 190) (al2 := [(7, aL p4), (0, aR 603), (1, aI p0), (2, aI p1), (3, aI p2), (4, aI p3), (5, aL p4)]) dX12_tells_190 (by decide) rfl ?_
        refine v_iconst (pc := 192) dX12_tells_192 (by decide) ?_
        refine v_istore (pc := 193) (al2 := [(9, aI 0), (7, aL p4), (0, aR 603), (1, aI p0), (2, aI p1), (3, aI p2), (4, aI p3), (5, aL p4)]) dX12_tells_193 (by decide) rfl ?_
        exact VG_sub (al' := [(0, aR 603), (1, aI p0), (7, aL p4), (9, aI 0)]) [2, 3, 1, 0] rfl h
      · have h := h.2 c1
        refine v_lconst0 (pc := 147) dX12_tells_147 ?_
        refine v_goto (pc := 148) (tgt := 161) dX12_tells_148 (by decide) ?_
        refine v_last (pc := 161) dX12_tells_161 at621 (by omega) (by omega) ?_
        refine v_aload_n (pc := 162) dX12_tells_162 0 rfl ?_
        refine m_getfin (pc := 163) (v := 621) hE dX12_tells_163 flX12_103 rfl at603 rfl ?_
        refine v_bipush (pc := 166) dX12_tells_166 (by decide) ?_
        refine v_aload_n (pc := 168) dX12_tells_168 0 rfl ?_
        refine v_iconst (pc := 169) dX12_tells_169 (by decide) ?_
        refine m_invI (pc := 170) (mi' := mX12_term) (rest := [aI 9, aR 621]) [aI 0] dX12_tells_170 at603 (by decide) rfl msX12_term mvX12_term lkX12_412 rfl (Nat.le_of_ble_eq_true rfl) (fun hn => CI_mono (h) (fun r28 m27 h => ?_))
        refine v_i2l (pc := 173) dX12_tells_173 ?_
        refine v_last (pc := 174) dX12_tells_174 at621 (by omega) (by omega) ?_
        refine v_aload_n (pc := 175) dX12_tells_175 0 rfl ?_
        refine m_getfin (pc := 176) (v := 621) hE dX12_tells_176 flX12_103 rfl at603 rfl ?_
        refine v_bipush (pc := 179) dX12_tells_179 (by decide) ?_
        refine v_aload_n (pc := 181) dX12_tells_181 0 rfl ?_
        refine v_iconst (pc := 182) dX12_tells_182 (by decide) ?_
        refine m_invI (pc := 183) (mi' := mX12_term) (rest := [aI 10, aR 621]) [aI 3] dX12_tells_183 at603 (by decide) rfl msX12_term mvX12_term lkX12_412 rfl (Nat.le_of_ble_eq_true rfl) (fun hn => CI_mono (h) (fun r30 m29 h => ?_))
        refine v_i2l (pc := 186) dX12_tells_186 ?_
        refine v_last (pc := 187) dX12_tells_187 at621 (by omega) (by omega) ?_
        refine v_lload (pc := 188) dX12_tells_188 5 rfl ?_
        refine v_lstore (pc := 190) (al2 := [(7, aL p4), (0, aR 603), (1, aI p0), (2, aI p1), (3, aI p2), (4, aI p3), (5, aL p4)]) dX12_tells_190 (by decide) rfl ?_
        refine v_iconst (pc := 192) dX12_tells_192 (by decide) ?_
        refine v_istore (pc := 193) (al2 := [(9, aI 0), (7, aL p4), (0, aR 603), (1, aI p0), (2, aI p1), (3, aI p2), (4, aI p3), (5, aL p4)]) dX12_tells_193 (by decide) rfl ?_
        exact VG_sub (al' := [(0, aR 603), (1, aI p0), (7, aL p4), (9, aI 0)]) [2, 3, 1, 0] rfl h
  · have h := h.2 c1
    refine v_lload (pc := 10) dX12_tells_10 5 rfl ?_
    exact m_retL (pc := 12) dX12_tells_12 rfl h
theorem eX12_tells {E : EN} {k : Nat} {mem : Mm} {Q : Int → Mm → Prop} {p0 p1 p2 p3 p4 : Int} (hr_p0 : R32 p0) (hr_p1 : R32 p1) (hr_p2 : R32 p2) (hr_p3 : R32 p3) (hr_p4 : R64 p4) (h : VM E mX12_tells (k + 1) mem 0 [(0, aR 603), (1, aI p0), (2, aI p1), (3, aI p2), (4, aI p3), (5, aL p4)] [] (retL Q)) : CL E mX12_tells (k + 1) mem [aR 603, aI p0, aI p1, aI p2, aI p3, aL p4] Q := CL_of rfl (Nat.le_of_ble_eq_true rfl) h (aNs_c (aNr_R _) (aNs_c (aNr_I hr_p0) (aNs_c (aNr_I hr_p1) (aNs_c (aNr_I hr_p2) (aNs_c (aNr_I hr_p3) (aNs_c (aNr_L hr_p4) (fun _ q => nomatch q)))))))
set_option maxRecDepth 20000 in
theorem rX12_tells_195 {E : EN} (hE : Ep E) {k : Nat} {mem : Mm} {Q : Int → Mm → Prop} {p0 p1 p2 p3 p4 x7 x9 : Int}
    (h : (R32 ((mem 603 34) + 1)) ∧ (0 ≤ ((mem 603 34) + 1) ∧ ((mem 603 34) + 1) < 5570) ∧ (((mem 605 ((mem 603 34) + 1)) ≤ x9 → Q x7 mem) ∧ (x9 < (mem 605 ((mem 603 34) + 1)) → (R32 ((mem 603 34) + 2)) ∧ (R32 (8 * x9)) ∧ (R32 (((mem 603 34) + 2) + (8 * x9))) ∧ (0 ≤ (((mem 603 34) + 2) + (8 * x9)) ∧ (((mem 603 34) + 2) + (8 * x9)) < 5570) ∧ ((¬ (mem 605 (((mem 603 34) + 2) + (8 * x9))) = p0 → VM E mX12_tells (k + 1) mem 260 [(0, aR 603), (1, aI p0), (7, aL x7), (9, aI x9)] [] (retL Q)) ∧ ((mem 605 (((mem 603 34) + 2) + (8 * x9))) = p0 → (R32 (((mem 603 34) + 2) + (8 * x9)) → CI E mX12_isSo k mem [aR 603, aI (((mem 603 34) + 2) + (8 * x9))] (fun r8 m7 => ((r8 = 0 → VM E mX12_tells (k + 1) m7 260 [(0, aR 603), (1, aI p0), (7, aL x7), (9, aI x9)] [] (retL Q)) ∧ (¬ r8 = 0 → ((2 ≤ p0 → VM E mX12_tells (k + 1) m7 260 [(0, aR 603), (1, aI p0), (7, aL 1), (9, aI x9)] [] (retL Q)) ∧ (p0 < 2 → VM E mX12_tells (k + 1) m7 260 [(0, aR 603), (1, aI p0), (7, aL (m7 603 40)), (9, aI x9)] [] (retL Q)))))))))))) :
    VM E mX12_tells (k + 1) mem 195 [(0, aR 603), (1, aI p0), (7, aL x7), (9, aI x9)] [] (retL Q) := by
  refine v_iload (pc := 195) dX12_tells_195 3 rfl ?_
  refine v_aload_n (pc := 197) dX12_tells_197 0 rfl ?_
  refine m_getfin (pc := 198) (v := 605) hE dX12_tells_198 flX12_13 rfl at603 rfl ?_
  refine v_aload_n (pc := 201) dX12_tells_201 0 rfl ?_
  refine m_getf (pc := 202) (t := 0) (v := (mem 603 34)) dX12_tells_202 flX12_392 rfl at603 rfl ?_
  refine v_iconst (pc := 205) dX12_tells_205 (by decide) ?_
  obtain ⟨o1, h⟩ := h
  refine m_iadd (pc := 206) dX12_tells_206 o1 ?_
  obtain ⟨o2, h⟩ := h
  refine m_iald (pc := 207) (v := (mem 605 ((mem 603 34) + 1))) dX12_tells_207 at605 o2.1 o2.2 rfl ?_
  refine v_icmpge (pc := 208) (tgt := 266) dX12_tells_208 (by decide) (fun c1 => ?_) (fun c1 => ?_)
  · have h := h.1 c1
    refine v_lload (pc := 266) dX12_tells_266 2 rfl ?_
    exact m_retL (pc := 268) dX12_tells_268 rfl h
  · have h := h.2 c1
    refine v_aload_n (pc := 211) dX12_tells_211 0 rfl ?_
    refine m_getf (pc := 212) (t := 0) (v := (mem 603 34)) dX12_tells_212 flX12_392 rfl at603 rfl ?_
    refine v_iconst (pc := 215) dX12_tells_215 (by decide) ?_
    obtain ⟨o3, h⟩ := h
    refine m_iadd (pc := 216) dX12_tells_216 o3 ?_
    refine v_bipush (pc := 217) dX12_tells_217 (by decide) ?_
    refine v_iload (pc := 219) dX12_tells_219 3 rfl ?_
    obtain ⟨o4, h⟩ := h
    refine m_imul (pc := 221) dX12_tells_221 o4 ?_
    obtain ⟨o5, h⟩ := h
    refine m_iadd (pc := 222) dX12_tells_222 o5 ?_
    refine v_istore (pc := 223) (al2 := [(10, aI (((mem 603 34) + 2) + (8 * x9))), (0, aR 603), (1, aI p0), (7, aL x7), (9, aI x9)]) dX12_tells_223 (by decide) rfl ?_
    refine v_aload_n (pc := 225) dX12_tells_225 1 rfl ?_
    refine m_getfin (pc := 226) (v := 605) hE dX12_tells_226 flX12_13 rfl at603 rfl ?_
    refine v_iload (pc := 229) dX12_tells_229 0 rfl ?_
    obtain ⟨o6, h⟩ := h
    refine m_iald (pc := 231) (v := (mem 605 (((mem 603 34) + 2) + (8 * x9)))) dX12_tells_231 at605 o6.1 o6.2 rfl ?_
    refine v_iload_n (pc := 232) dX12_tells_232 2 rfl ?_
    refine v_icmpne (pc := 233) (tgt := 260) dX12_tells_233 (by decide) (fun c1 => ?_) (fun c1 => ?_)
    · have h := h.1 c1
      exact VG_sub (al' := [(0, aR 603), (1, aI p0), (7, aL x7), (9, aI x9)]) [1, 2, 3, 4] rfl h
    · have h := h.2 c1
      refine v_aload_n (pc := 236) dX12_tells_236 1 rfl ?_
      refine v_iload (pc := 237) dX12_tells_237 0 rfl ?_
      refine m_invI (pc := 239) (mi' := mX12_isSo) (rest := []) [aI (((mem 603 34) + 2) + (8 * x9))] dX12_tells_239 at603 (by decide) rfl msX12_isSo mvX12_isSo lkX12_415 rfl (Nat.le_of_ble_eq_true rfl) (fun hn => CI_mono (h (aaI hn 1 rfl)) (fun r8 m7 h => ?_))
      refine v_ifeq (pc := 242) (tgt := 260) dX12_tells_242 (by decide) (fun c1 => ?_) (fun c1 => ?_)
      · have h := h.1 c1
        exact VG_sub (al' := [(0, aR 603), (1, aI p0), (7, aL x7), (9, aI x9)]) [1, 2, 3, 4] rfl h
      · have h := h.2 c1
        refine v_iload_n (pc := 245) dX12_tells_245 2 rfl ?_
        refine v_iconst (pc := 246) dX12_tells_246 (by decide) ?_
        refine v_icmpge (pc := 247) (tgt := 257) dX12_tells_247 (by decide) (fun c1 => ?_) (fun c1 => ?_)
        · have h := h.1 c1
          refine v_lconst1 (pc := 257) dX12_tells_257 ?_
          refine v_lstore (pc := 258) (al2 := [(7, aL 1), (10, aI (((mem 603 34) + 2) + (8 * x9))), (0, aR 603), (1, aI p0), (9, aI x9)]) dX12_tells_258 (by decide) rfl ?_
          exact VG_sub (al' := [(0, aR 603), (1, aI p0), (7, aL 1), (9, aI x9)]) [2, 3, 0, 4] rfl h
        · have h := h.2 c1
          refine v_aload_n (pc := 250) dX12_tells_250 1 rfl ?_
          refine m_getf (pc := 251) (t := 1) (v := (m7 603 40)) dX12_tells_251 flX12_409 rfl at603 rfl ?_
          refine v_goto (pc := 254) (tgt := 258) dX12_tells_254 (by decide) ?_
          refine v_lstore (pc := 258) (al2 := [(7, aL (m7 603 40)), (10, aI (((mem 603 34) + 2) + (8 * x9))), (0, aR 603), (1, aI p0), (9, aI x9)]) dX12_tells_258 (by decide) rfl ?_
          exact VG_sub (al' := [(0, aR 603), (1, aI p0), (7, aL (m7 603 40)), (9, aI x9)]) [2, 3, 0, 4] rfl h
set_option maxRecDepth 20000 in
theorem rX12_tells_260 {E : EN} (hE : Ep E) {k : Nat} {mem : Mm} {Q : Int → Mm → Prop} {p0 p1 p2 p3 p4 x7 x9 : Int}
    (h : (R32 (x9 + 1)) ∧ VM E mX12_tells (k + 1) mem 195 [(0, aR 603), (1, aI p0), (7, aL x7), (9, aI (x9 + 1))] [] (retL Q)) :
    VM E mX12_tells (k + 1) mem 260 [(0, aR 603), (1, aI p0), (7, aL x7), (9, aI x9)] [] (retL Q) := by
  obtain ⟨o1, h⟩ := h
  refine m_iinc (pc := 260) (al2 := [(9, aI (x9 + 1)), (0, aR 603), (1, aI p0), (7, aL x7)]) dX12_tells_260 3 rfl (by decide) o1 rfl ?_
  refine v_goto (pc := 263) (tgt := 195) dX12_tells_263 (by decide) ?_
  exact VG_sub (al' := [(0, aR 603), (1, aI p0), (7, aL x7), (9, aI (x9 + 1))]) [1, 2, 3, 0] rfl h

theorem dX12_tellsGoing_0 : decode cX12_tellsGoing 0 = .ok (.iconst 0, 1) := by decide +kernel
theorem dX12_tellsGoing_1 : decode cX12_tellsGoing 1 = .ok (.istore_n 1, 1) := by decide +kernel
theorem dX12_tellsGoing_2 : decode cX12_tellsGoing 2 = .ok (.iconst 0, 1) := by decide +kernel
theorem dX12_tellsGoing_3 : decode cX12_tellsGoing 3 = .ok (.istore_n 2, 1) := by decide +kernel
theorem dX12_tellsGoing_4 : decode cX12_tellsGoing 4 = .ok (.aload_n 0, 1) := by decide +kernel
theorem dX12_tellsGoing_5 : decode cX12_tellsGoing 5 = .ok (.getfield 13, 3) := by decide +kernel
theorem dX12_tellsGoing_8 : decode cX12_tellsGoing 8 = .ok (.iconst 2, 1) := by decide +kernel
theorem dX12_tellsGoing_9 : decode cX12_tellsGoing 9 = .ok (.iaload, 1) := by decide +kernel
theorem dX12_tellsGoing_10 : decode cX12_tellsGoing 10 = .ok (.iconst (-1), 1) := by decide +kernel
theorem dX12_tellsGoing_11 : decode cX12_tellsGoing 11 = .ok (.if_icmp .eq 74, 3) := by decide +kernel
theorem dX12_tellsGoing_14 : decode cX12_tellsGoing 14 = .ok (.iload_n 2, 1) := by decide +kernel
theorem dX12_tellsGoing_15 : decode cX12_tellsGoing 15 = .ok (.aload_n 0, 1) := by decide +kernel
theorem dX12_tellsGoing_16 : decode cX12_tellsGoing 16 = .ok (.getfield 13, 3) := by decide +kernel
theorem dX12_tellsGoing_19 : decode cX12_tellsGoing 19 = .ok (.sipush 170, 3) := by decide +kernel
theorem dX12_tellsGoing_22 : decode cX12_tellsGoing 22 = .ok (.sipush 900, 3) := by decide +kernel
theorem dX12_tellsGoing_25 : decode cX12_tellsGoing 25 = .ok (.aload_n 0, 1) := by decide +kernel
theorem dX12_tellsGoing_26 : decode cX12_tellsGoing 26 = .ok (.getfield 13, 3) := by decide +kernel
theorem dX12_tellsGoing_29 : decode cX12_tellsGoing 29 = .ok (.iconst 2, 1) := by decide +kernel
theorem dX12_tellsGoing_30 : decode cX12_tellsGoing 30 = .ok (.iaload, 1) := by decide +kernel
theorem dX12_tellsGoing_31 : decode cX12_tellsGoing 31 = .ok (.imul, 1) := by decide +kernel
theorem dX12_tellsGoing_32 : decode cX12_tellsGoing 32 = .ok (.iadd, 1) := by decide +kernel
theorem dX12_tellsGoing_33 : decode cX12_tellsGoing 33 = .ok (.iconst 1, 1) := by decide +kernel
theorem dX12_tellsGoing_34 : decode cX12_tellsGoing 34 = .ok (.iadd, 1) := by decide +kernel
theorem dX12_tellsGoing_35 : decode cX12_tellsGoing 35 = .ok (.iaload, 1) := by decide +kernel
theorem dX12_tellsGoing_36 : decode cX12_tellsGoing 36 = .ok (.if_icmp .ge 49, 3) := by decide +kernel
theorem dX12_tellsGoing_39 : decode cX12_tellsGoing 39 = .ok (.iload_n 1, 1) := by decide +kernel
theorem dX12_tellsGoing_40 : decode cX12_tellsGoing 40 = .ok (.ifCond .ne 33, 3) := by decide +kernel
theorem dX12_tellsGoing_43 : decode cX12_tellsGoing 43 = .ok (.aload_n 0, 1) := by decide +kernel
theorem dX12_tellsGoing_44 : decode cX12_tellsGoing 44 = .ok (.getfield 13, 3) := by decide +kernel
theorem dX12_tellsGoing_47 : decode cX12_tellsGoing 47 = .ok (.sipush 170, 3) := by decide +kernel
theorem dX12_tellsGoing_50 : decode cX12_tellsGoing 50 = .ok (.sipush 900, 3) := by decide +kernel
theorem dX12_tellsGoing_53 : decode cX12_tellsGoing 53 = .ok (.aload_n 0, 1) := by decide +kernel
theorem dX12_tellsGoing_54 : decode cX12_tellsGoing 54 = .ok (.getfield 13, 3) := by decide +kernel
theorem dX12_tellsGoing_57 : decode cX12_tellsGoing 57 = .ok (.iconst 2, 1) := by decide +kernel
theorem dX12_tellsGoing_58 : decode cX12_tellsGoing 58 = .ok (.iaload, 1) := by decide +kernel
theorem dX12_tellsGoing_59 : decode cX12_tellsGoing 59 = .ok (.imul, 1) := by decide +kernel
theorem dX12_tellsGoing_60 : decode cX12_tellsGoing 60 = .ok (.iadd, 1) := by decide +kernel
theorem dX12_tellsGoing_61 : decode cX12_tellsGoing 61 = .ok (.iconst 2, 1) := by decide +kernel
theorem dX12_tellsGoing_62 : decode cX12_tellsGoing 62 = .ok (.iadd, 1) := by decide +kernel
theorem dX12_tellsGoing_63 : decode cX12_tellsGoing 63 = .ok (.bipush 8, 2) := by decide +kernel
theorem dX12_tellsGoing_65 : decode cX12_tellsGoing 65 = .ok (.iload_n 2, 1) := by decide +kernel
theorem dX12_tellsGoing_66 : decode cX12_tellsGoing 66 = .ok (.imul, 1) := by decide +kernel
theorem dX12_tellsGoing_67 : decode cX12_tellsGoing 67 = .ok (.iadd, 1) := by decide +kernel
theorem dX12_tellsGoing_68 : decode cX12_tellsGoing 68 = .ok (.iaload, 1) := by decide +kernel
theorem dX12_tellsGoing_69 : decode cX12_tellsGoing 69 = .ok (.iconst 2, 1) := by decide +kernel
theorem dX12_tellsGoing_70 : decode cX12_tellsGoing 70 = .ok (.if_icmp .ne 7, 3) := by decide +kernel
theorem dX12_tellsGoing_73 : decode cX12_tellsGoing 73 = .ok (.iconst 1, 1) := by decide +kernel
theorem dX12_tellsGoing_74 : decode cX12_tellsGoing 74 = .ok (.goto 4, 3) := by decide +kernel
theorem dX12_tellsGoing_77 : decode cX12_tellsGoing 77 = .ok (.iconst 0, 1) := by decide +kernel
theorem dX12_tellsGoing_78 : decode cX12_tellsGoing 78 = .ok (.istore_n 1, 1) := by decide +kernel
theorem dX12_tellsGoing_79 : decode cX12_tellsGoing 79 = .ok (.iinc 2 1, 3) := by decide +kernel
theorem dX12_tellsGoing_82 : decode cX12_tellsGoing 82 = .ok (.goto (-78), 3) := by decide +kernel
theorem dX12_tellsGoing_85 : decode cX12_tellsGoing 85 = .ok (.iload_n 1, 1) := by decide +kernel
theorem dX12_tellsGoing_86 : decode cX12_tellsGoing 86 = .ok (.ireturn, 1) := by decide +kernel
set_option maxRecDepth 20000 in
theorem rX12_tellsGoing_0 {E : EN} (hE : Ep E) {k : Nat} {mem : Mm} {Q : Int → Mm → Prop}
    (h : VM E mX12_tellsGoing k mem 4 [(0, aR 603), (1, aI 0), (2, aI 0)] [] (retI Q)) :
    VM E mX12_tellsGoing k mem 0 [(0, aR 603)] [] (retI Q) := by
  refine v_iconst (pc := 0) dX12_tellsGoing_0 (by decide) ?_
  refine v_istore_n (pc := 1) (al2 := [(1, aI 0), (0, aR 603)]) dX12_tellsGoing_1 (by decide) rfl ?_
  refine v_iconst (pc := 2) dX12_tellsGoing_2 (by decide) ?_
  refine v_istore_n (pc := 3) (al2 := [(2, aI 0), (1, aI 0), (0, aR 603)]) dX12_tellsGoing_3 (by decide) rfl ?_
  exact VG_sub (al' := [(0, aR 603), (1, aI 0), (2, aI 0)]) [2, 1, 0] rfl h
theorem eX12_tellsGoing {E : EN} {k : Nat} {mem : Mm} {Q : Int → Mm → Prop}  (h : VM E mX12_tellsGoing k mem 0 [(0, aR 603)] [] (retI Q)) : CI E mX12_tellsGoing k mem [aR 603] Q := CI_of rfl (Nat.le_of_ble_eq_true rfl) h (aNs_c (aNr_R _) (fun _ q => nomatch q))
set_option maxRecDepth 20000 in
theorem rX12_tellsGoing_4 {E : EN} (hE : Ep E) {k : Nat} {mem : Mm} {Q : Int → Mm → Prop} {x1 x2 : Int}
    (h : (((mem 605 2) = (-1) → (x1 = 0 ∨ x1 = 1) ∧ Q x1 mem) ∧ (¬ (mem 605 2) = (-1) → (R32 (900 * (mem 605 2))) ∧ (R32 (170 + (900 * (mem 605 2)))) ∧ (R32 ((170 + (900 * (mem 605 2))) + 1)) ∧ (0 ≤ ((170 + (900 * (mem 605 2))) + 1) ∧ ((170 + (900 * (mem 605 2))) + 1) < 5570) ∧ (((mem 605 ((170 + (900 * (mem 605 2))) + 1)) ≤ x2 → (x1 = 0 ∨ x1 = 1) ∧ Q x1 mem) ∧ (x2 < (mem 605 ((170 + (900 * (mem 605 2))) + 1)) → ((¬ x1 = 0 → (R32 (x2 + 1)) ∧ VM E mX12_tellsGoing k mem 4 [(0, aR 603), (1, aI 1), (2, aI (x2 + 1))] [] (retI Q)) ∧ (x1 = 0 → (R32 ((170 + (900 * (mem 605 2))) + 2)) ∧ (R32 (8 * x2)) ∧ (R32 (((170 + (900 * (mem 605 2))) + 2) + (8 * x2))) ∧ (0 ≤ (((170 + (900 * (mem 605 2))) + 2) + (8 * x2)) ∧ (((170 + (900 * (mem 605 2))) + 2) + (8 * x2)) < 5570) ∧ ((¬ (mem 605 (((170 + (900 * (mem 605 2))) + 2) + (8 * x2))) = 2 → (R32 (x2 + 1)) ∧ VM E mX12_tellsGoing k mem 4 [(0, aR 603), (1, aI 0), (2, aI (x2 + 1))] [] (retI Q)) ∧ ((mem 605 (((170 + (900 * (mem 605 2))) + 2) + (8 * x2))) = 2 → (R32 (x2 + 1)) ∧ VM E mX12_tellsGoing k mem 4 [(0, aR 603), (1, aI 1), (2, aI (x2 + 1))] [] (retI Q)))))))))) :
    VM E mX12_tellsGoing k mem 4 [(0, aR 603), (1, aI x1), (2, aI x2)] [] (retI Q) := by
  refine v_aload_n (pc := 4) dX12_tellsGoing_4 0 rfl ?_
  refine m_getfin (pc := 5) (v := 605) hE dX12_tellsGoing_5 flX12_13 rfl at603 rfl ?_
  refine v_iconst (pc := 8) dX12_tellsGoing_8 (by decide) ?_
  refine m_iald (pc := 9) (v := (mem 605 2)) dX12_tellsGoing_9 at605 (by omega) (by omega) rfl ?_
  refine v_iconst (pc := 10) dX12_tellsGoing_10 (by decide) ?_
  refine v_icmpeq (pc := 11) (tgt := 85) dX12_tellsGoing_11 (by decide) (fun c1 => ?_) (fun c1 => ?_)
  · have h := h.1 c1
    refine v_iload_n (pc := 85) dX12_tellsGoing_85 1 rfl ?_
    obtain ⟨o1, h⟩ := h
    exact m_retZ (pc := 86) dX12_tellsGoing_86 rfl o1 h
  · have h := h.2 c1
    refine v_iload_n (pc := 14) dX12_tellsGoing_14 2 rfl ?_
    refine v_aload_n (pc := 15) dX12_tellsGoing_15 0 rfl ?_
    refine m_getfin (pc := 16) (v := 605) hE dX12_tellsGoing_16 flX12_13 rfl at603 rfl ?_
    refine v_sipush (pc := 19) dX12_tellsGoing_19 (by decide) ?_
    refine v_sipush (pc := 22) dX12_tellsGoing_22 (by decide) ?_
    refine v_aload_n (pc := 25) dX12_tellsGoing_25 0 rfl ?_
    refine m_getfin (pc := 26) (v := 605) hE dX12_tellsGoing_26 flX12_13 rfl at603 rfl ?_
    refine v_iconst (pc := 29) dX12_tellsGoing_29 (by decide) ?_
    refine m_iald (pc := 30) (v := (mem 605 2)) dX12_tellsGoing_30 at605 (by omega) (by omega) rfl ?_
    obtain ⟨o2, h⟩ := h
    refine m_imul (pc := 31) dX12_tellsGoing_31 o2 ?_
    obtain ⟨o3, h⟩ := h
    refine m_iadd (pc := 32) dX12_tellsGoing_32 o3 ?_
    refine v_iconst (pc := 33) dX12_tellsGoing_33 (by decide) ?_
    obtain ⟨o4, h⟩ := h
    refine m_iadd (pc := 34) dX12_tellsGoing_34 o4 ?_
    obtain ⟨o5, h⟩ := h
    refine m_iald (pc := 35) (v := (mem 605 ((170 + (900 * (mem 605 2))) + 1))) dX12_tellsGoing_35 at605 o5.1 o5.2 rfl ?_
    refine v_icmpge (pc := 36) (tgt := 85) dX12_tellsGoing_36 (by decide) (fun c1 => ?_) (fun c1 => ?_)
    · have h := h.1 c1
      refine v_iload_n (pc := 85) dX12_tellsGoing_85 1 rfl ?_
      obtain ⟨o6, h⟩ := h
      exact m_retZ (pc := 86) dX12_tellsGoing_86 rfl o6 h
    · have h := h.2 c1
      refine v_iload_n (pc := 39) dX12_tellsGoing_39 1 rfl ?_
      refine v_ifne (pc := 40) (tgt := 73) dX12_tellsGoing_40 (by decide) (fun c1 => ?_) (fun c1 => ?_)
      · have h := h.1 c1
        refine v_iconst (pc := 73) dX12_tellsGoing_73 (by decide) ?_
        refine v_goto (pc := 74) (tgt := 78) dX12_tellsGoing_74 (by decide) ?_
        refine v_istore_n (pc := 78) (al2 := [(1, aI 1), (0, aR 603), (2, aI x2)]) dX12_tellsGoing_78 (by decide) rfl ?_
        obtain ⟨o7, h⟩ := h
        refine m_iinc (pc := 79) (al2 := [(2, aI (x2 + 1)), (1, aI 1), (0, aR 603)]) dX12_tellsGoing_79 2 rfl (by decide) o7 rfl ?_
        refine v_goto (pc := 82) (tgt := 4) dX12_tellsGoing_82 (by decide) ?_
        exact VG_sub (al' := [(0, aR 603), (1, aI 1), (2, aI (x2 + 1))]) [2, 1, 0] rfl h
      · have h := h.2 c1
        refine v_aload_n (pc := 43) dX12_tellsGoing_43 0 rfl ?_
        refine m_getfin (pc := 44) (v := 605) hE dX12_tellsGoing_44 flX12_13 rfl at603 rfl ?_
        refine v_sipush (pc := 47) dX12_tellsGoing_47 (by decide) ?_
        refine v_sipush (pc := 50) dX12_tellsGoing_50 (by decide) ?_
        refine v_aload_n (pc := 53) dX12_tellsGoing_53 0 rfl ?_
        refine m_getfin (pc := 54) (v := 605) hE dX12_tellsGoing_54 flX12_13 rfl at603 rfl ?_
        refine v_iconst (pc := 57) dX12_tellsGoing_57 (by decide) ?_
        refine m_iald (pc := 58) (v := (mem 605 2)) dX12_tellsGoing_58 at605 (by omega) (by omega) rfl ?_
        refine m_imul (pc := 59) dX12_tellsGoing_59 o2 ?_
        refine m_iadd (pc := 60) dX12_tellsGoing_60 o3 ?_
        refine v_iconst (pc := 61) dX12_tellsGoing_61 (by decide) ?_
        obtain ⟨o8, h⟩ := h
        refine m_iadd (pc := 62) dX12_tellsGoing_62 o8 ?_
        refine v_bipush (pc := 63) dX12_tellsGoing_63 (by decide) ?_
        refine v_iload_n (pc := 65) dX12_tellsGoing_65 2 rfl ?_
        obtain ⟨o9, h⟩ := h
        refine m_imul (pc := 66) dX12_tellsGoing_66 o9 ?_
        obtain ⟨o10, h⟩ := h
        refine m_iadd (pc := 67) dX12_tellsGoing_67 o10 ?_
        obtain ⟨o11, h⟩ := h
        refine m_iald (pc := 68) (v := (mem 605 (((170 + (900 * (mem 605 2))) + 2) + (8 * x2)))) dX12_tellsGoing_68 at605 o11.1 o11.2 rfl ?_
        refine v_iconst (pc := 69) dX12_tellsGoing_69 (by decide) ?_
        refine v_icmpne (pc := 70) (tgt := 77) dX12_tellsGoing_70 (by decide) (fun c1 => ?_) (fun c1 => ?_)
        · have h := h.1 c1
          refine v_iconst (pc := 77) dX12_tellsGoing_77 (by decide) ?_
          refine v_istore_n (pc := 78) (al2 := [(1, aI 0), (0, aR 603), (2, aI x2)]) dX12_tellsGoing_78 (by decide) rfl ?_
          obtain ⟨o12, h⟩ := h
          refine m_iinc (pc := 79) (al2 := [(2, aI (x2 + 1)), (1, aI 0), (0, aR 603)]) dX12_tellsGoing_79 2 rfl (by decide) o12 rfl ?_
          refine v_goto (pc := 82) (tgt := 4) dX12_tellsGoing_82 (by decide) ?_
          exact VG_sub (al' := [(0, aR 603), (1, aI 0), (2, aI (x2 + 1))]) [2, 1, 0] rfl h
        · have h := h.2 c1
          refine v_iconst (pc := 73) dX12_tellsGoing_73 (by decide) ?_
          refine v_goto (pc := 74) (tgt := 78) dX12_tellsGoing_74 (by decide) ?_
          refine v_istore_n (pc := 78) (al2 := [(1, aI 1), (0, aR 603), (2, aI x2)]) dX12_tellsGoing_78 (by decide) rfl ?_
          obtain ⟨o13, h⟩ := h
          refine m_iinc (pc := 79) (al2 := [(2, aI (x2 + 1)), (1, aI 1), (0, aR 603)]) dX12_tellsGoing_79 2 rfl (by decide) o13 rfl ?_
          refine v_goto (pc := 82) (tgt := 4) dX12_tellsGoing_82 (by decide) ?_
          exact VG_sub (al' := [(0, aR 603), (1, aI 1), (2, aI (x2 + 1))]) [2, 1, 0] rfl h

theorem dX12_movesOf_0 : decode cX12_movesOf 0 = .ok (.aload_n 0, 1) := by decide +kernel
theorem dX12_movesOf_1 : decode cX12_movesOf 1 = .ok (.iconst 0, 1) := by decide +kernel
theorem dX12_movesOf_2 : decode cX12_movesOf 2 = .ok (.iload_n 1, 1) := by decide +kernel
theorem dX12_movesOf_3 : decode cX12_movesOf 3 = .ok (.aload_n 0, 1) := by decide +kernel
theorem dX12_movesOf_4 : decode cX12_movesOf 4 = .ok (.getfield 13, 3) := by decide +kernel
theorem dX12_movesOf_7 : decode cX12_movesOf 7 = .ok (.bipush 18, 2) := by decide +kernel
theorem dX12_movesOf_9 : decode cX12_movesOf 9 = .ok (.iload_n 1, 1) := by decide +kernel
theorem dX12_movesOf_10 : decode cX12_movesOf 10 = .ok (.iadd, 1) := by decide +kernel
theorem dX12_movesOf_11 : decode cX12_movesOf 11 = .ok (.iaload, 1) := by decide +kernel
theorem dX12_movesOf_12 : decode cX12_movesOf 12 = .ok (.aload_n 0, 1) := by decide +kernel
theorem dX12_movesOf_13 : decode cX12_movesOf 13 = .ok (.getfield 13, 3) := by decide +kernel
theorem dX12_movesOf_16 : decode cX12_movesOf 16 = .ok (.bipush 8, 2) := by decide +kernel
theorem dX12_movesOf_18 : decode cX12_movesOf 18 = .ok (.iload_n 1, 1) := by decide +kernel
theorem dX12_movesOf_19 : decode cX12_movesOf 19 = .ok (.iadd, 1) := by decide +kernel
theorem dX12_movesOf_20 : decode cX12_movesOf 20 = .ok (.iaload, 1) := by decide +kernel
theorem dX12_movesOf_21 : decode cX12_movesOf 21 = .ok (.lconst 1, 1) := by decide +kernel
theorem dX12_movesOf_22 : decode cX12_movesOf 22 = .ok (.invokevirtual 418, 3) := by decide +kernel
theorem dX12_movesOf_25 : decode cX12_movesOf 25 = .ok (.iconst 0, 1) := by decide +kernel
theorem dX12_movesOf_26 : decode cX12_movesOf 26 = .ok (.bipush 9, 2) := by decide +kernel
theorem dX12_movesOf_28 : decode cX12_movesOf 28 = .ok (.invokestatic 422, 3) := by decide +kernel
theorem dX12_movesOf_31 : decode cX12_movesOf 31 = .ok (.ireturn, 1) := by decide +kernel
set_option maxRecDepth 20000 in
theorem rX12_movesOf_0 {E : EN} (hE : Ep E) {k : Nat} {mem : Mm} {Q : Int → Mm → Prop} {p0 : Int}
    (h : (R32 (18 + p0)) ∧ (0 ≤ (18 + p0) ∧ (18 + p0) < 5570) ∧ (R32 (8 + p0)) ∧ (0 ≤ (8 + p0) ∧ (8 + p0) < 5570) ∧ (R32 p0 → R32 (mem 605 (18 + p0)) → R32 (mem 605 (8 + p0)) → CL E mX12_tells k mem [aR 603, aI 0, aI p0, aI (mem 605 (18 + p0)), aI (mem 605 (8 + p0)), aL 1] (fun r6 m5 => (R64 r6 → CI E mX12_within k m5 [aL r6, aI 0, aI 9] (fun r8 m7 => Q r8 m7))))) :
    VM E mX12_movesOf (k + 1) mem 0 [(0, aR 603), (1, aI p0)] [] (retI Q) := by
  refine v_aload_n (pc := 0) dX12_movesOf_0 0 rfl ?_
  refine v_iconst (pc := 1) dX12_movesOf_1 (by decide) ?_
  refine v_iload_n (pc := 2) dX12_movesOf_2 1 rfl ?_
  refine v_aload_n (pc := 3) dX12_movesOf_3 0 rfl ?_
  refine m_getfin (pc := 4) (v := 605) hE dX12_movesOf_4 flX12_13 rfl at603 rfl ?_
  refine v_bipush (pc := 7) dX12_movesOf_7 (by decide) ?_
  refine v_iload_n (pc := 9) dX12_movesOf_9 1 rfl ?_
  obtain ⟨o1, h⟩ := h
  refine m_iadd (pc := 10) dX12_movesOf_10 o1 ?_
  obtain ⟨o2, h⟩ := h
  refine m_iald (pc := 11) (v := (mem 605 (18 + p0))) dX12_movesOf_11 at605 o2.1 o2.2 rfl ?_
  refine v_aload_n (pc := 12) dX12_movesOf_12 0 rfl ?_
  refine m_getfin (pc := 13) (v := 605) hE dX12_movesOf_13 flX12_13 rfl at603 rfl ?_
  refine v_bipush (pc := 16) dX12_movesOf_16 (by decide) ?_
  refine v_iload_n (pc := 18) dX12_movesOf_18 1 rfl ?_
  obtain ⟨o3, h⟩ := h
  refine m_iadd (pc := 19) dX12_movesOf_19 o3 ?_
  obtain ⟨o4, h⟩ := h
  refine m_iald (pc := 20) (v := (mem 605 (8 + p0))) dX12_movesOf_20 at605 o4.1 o4.2 rfl ?_
  refine v_lconst1 (pc := 21) dX12_movesOf_21 ?_
  refine m_invL (pc := 22) (mi' := mX12_tells) (rest := []) [aI 0, aI p0, aI (mem 605 (18 + p0)), aI (mem 605 (8 + p0)), aL 1] dX12_movesOf_22 at603 (by decide) rfl msX12_tells mvX12_tells lkX12_418 rfl (Nat.le_of_ble_eq_true rfl) (fun hn => CL_mono (h (aaI hn 2 rfl) (aaI hn 3 rfl) (aaI hn 4 rfl)) (fun r6 m5 h => ?_))
  refine v_iconst (pc := 25) dX12_movesOf_25 (by decide) ?_
  refine v_bipush (pc := 26) dX12_movesOf_26 (by decide) ?_
  refine m_invSI (pc := 28) (mi' := mX12_within) (rest := []) [aL r6, aI 0, aI 9] dX12_movesOf_28 msX12_within stX12_within lkX12_422 rfl (Nat.le_of_ble_eq_true rfl) (fun hn => CI_mono (h (aaL hn 0 rfl)) (fun r8 m7 h => ?_))
  exact m_retI (pc := 31) dX12_movesOf_31 rfl h
theorem eX12_movesOf {E : EN} {k : Nat} {mem : Mm} {Q : Int → Mm → Prop} {p0 : Int} (hr_p0 : R32 p0) (h : VM E mX12_movesOf (k + 1) mem 0 [(0, aR 603), (1, aI p0)] [] (retI Q)) : CI E mX12_movesOf (k + 1) mem [aR 603, aI p0] Q := CI_of rfl (Nat.le_of_ble_eq_true rfl) h (aNs_c (aNr_R _) (aNs_c (aNr_I hr_p0) (fun _ q => nomatch q)))

theorem dX12_digsOf_0 : decode cX12_digsOf 0 = .ok (.aload_n 0, 1) := by decide +kernel
theorem dX12_digsOf_1 : decode cX12_digsOf 1 = .ok (.iconst 1, 1) := by decide +kernel
theorem dX12_digsOf_2 : decode cX12_digsOf 2 = .ok (.iload_n 1, 1) := by decide +kernel
theorem dX12_digsOf_3 : decode cX12_digsOf 3 = .ok (.aload_n 0, 1) := by decide +kernel
theorem dX12_digsOf_4 : decode cX12_digsOf 4 = .ok (.getfield 13, 3) := by decide +kernel
theorem dX12_digsOf_7 : decode cX12_digsOf 7 = .ok (.bipush 18, 2) := by decide +kernel
theorem dX12_digsOf_9 : decode cX12_digsOf 9 = .ok (.iload_n 1, 1) := by decide +kernel
theorem dX12_digsOf_10 : decode cX12_digsOf 10 = .ok (.iadd, 1) := by decide +kernel
theorem dX12_digsOf_11 : decode cX12_digsOf 11 = .ok (.iaload, 1) := by decide +kernel
theorem dX12_digsOf_12 : decode cX12_digsOf 12 = .ok (.aload_n 0, 1) := by decide +kernel
theorem dX12_digsOf_13 : decode cX12_digsOf 13 = .ok (.getfield 13, 3) := by decide +kernel
theorem dX12_digsOf_16 : decode cX12_digsOf 16 = .ok (.bipush 8, 2) := by decide +kernel
theorem dX12_digsOf_18 : decode cX12_digsOf 18 = .ok (.iload_n 1, 1) := by decide +kernel
theorem dX12_digsOf_19 : decode cX12_digsOf 19 = .ok (.iadd, 1) := by decide +kernel
theorem dX12_digsOf_20 : decode cX12_digsOf 20 = .ok (.iaload, 1) := by decide +kernel
theorem dX12_digsOf_21 : decode cX12_digsOf 21 = .ok (.aload_n 0, 1) := by decide +kernel
theorem dX12_digsOf_22 : decode cX12_digsOf 22 = .ok (.getfield 13, 3) := by decide +kernel
theorem dX12_digsOf_25 : decode cX12_digsOf 25 = .ok (.bipush 28, 2) := by decide +kernel
theorem dX12_digsOf_27 : decode cX12_digsOf 27 = .ok (.iload_n 1, 1) := by decide +kernel
theorem dX12_digsOf_28 : decode cX12_digsOf 28 = .ok (.iadd, 1) := by decide +kernel
theorem dX12_digsOf_29 : decode cX12_digsOf 29 = .ok (.iaload, 1) := by decide +kernel
theorem dX12_digsOf_30 : decode cX12_digsOf 30 = .ok (.iconst 1, 1) := by decide +kernel
theorem dX12_digsOf_31 : decode cX12_digsOf 31 = .ok (.if_icmp .ne 9, 3) := by decide +kernel
theorem dX12_digsOf_34 : decode cX12_digsOf 34 = .ok (.ldc2_w 426, 3) := by decide +kernel
theorem dX12_digsOf_37 : decode cX12_digsOf 37 = .ok (.goto 6, 3) := by decide +kernel
theorem dX12_digsOf_40 : decode cX12_digsOf 40 = .ok (.ldc2_w 428, 3) := by decide +kernel
theorem dX12_digsOf_43 : decode cX12_digsOf 43 = .ok (.invokevirtual 418, 3) := by decide +kernel
theorem dX12_digsOf_46 : decode cX12_digsOf 46 = .ok (.iconst 1, 1) := by decide +kernel
theorem dX12_digsOf_47 : decode cX12_digsOf 47 = .ok (.bipush 99, 2) := by decide +kernel
theorem dX12_digsOf_49 : decode cX12_digsOf 49 = .ok (.invokestatic 422, 3) := by decide +kernel
theorem dX12_digsOf_52 : decode cX12_digsOf 52 = .ok (.ireturn, 1) := by decide +kernel
set_option maxRecDepth 20000 in
theorem rX12_digsOf_0 {E : EN} (hE : Ep E) {k : Nat} {mem : Mm} {Q : Int → Mm → Prop} {p0 : Int}
    (h : (R32 (18 + p0)) ∧ (0 ≤ (18 + p0) ∧ (18 + p0) < 5570) ∧ (R32 (8 + p0)) ∧ (0 ≤ (8 + p0) ∧ (8 + p0) < 5570) ∧ (R32 (28 + p0)) ∧ (0 ≤ (28 + p0) ∧ (28 + p0) < 5570) ∧ ((¬ (mem 605 (28 + p0)) = 1 → (R32 p0 → R32 (mem 605 (18 + p0)) → R32 (mem 605 (8 + p0)) → CL E mX12_tells k mem [aR 603, aI 1, aI p0, aI (mem 605 (18 + p0)), aI (mem 605 (8 + p0)), aL 4] (fun r8 m7 => (R64 r8 → CI E mX12_within k m7 [aL r8, aI 1, aI 99] (fun r10 m9 => Q r10 m9))))) ∧ ((mem 605 (28 + p0)) = 1 → (R32 p0 → R32 (mem 605 (18 + p0)) → R32 (mem 605 (8 + p0)) → CL E mX12_tells k mem [aR 603, aI 1, aI p0, aI (mem 605 (18 + p0)), aI (mem 605 (8 + p0)), aL 2] (fun r12 m11 => (R64 r12 → CI E mX12_within k m11 [aL r12, aI 1, aI 99] (fun r14 m13 => Q r14 m13))))))) :
    VM E mX12_digsOf (k + 1) mem 0 [(0, aR 603), (1, aI p0)] [] (retI Q) := by
  refine v_aload_n (pc := 0) dX12_digsOf_0 0 rfl ?_
  refine v_iconst (pc := 1) dX12_digsOf_1 (by decide) ?_
  refine v_iload_n (pc := 2) dX12_digsOf_2 1 rfl ?_
  refine v_aload_n (pc := 3) dX12_digsOf_3 0 rfl ?_
  refine m_getfin (pc := 4) (v := 605) hE dX12_digsOf_4 flX12_13 rfl at603 rfl ?_
  refine v_bipush (pc := 7) dX12_digsOf_7 (by decide) ?_
  refine v_iload_n (pc := 9) dX12_digsOf_9 1 rfl ?_
  obtain ⟨o1, h⟩ := h
  refine m_iadd (pc := 10) dX12_digsOf_10 o1 ?_
  obtain ⟨o2, h⟩ := h
  refine m_iald (pc := 11) (v := (mem 605 (18 + p0))) dX12_digsOf_11 at605 o2.1 o2.2 rfl ?_
  refine v_aload_n (pc := 12) dX12_digsOf_12 0 rfl ?_
  refine m_getfin (pc := 13) (v := 605) hE dX12_digsOf_13 flX12_13 rfl at603 rfl ?_
  refine v_bipush (pc := 16) dX12_digsOf_16 (by decide) ?_
  refine v_iload_n (pc := 18) dX12_digsOf_18 1 rfl ?_
  obtain ⟨o3, h⟩ := h
  refine m_iadd (pc := 19) dX12_digsOf_19 o3 ?_
  obtain ⟨o4, h⟩ := h
  refine m_iald (pc := 20) (v := (mem 605 (8 + p0))) dX12_digsOf_20 at605 o4.1 o4.2 rfl ?_
  refine v_aload_n (pc := 21) dX12_digsOf_21 0 rfl ?_
  refine m_getfin (pc := 22) (v := 605) hE dX12_digsOf_22 flX12_13 rfl at603 rfl ?_
  refine v_bipush (pc := 25) dX12_digsOf_25 (by decide) ?_
  refine v_iload_n (pc := 27) dX12_digsOf_27 1 rfl ?_
  obtain ⟨o5, h⟩ := h
  refine m_iadd (pc := 28) dX12_digsOf_28 o5 ?_
  obtain ⟨o6, h⟩ := h
  refine m_iald (pc := 29) (v := (mem 605 (28 + p0))) dX12_digsOf_29 at605 o6.1 o6.2 rfl ?_
  refine v_iconst (pc := 30) dX12_digsOf_30 (by decide) ?_
  refine v_icmpne (pc := 31) (tgt := 40) dX12_digsOf_31 (by decide) (fun c1 => ?_) (fun c1 => ?_)
  · have h := h.1 c1
    refine v_ldc2 (pc := 40) (n := 4) dX12_digsOf_40 cnX12_428 (by decide) ?_
    refine m_invL (pc := 43) (mi' := mX12_tells) (rest := []) [aI 1, aI p0, aI (mem 605 (18 + p0)), aI (mem 605 (8 + p0)), aL 4] dX12_digsOf_43 at603 (by decide) rfl msX12_tells mvX12_tells lkX12_418 rfl (Nat.le_of_ble_eq_true rfl) (fun hn => CL_mono (h (aaI hn 2 rfl) (aaI hn 3 rfl) (aaI hn 4 rfl)) (fun r8 m7 h => ?_))
    refine v_iconst (pc := 46) dX12_digsOf_46 (by decide) ?_
    refine v_bipush (pc := 47) dX12_digsOf_47 (by decide) ?_
    refine m_invSI (pc := 49) (mi' := mX12_within) (rest := []) [aL r8, aI 1, aI 99] dX12_digsOf_49 msX12_within stX12_within lkX12_422 rfl (Nat.le_of_ble_eq_true rfl) (fun hn => CI_mono (h (aaL hn 0 rfl)) (fun r10 m9 h => ?_))
    exact m_retI (pc := 52) dX12_digsOf_52 rfl h
  · have h := h.2 c1
    refine v_ldc2 (pc := 34) (n := 2) dX12_digsOf_34 cnX12_426 (by decide) ?_
    refine v_goto (pc := 37) (tgt := 43) dX12_digsOf_37 (by decide) ?_
    refine m_invL (pc := 43) (mi' := mX12_tells) (rest := []) [aI 1, aI p0, aI (mem 605 (18 + p0)), aI (mem 605 (8 + p0)), aL 2] dX12_digsOf_43 at603 (by decide) rfl msX12_tells mvX12_tells lkX12_418 rfl (Nat.le_of_ble_eq_true rfl) (fun hn => CL_mono (h (aaI hn 2 rfl) (aaI hn 3 rfl) (aaI hn 4 rfl)) (fun r12 m11 h => ?_))
    refine v_iconst (pc := 46) dX12_digsOf_46 (by decide) ?_
    refine v_bipush (pc := 47) dX12_digsOf_47 (by decide) ?_
    refine m_invSI (pc := 49) (mi' := mX12_within) (rest := []) [aL r12, aI 1, aI 99] dX12_digsOf_49 msX12_within stX12_within lkX12_422 rfl (Nat.le_of_ble_eq_true rfl) (fun hn => CI_mono (h (aaL hn 0 rfl)) (fun r14 m13 h => ?_))
    exact m_retI (pc := 52) dX12_digsOf_52 rfl h
theorem eX12_digsOf {E : EN} {k : Nat} {mem : Mm} {Q : Int → Mm → Prop} {p0 : Int} (hr_p0 : R32 p0) (h : VM E mX12_digsOf (k + 1) mem 0 [(0, aR 603), (1, aI p0)] [] (retI Q)) : CI E mX12_digsOf (k + 1) mem [aR 603, aI p0] Q := CI_of rfl (Nat.le_of_ble_eq_true rfl) h (aNs_c (aNr_R _) (aNs_c (aNr_I hr_p0) (fun _ q => nomatch q)))

theorem dX12_canGo_0 : decode cX12_canGo 0 = .ok (.aload_n 0, 1) := by decide +kernel
theorem dX12_canGo_1 : decode cX12_canGo 1 = .ok (.invokevirtual 430, 3) := by decide +kernel
theorem dX12_canGo_4 : decode cX12_canGo 4 = .ok (.ifCond .eq 31, 3) := by decide +kernel
theorem dX12_canGo_7 : decode cX12_canGo 7 = .ok (.aload_n 0, 1) := by decide +kernel
theorem dX12_canGo_8 : decode cX12_canGo 8 = .ok (.iconst 2, 1) := by decide +kernel
theorem dX12_canGo_9 : decode cX12_canGo 9 = .ok (.iload_n 1, 1) := by decide +kernel
theorem dX12_canGo_10 : decode cX12_canGo 10 = .ok (.aload_n 0, 1) := by decide +kernel
theorem dX12_canGo_11 : decode cX12_canGo 11 = .ok (.getfield 13, 3) := by decide +kernel
theorem dX12_canGo_14 : decode cX12_canGo 14 = .ok (.bipush 18, 2) := by decide +kernel
theorem dX12_canGo_16 : decode cX12_canGo 16 = .ok (.iload_n 1, 1) := by decide +kernel
theorem dX12_canGo_17 : decode cX12_canGo 17 = .ok (.iadd, 1) := by decide +kernel
theorem dX12_canGo_18 : decode cX12_canGo 18 = .ok (.iaload, 1) := by decide +kernel
theorem dX12_canGo_19 : decode cX12_canGo 19 = .ok (.iload_n 2, 1) := by decide +kernel
theorem dX12_canGo_20 : decode cX12_canGo 20 = .ok (.lconst 0, 1) := by decide +kernel
theorem dX12_canGo_21 : decode cX12_canGo 21 = .ok (.invokevirtual 418, 3) := by decide +kernel
theorem dX12_canGo_24 : decode cX12_canGo 24 = .ok (.lconst 1, 1) := by decide +kernel
theorem dX12_canGo_25 : decode cX12_canGo 25 = .ok (.lcmp, 1) := by decide +kernel
theorem dX12_canGo_26 : decode cX12_canGo 26 = .ok (.ifCond .ne 7, 3) := by decide +kernel
theorem dX12_canGo_29 : decode cX12_canGo 29 = .ok (.iconst 1, 1) := by decide +kernel
theorem dX12_canGo_30 : decode cX12_canGo 30 = .ok (.goto 4, 3) := by decide +kernel
theorem dX12_canGo_33 : decode cX12_canGo 33 = .ok (.iconst 0, 1) := by decide +kernel
theorem dX12_canGo_34 : decode cX12_canGo 34 = .ok (.ireturn, 1) := by decide +kernel
theorem dX12_canGo_35 : decode cX12_canGo 35 = .ok (.aload_n 0, 1) := by decide +kernel
theorem dX12_canGo_36 : decode cX12_canGo 36 = .ok (.getfield 13, 3) := by decide +kernel
theorem dX12_canGo_39 : decode cX12_canGo 39 = .ok (.bipush 80, 2) := by decide +kernel
theorem dX12_canGo_41 : decode cX12_canGo 41 = .ok (.iload_n 2, 1) := by decide +kernel
theorem dX12_canGo_42 : decode cX12_canGo 42 = .ok (.iadd, 1) := by decide +kernel
theorem dX12_canGo_43 : decode cX12_canGo 43 = .ok (.iaload, 1) := by decide +kernel
theorem dX12_canGo_44 : decode cX12_canGo 44 = .ok (.istore_n 3, 1) := by decide +kernel
theorem dX12_canGo_45 : decode cX12_canGo 45 = .ok (.iload_n 3, 1) := by decide +kernel
theorem dX12_canGo_46 : decode cX12_canGo 46 = .ok (.ifCond .eq 26, 3) := by decide +kernel
theorem dX12_canGo_49 : decode cX12_canGo 49 = .ok (.iload_n 3, 1) := by decide +kernel
theorem dX12_canGo_50 : decode cX12_canGo 50 = .ok (.iconst 2, 1) := by decide +kernel
theorem dX12_canGo_51 : decode cX12_canGo 51 = .ok (.if_icmp .eq 21, 3) := by decide +kernel
theorem dX12_canGo_54 : decode cX12_canGo 54 = .ok (.iload_n 3, 1) := by decide +kernel
theorem dX12_canGo_55 : decode cX12_canGo 55 = .ok (.iconst 1, 1) := by decide +kernel
theorem dX12_canGo_56 : decode cX12_canGo 56 = .ok (.if_icmp .ne 20, 3) := by decide +kernel
theorem dX12_canGo_59 : decode cX12_canGo 59 = .ok (.aload_n 0, 1) := by decide +kernel
theorem dX12_canGo_60 : decode cX12_canGo 60 = .ok (.getfield 13, 3) := by decide +kernel
theorem dX12_canGo_63 : decode cX12_canGo 63 = .ok (.bipush 48, 2) := by decide +kernel
theorem dX12_canGo_65 : decode cX12_canGo 65 = .ok (.iload_n 2, 1) := by decide +kernel
theorem dX12_canGo_66 : decode cX12_canGo 66 = .ok (.iadd, 1) := by decide +kernel
theorem dX12_canGo_67 : decode cX12_canGo 67 = .ok (.iaload, 1) := by decide +kernel
theorem dX12_canGo_68 : decode cX12_canGo 68 = .ok (.iconst 1, 1) := by decide +kernel
theorem dX12_canGo_69 : decode cX12_canGo 69 = .ok (.if_icmp .ne 7, 3) := by decide +kernel
theorem dX12_canGo_72 : decode cX12_canGo 72 = .ok (.iconst 1, 1) := by decide +kernel
theorem dX12_canGo_73 : decode cX12_canGo 73 = .ok (.goto 4, 3) := by decide +kernel
theorem dX12_canGo_76 : decode cX12_canGo 76 = .ok (.iconst 0, 1) := by decide +kernel
theorem dX12_canGo_77 : decode cX12_canGo 77 = .ok (.ireturn, 1) := by decide +kernel
set_option maxRecDepth 20000 in
theorem rX12_canGo_0 {E : EN} (hE : Ep E) {k : Nat} {mem : Mm} {Q : Int → Mm → Prop} {p0 p1 : Int}
    (h : (CI E mX12_tellsGoing k mem [aR 603] (fun r2 m1 => ((r2 = 0 → (R32 (80 + p1)) ∧ (0 ≤ (80 + p1) ∧ (80 + p1) < 5570) ∧ (((m1 605 (80 + p1)) = 0 → Q 1 m1) ∧ (¬ (m1 605 (80 + p1)) = 0 → (((m1 605 (80 + p1)) = 2 → Q 1 m1) ∧ (¬ (m1 605 (80 + p1)) = 2 → ((¬ (m1 605 (80 + p1)) = 1 → Q 0 m1) ∧ ((m1 605 (80 + p1)) = 1 → (R32 (48 + p1)) ∧ (0 ≤ (48 + p1) ∧ (48 + p1) < 5570) ∧ ((¬ (m1 605 (48 + p1)) = 1 → Q 0 m1) ∧ ((m1 605 (48 + p1)) = 1 → Q 1 m1))))))))) ∧ (¬ r2 = 0 → (R32 (18 + p0)) ∧ (0 ≤ (18 + p0) ∧ (18 + p0) < 5570) ∧ (R32 p0 → R32 (m1 605 (18 + p0)) → R32 p1 → CL E mX12_tells k m1 [aR 603, aI 2, aI p0, aI (m1 605 (18 + p0)), aI p1, aL 0] (fun r10 m9 => ((¬ r10 = 1 → Q 0 m9) ∧ (r10 = 1 → Q 1 m9))))))))) :
    VM E mX12_canGo (k + 1) mem 0 [(0, aR 603), (1, aI p0), (2, aI p1)] [] (retI Q) := by
  refine v_aload_n (pc := 0) dX12_canGo_0 0 rfl ?_
  refine m_invI (pc := 1) (mi' := mX12_tellsGoing) (rest := []) [] dX12_canGo_1 at603 (by decide) rfl msX12_tellsGoing mvX12_tellsGoing lkX12_430 rfl (Nat.le_of_ble_eq_true rfl) (fun hn => CI_mono (h) (fun r2 m1 h => ?_))
  refine v_ifeq (pc := 4) (tgt := 35) dX12_canGo_4 (by decide) (fun c1 => ?_) (fun c1 => ?_)
  · have h := h.1 c1
    refine v_aload_n (pc := 35) dX12_canGo_35 0 rfl ?_
    refine m_getfin (pc := 36) (v := 605) hE dX12_canGo_36 flX12_13 rfl at603 rfl ?_
    refine v_bipush (pc := 39) dX12_canGo_39 (by decide) ?_
    refine v_iload_n (pc := 41) dX12_canGo_41 2 rfl ?_
    obtain ⟨o3, h⟩ := h
    refine m_iadd (pc := 42) dX12_canGo_42 o3 ?_
    obtain ⟨o4, h⟩ := h
    refine m_iald (pc := 43) (v := (m1 605 (80 + p1))) dX12_canGo_43 at605 o4.1 o4.2 rfl ?_
    refine v_istore_n (pc := 44) (al2 := [(3, aI (m1 605 (80 + p1))), (0, aR 603), (1, aI p0), (2, aI p1)]) dX12_canGo_44 (by decide) rfl ?_
    refine v_iload_n (pc := 45) dX12_canGo_45 0 rfl ?_
    refine v_ifeq (pc := 46) (tgt := 72) dX12_canGo_46 (by decide) (fun c1 => ?_) (fun c1 => ?_)
    · have h := h.1 c1
      refine v_iconst (pc := 72) dX12_canGo_72 (by decide) ?_
      refine v_goto (pc := 73) (tgt := 77) dX12_canGo_73 (by decide) ?_
      exact m_retZ (pc := 77) dX12_canGo_77 rfl (by decide) h
    · have h := h.2 c1
      refine v_iload_n (pc := 49) dX12_canGo_49 0 rfl ?_
      refine v_iconst (pc := 50) dX12_canGo_50 (by decide) ?_
      refine v_icmpeq (pc := 51) (tgt := 72) dX12_canGo_51 (by decide) (fun c1 => ?_) (fun c1 => ?_)
      · have h := h.1 c1
        refine v_iconst (pc := 72) dX12_canGo_72 (by decide) ?_
        refine v_goto (pc := 73) (tgt := 77) dX12_canGo_73 (by decide) ?_
        exact m_retZ (pc := 77) dX12_canGo_77 rfl (by decide) h
      · have h := h.2 c1
        refine v_iload_n (pc := 54) dX12_canGo_54 0 rfl ?_
        refine v_iconst (pc := 55) dX12_canGo_55 (by decide) ?_
        refine v_icmpne (pc := 56) (tgt := 76) dX12_canGo_56 (by decide) (fun c1 => ?_) (fun c1 => ?_)
        · have h := h.1 c1
          refine v_iconst (pc := 76) dX12_canGo_76 (by decide) ?_
          exact m_retZ (pc := 77) dX12_canGo_77 rfl (by decide) h
        · have h := h.2 c1
          refine v_aload_n (pc := 59) dX12_canGo_59 1 rfl ?_
          refine m_getfin (pc := 60) (v := 605) hE dX12_canGo_60 flX12_13 rfl at603 rfl ?_
          refine v_bipush (pc := 63) dX12_canGo_63 (by decide) ?_
          refine v_iload_n (pc := 65) dX12_canGo_65 3 rfl ?_
          obtain ⟨o5, h⟩ := h
          refine m_iadd (pc := 66) dX12_canGo_66 o5 ?_
          obtain ⟨o6, h⟩ := h
          refine m_iald (pc := 67) (v := (m1 605 (48 + p1))) dX12_canGo_67 at605 o6.1 o6.2 rfl ?_
          refine v_iconst (pc := 68) dX12_canGo_68 (by decide) ?_
          refine v_icmpne (pc := 69) (tgt := 76) dX12_canGo_69 (by decide) (fun c1 => ?_) (fun c1 => ?_)
          · have h := h.1 c1
            refine v_iconst (pc := 76) dX12_canGo_76 (by decide) ?_
            exact m_retZ (pc := 77) dX12_canGo_77 rfl (by decide) h
          · have h := h.2 c1
            refine v_iconst (pc := 72) dX12_canGo_72 (by decide) ?_
            refine v_goto (pc := 73) (tgt := 77) dX12_canGo_73 (by decide) ?_
            exact m_retZ (pc := 77) dX12_canGo_77 rfl (by decide) h
  · have h := h.2 c1
    refine v_aload_n (pc := 7) dX12_canGo_7 0 rfl ?_
    refine v_iconst (pc := 8) dX12_canGo_8 (by decide) ?_
    refine v_iload_n (pc := 9) dX12_canGo_9 1 rfl ?_
    refine v_aload_n (pc := 10) dX12_canGo_10 0 rfl ?_
    refine m_getfin (pc := 11) (v := 605) hE dX12_canGo_11 flX12_13 rfl at603 rfl ?_
    refine v_bipush (pc := 14) dX12_canGo_14 (by decide) ?_
    refine v_iload_n (pc := 16) dX12_canGo_16 1 rfl ?_
    obtain ⟨o7, h⟩ := h
    refine m_iadd (pc := 17) dX12_canGo_17 o7 ?_
    obtain ⟨o8, h⟩ := h
    refine m_iald (pc := 18) (v := (m1 605 (18 + p0))) dX12_canGo_18 at605 o8.1 o8.2 rfl ?_
    refine v_iload_n (pc := 19) dX12_canGo_19 2 rfl ?_
    refine v_lconst0 (pc := 20) dX12_canGo_20 ?_
    refine m_invL (pc := 21) (mi' := mX12_tells) (rest := []) [aI 2, aI p0, aI (m1 605 (18 + p0)), aI p1, aL 0] dX12_canGo_21 at603 (by decide) rfl msX12_tells mvX12_tells lkX12_418 rfl (Nat.le_of_ble_eq_true rfl) (fun hn => CL_mono (h (aaI hn 2 rfl) (aaI hn 3 rfl) (aaI hn 4 rfl)) (fun r10 m9 h => ?_))
    refine v_lconst1 (pc := 24) dX12_canGo_24 ?_
    refine v_lcmpne (pc := 25) (tgt := 33) dX12_canGo_25 dX12_canGo_26 (by decide) (fun c1 => ?_) (fun c1 => ?_)
    · have h := h.1 c1
      refine v_iconst (pc := 33) dX12_canGo_33 (by decide) ?_
      exact m_retZ (pc := 34) dX12_canGo_34 rfl (by decide) h
    · have h := h.2 c1
      refine v_iconst (pc := 29) dX12_canGo_29 (by decide) ?_
      refine v_goto (pc := 30) (tgt := 34) dX12_canGo_30 (by decide) ?_
      exact m_retZ (pc := 34) dX12_canGo_34 rfl (by decide) h
theorem eX12_canGo {E : EN} {k : Nat} {mem : Mm} {Q : Int → Mm → Prop} {p0 p1 : Int} (hr_p0 : R32 p0) (hr_p1 : R32 p1) (h : VM E mX12_canGo (k + 1) mem 0 [(0, aR 603), (1, aI p0), (2, aI p1)] [] (retI Q)) : CI E mX12_canGo (k + 1) mem [aR 603, aI p0, aI p1] Q := CI_of rfl (Nat.le_of_ble_eq_true rfl) h (aNs_c (aNr_R _) (aNs_c (aNr_I hr_p0) (aNs_c (aNr_I hr_p1) (fun _ q => nomatch q))))

theorem dX12_isBarred_0 : decode cX12_isBarred 0 = .ok (.aload_n 0, 1) := by decide +kernel
theorem dX12_isBarred_1 : decode cX12_isBarred 1 = .ok (.iconst 3, 1) := by decide +kernel
theorem dX12_isBarred_2 : decode cX12_isBarred 2 = .ok (.iconst (-1), 1) := by decide +kernel
theorem dX12_isBarred_3 : decode cX12_isBarred 3 = .ok (.iload_n 1, 1) := by decide +kernel
theorem dX12_isBarred_4 : decode cX12_isBarred 4 = .ok (.iload_n 2, 1) := by decide +kernel
theorem dX12_isBarred_5 : decode cX12_isBarred 5 = .ok (.lconst 0, 1) := by decide +kernel
theorem dX12_isBarred_6 : decode cX12_isBarred 6 = .ok (.invokevirtual 418, 3) := by decide +kernel
theorem dX12_isBarred_9 : decode cX12_isBarred 9 = .ok (.lconst 1, 1) := by decide +kernel
theorem dX12_isBarred_10 : decode cX12_isBarred 10 = .ok (.lcmp, 1) := by decide +kernel
theorem dX12_isBarred_11 : decode cX12_isBarred 11 = .ok (.ifCond .ne 7, 3) := by decide +kernel
theorem dX12_isBarred_14 : decode cX12_isBarred 14 = .ok (.iconst 1, 1) := by decide +kernel
theorem dX12_isBarred_15 : decode cX12_isBarred 15 = .ok (.goto 4, 3) := by decide +kernel
theorem dX12_isBarred_18 : decode cX12_isBarred 18 = .ok (.iconst 0, 1) := by decide +kernel
theorem dX12_isBarred_19 : decode cX12_isBarred 19 = .ok (.ireturn, 1) := by decide +kernel
set_option maxRecDepth 20000 in
theorem rX12_isBarred_0 {E : EN} (hE : Ep E) {k : Nat} {mem : Mm} {Q : Int → Mm → Prop} {p0 p1 : Int}
    (h : (R32 p0 → R32 p1 → CL E mX12_tells k mem [aR 603, aI 3, aI (-1), aI p0, aI p1, aL 0] (fun r2 m1 => ((¬ r2 = 1 → Q 0 m1) ∧ (r2 = 1 → Q 1 m1))))) :
    VM E mX12_isBarred (k + 1) mem 0 [(0, aR 603), (1, aI p0), (2, aI p1)] [] (retI Q) := by
  refine v_aload_n (pc := 0) dX12_isBarred_0 0 rfl ?_
  refine v_iconst (pc := 1) dX12_isBarred_1 (by decide) ?_
  refine v_iconst (pc := 2) dX12_isBarred_2 (by decide) ?_
  refine v_iload_n (pc := 3) dX12_isBarred_3 1 rfl ?_
  refine v_iload_n (pc := 4) dX12_isBarred_4 2 rfl ?_
  refine v_lconst0 (pc := 5) dX12_isBarred_5 ?_
  refine m_invL (pc := 6) (mi' := mX12_tells) (rest := []) [aI 3, aI (-1), aI p0, aI p1, aL 0] dX12_isBarred_6 at603 (by decide) rfl msX12_tells mvX12_tells lkX12_418 rfl (Nat.le_of_ble_eq_true rfl) (fun hn => CL_mono (h (aaI hn 3 rfl) (aaI hn 4 rfl)) (fun r2 m1 h => ?_))
  refine v_lconst1 (pc := 9) dX12_isBarred_9 ?_
  refine v_lcmpne (pc := 10) (tgt := 18) dX12_isBarred_10 dX12_isBarred_11 (by decide) (fun c1 => ?_) (fun c1 => ?_)
  · have h := h.1 c1
    refine v_iconst (pc := 18) dX12_isBarred_18 (by decide) ?_
    exact m_retZ (pc := 19) dX12_isBarred_19 rfl (by decide) h
  · have h := h.2 c1
    refine v_iconst (pc := 14) dX12_isBarred_14 (by decide) ?_
    refine v_goto (pc := 15) (tgt := 19) dX12_isBarred_15 (by decide) ?_
    exact m_retZ (pc := 19) dX12_isBarred_19 rfl (by decide) h
theorem eX12_isBarred {E : EN} {k : Nat} {mem : Mm} {Q : Int → Mm → Prop} {p0 p1 : Int} (hr_p0 : R32 p0) (hr_p1 : R32 p1) (h : VM E mX12_isBarred (k + 1) mem 0 [(0, aR 603), (1, aI p0), (2, aI p1)] [] (retI Q)) : CI E mX12_isBarred (k + 1) mem [aR 603, aI p0, aI p1] Q := CI_of rfl (Nat.le_of_ble_eq_true rfl) h (aNs_c (aNr_R _) (aNs_c (aNr_I hr_p0) (aNs_c (aNr_I hr_p1) (fun _ q => nomatch q))))

theorem dX12_goes_0 : decode cX12_goes 0 = .ok (.aload_n 0, 1) := by decide +kernel
theorem dX12_goes_1 : decode cX12_goes 1 = .ok (.iconst 0, 1) := by decide +kernel
theorem dX12_goes_2 : decode cX12_goes 2 = .ok (.putfield 162, 3) := by decide +kernel
theorem dX12_goes_5 : decode cX12_goes 5 = .ok (.aload_n 0, 1) := by decide +kernel
theorem dX12_goes_6 : decode cX12_goes 6 = .ok (.iload_n 1, 1) := by decide +kernel
theorem dX12_goes_7 : decode cX12_goes 7 = .ok (.invokevirtual 214, 3) := by decide +kernel
theorem dX12_goes_10 : decode cX12_goes 10 = .ok (.ifCond .eq 10, 3) := by decide +kernel
theorem dX12_goes_13 : decode cX12_goes 13 = .ok (.iload_n 2, 1) := by decide +kernel
theorem dX12_goes_14 : decode cX12_goes 14 = .ok (.invokestatic 192, 3) := by decide +kernel
theorem dX12_goes_17 : decode cX12_goes 17 = .ok (.ifCond .ne 7, 3) := by decide +kernel
theorem dX12_goes_20 : decode cX12_goes 20 = .ok (.iconst (-1), 1) := by decide +kernel
theorem dX12_goes_21 : decode cX12_goes 21 = .ok (.goto 17, 3) := by decide +kernel
theorem dX12_goes_24 : decode cX12_goes 24 = .ok (.aload_n 0, 1) := by decide +kernel
theorem dX12_goes_25 : decode cX12_goes 25 = .ok (.iload_n 1, 1) := by decide +kernel
theorem dX12_goes_26 : decode cX12_goes 26 = .ok (.iload_n 2, 1) := by decide +kernel
theorem dX12_goes_27 : decode cX12_goes 27 = .ok (.invokevirtual 433, 3) := by decide +kernel
theorem dX12_goes_30 : decode cX12_goes 30 = .ok (.ifCond .eq 7, 3) := by decide +kernel
theorem dX12_goes_33 : decode cX12_goes 33 = .ok (.iconst 1, 1) := by decide +kernel
theorem dX12_goes_34 : decode cX12_goes 34 = .ok (.goto 4, 3) := by decide +kernel
theorem dX12_goes_37 : decode cX12_goes 37 = .ok (.iconst 0, 1) := by decide +kernel
theorem dX12_goes_38 : decode cX12_goes 38 = .ok (.ireturn, 1) := by decide +kernel
set_option maxRecDepth 20000 in
theorem rX12_goes_0 {E : EN} (hE : Ep E) {k : Nat} {mem : Mm} {Q : Int → Mm → Prop} {p0 p1 : Int}
    (h : (R32 p0 → CI E mX12_isPlot k (aUp mem 603 0 0) [aR 603, aI p0] (fun r2 m1 => ((r2 = 0 → Q (-1) m1) ∧ (¬ r2 = 0 → (R32 p1 → CI E mX12_isCell k m1 [aI p1] (fun r4 m3 => ((¬ r4 = 0 → (R32 p0 → R32 p1 → CI E mX12_canGo k m3 [aR 603, aI p0, aI p1] (fun r6 m5 => ((r6 = 0 → Q 0 m5) ∧ (¬ r6 = 0 → Q 1 m5))))) ∧ (r4 = 0 → Q (-1) m3))))))))) :
    VM E mX12_goes (k + 1) mem 0 [(0, aR 603), (1, aI p0), (2, aI p1)] [] (retI Q) := by
  refine v_aload_n (pc := 0) dX12_goes_0 0 rfl ?_
  refine v_iconst (pc := 1) dX12_goes_1 (by decide) ?_
  refine v_putf (pc := 2) dX12_goes_2 flX12_162 ⟨_, _, rfl, Or.inl rfl⟩ rfl (by decide) (fun q => nomatch q) (Or.inl fun _ => rfl) at603 ?_
  refine v_aload_n (pc := 5) dX12_goes_5 0 rfl ?_
  refine v_iload_n (pc := 6) dX12_goes_6 1 rfl ?_
  refine m_invI (pc := 7) (mi' := mX12_isPlot) (rest := []) [aI p0] dX12_goes_7 at603 (by decide) rfl msX12_isPlot mvX12_isPlot lkX12_214 rfl (Nat.le_of_ble_eq_true rfl) (fun hn => CI_mono (h (aaI hn 1 rfl)) (fun r2 m1 h => ?_))
  refine v_ifeq (pc := 10) (tgt := 20) dX12_goes_10 (by decide) (fun c1 => ?_) (fun c1 => ?_)
  · have h := h.1 c1
    refine v_iconst (pc := 20) dX12_goes_20 (by decide) ?_
    refine v_goto (pc := 21) (tgt := 38) dX12_goes_21 (by decide) ?_
    exact m_retI (pc := 38) dX12_goes_38 rfl h
  · have h := h.2 c1
    refine v_iload_n (pc := 13) dX12_goes_13 2 rfl ?_
    refine m_invSI (pc := 14) (mi' := mX12_isCell) (rest := []) [aI p1] dX12_goes_14 msX12_isCell stX12_isCell lkX12_192 rfl (Nat.le_of_ble_eq_true rfl) (fun hn => CI_mono (h (aaI hn 0 rfl)) (fun r4 m3 h => ?_))
    refine v_ifne (pc := 17) (tgt := 24) dX12_goes_17 (by decide) (fun c1 => ?_) (fun c1 => ?_)
    · have h := h.1 c1
      refine v_aload_n (pc := 24) dX12_goes_24 0 rfl ?_
      refine v_iload_n (pc := 25) dX12_goes_25 1 rfl ?_
      refine v_iload_n (pc := 26) dX12_goes_26 2 rfl ?_
      refine m_invI (pc := 27) (mi' := mX12_canGo) (rest := []) [aI p0, aI p1] dX12_goes_27 at603 (by decide) rfl msX12_canGo mvX12_canGo lkX12_433 rfl (Nat.le_of_ble_eq_true rfl) (fun hn => CI_mono (h (aaI hn 1 rfl) (aaI hn 2 rfl)) (fun r6 m5 h => ?_))
      refine v_ifeq (pc := 30) (tgt := 37) dX12_goes_30 (by decide) (fun c1 => ?_) (fun c1 => ?_)
      · have h := h.1 c1
        refine v_iconst (pc := 37) dX12_goes_37 (by decide) ?_
        exact m_retI (pc := 38) dX12_goes_38 rfl h
      · have h := h.2 c1
        refine v_iconst (pc := 33) dX12_goes_33 (by decide) ?_
        refine v_goto (pc := 34) (tgt := 38) dX12_goes_34 (by decide) ?_
        exact m_retI (pc := 38) dX12_goes_38 rfl h
    · have h := h.2 c1
      refine v_iconst (pc := 20) dX12_goes_20 (by decide) ?_
      refine v_goto (pc := 21) (tgt := 38) dX12_goes_21 (by decide) ?_
      exact m_retI (pc := 38) dX12_goes_38 rfl h
theorem eX12_goes {E : EN} {k : Nat} {mem : Mm} {Q : Int → Mm → Prop} {p0 p1 : Int} (hr_p0 : R32 p0) (hr_p1 : R32 p1) (h : VM E mX12_goes (k + 1) mem 0 [(0, aR 603), (1, aI p0), (2, aI p1)] [] (retI Q)) : CI E mX12_goes (k + 1) mem [aR 603, aI p0, aI p1] Q := CI_of rfl (Nat.le_of_ble_eq_true rfl) h (aNs_c (aNr_R _) (aNs_c (aNr_I hr_p0) (aNs_c (aNr_I hr_p1) (fun _ q => nomatch q))))

theorem dX12_barred_0 : decode cX12_barred 0 = .ok (.aload_n 0, 1) := by decide +kernel
theorem dX12_barred_1 : decode cX12_barred 1 = .ok (.iconst 0, 1) := by decide +kernel
theorem dX12_barred_2 : decode cX12_barred 2 = .ok (.putfield 162, 3) := by decide +kernel
theorem dX12_barred_5 : decode cX12_barred 5 = .ok (.iload_n 1, 1) := by decide +kernel
theorem dX12_barred_6 : decode cX12_barred 6 = .ok (.i2l, 1) := by decide +kernel
theorem dX12_barred_7 : decode cX12_barred 7 = .ok (.lconst 0, 1) := by decide +kernel
theorem dX12_barred_8 : decode cX12_barred 8 = .ok (.ldc2_w 436, 3) := by decide +kernel
theorem dX12_barred_11 : decode cX12_barred 11 = .ok (.invokestatic 182, 3) := by decide +kernel
theorem dX12_barred_14 : decode cX12_barred 14 = .ok (.ifCond .eq 10, 3) := by decide +kernel
theorem dX12_barred_17 : decode cX12_barred 17 = .ok (.iload_n 2, 1) := by decide +kernel
theorem dX12_barred_18 : decode cX12_barred 18 = .ok (.invokestatic 192, 3) := by decide +kernel
theorem dX12_barred_21 : decode cX12_barred 21 = .ok (.ifCond .ne 7, 3) := by decide +kernel
theorem dX12_barred_24 : decode cX12_barred 24 = .ok (.iconst (-1), 1) := by decide +kernel
theorem dX12_barred_25 : decode cX12_barred 25 = .ok (.goto 17, 3) := by decide +kernel
theorem dX12_barred_28 : decode cX12_barred 28 = .ok (.aload_n 0, 1) := by decide +kernel
theorem dX12_barred_29 : decode cX12_barred 29 = .ok (.iload_n 1, 1) := by decide +kernel
theorem dX12_barred_30 : decode cX12_barred 30 = .ok (.iload_n 2, 1) := by decide +kernel
theorem dX12_barred_31 : decode cX12_barred 31 = .ok (.invokevirtual 438, 3) := by decide +kernel
theorem dX12_barred_34 : decode cX12_barred 34 = .ok (.ifCond .eq 7, 3) := by decide +kernel
theorem dX12_barred_37 : decode cX12_barred 37 = .ok (.iconst 1, 1) := by decide +kernel
theorem dX12_barred_38 : decode cX12_barred 38 = .ok (.goto 4, 3) := by decide +kernel
theorem dX12_barred_41 : decode cX12_barred 41 = .ok (.iconst 0, 1) := by decide +kernel
theorem dX12_barred_42 : decode cX12_barred 42 = .ok (.ireturn, 1) := by decide +kernel
set_option maxRecDepth 20000 in
theorem rX12_barred_0 {E : EN} (hE : Ep E) {k : Nat} {mem : Mm} {Q : Int → Mm → Prop} {p0 p1 : Int}
    (h : (R64 p0 → CI E mX12_in k (aUp mem 603 0 0) [aL p0, aL 0, aL 5] (fun r2 m1 => ((r2 = 0 → Q (-1) m1) ∧ (¬ r2 = 0 → (R32 p1 → CI E mX12_isCell k m1 [aI p1] (fun r4 m3 => ((¬ r4 = 0 → (R32 p0 → R32 p1 → CI E mX12_isBarred k m3 [aR 603, aI p0, aI p1] (fun r6 m5 => ((r6 = 0 → Q 0 m5) ∧ (¬ r6 = 0 → Q 1 m5))))) ∧ (r4 = 0 → Q (-1) m3))))))))) :
    VM E mX12_barred (k + 1) mem 0 [(0, aR 603), (1, aI p0), (2, aI p1)] [] (retI Q) := by
  refine v_aload_n (pc := 0) dX12_barred_0 0 rfl ?_
  refine v_iconst (pc := 1) dX12_barred_1 (by decide) ?_
  refine v_putf (pc := 2) dX12_barred_2 flX12_162 ⟨_, _, rfl, Or.inl rfl⟩ rfl (by decide) (fun q => nomatch q) (Or.inl fun _ => rfl) at603 ?_
  refine v_iload_n (pc := 5) dX12_barred_5 1 rfl ?_
  refine v_i2l (pc := 6) dX12_barred_6 ?_
  refine v_lconst0 (pc := 7) dX12_barred_7 ?_
  refine v_ldc2 (pc := 8) (n := 5) dX12_barred_8 cnX12_436 (by decide) ?_
  refine m_invSI (pc := 11) (mi' := mX12_in) (rest := []) [aL p0, aL 0, aL 5] dX12_barred_11 msX12_in stX12_in lkX12_182 rfl (Nat.le_of_ble_eq_true rfl) (fun hn => CI_mono (h (aaL hn 0 rfl)) (fun r2 m1 h => ?_))
  refine v_ifeq (pc := 14) (tgt := 24) dX12_barred_14 (by decide) (fun c1 => ?_) (fun c1 => ?_)
  · have h := h.1 c1
    refine v_iconst (pc := 24) dX12_barred_24 (by decide) ?_
    refine v_goto (pc := 25) (tgt := 42) dX12_barred_25 (by decide) ?_
    exact m_retI (pc := 42) dX12_barred_42 rfl h
  · have h := h.2 c1
    refine v_iload_n (pc := 17) dX12_barred_17 2 rfl ?_
    refine m_invSI (pc := 18) (mi' := mX12_isCell) (rest := []) [aI p1] dX12_barred_18 msX12_isCell stX12_isCell lkX12_192 rfl (Nat.le_of_ble_eq_true rfl) (fun hn => CI_mono (h (aaI hn 0 rfl)) (fun r4 m3 h => ?_))
    refine v_ifne (pc := 21) (tgt := 28) dX12_barred_21 (by decide) (fun c1 => ?_) (fun c1 => ?_)
    · have h := h.1 c1
      refine v_aload_n (pc := 28) dX12_barred_28 0 rfl ?_
      refine v_iload_n (pc := 29) dX12_barred_29 1 rfl ?_
      refine v_iload_n (pc := 30) dX12_barred_30 2 rfl ?_
      refine m_invI (pc := 31) (mi' := mX12_isBarred) (rest := []) [aI p0, aI p1] dX12_barred_31 at603 (by decide) rfl msX12_isBarred mvX12_isBarred lkX12_438 rfl (Nat.le_of_ble_eq_true rfl) (fun hn => CI_mono (h (aaI hn 1 rfl) (aaI hn 2 rfl)) (fun r6 m5 h => ?_))
      refine v_ifeq (pc := 34) (tgt := 41) dX12_barred_34 (by decide) (fun c1 => ?_) (fun c1 => ?_)
      · have h := h.1 c1
        refine v_iconst (pc := 41) dX12_barred_41 (by decide) ?_
        exact m_retI (pc := 42) dX12_barred_42 rfl h
      · have h := h.2 c1
        refine v_iconst (pc := 37) dX12_barred_37 (by decide) ?_
        refine v_goto (pc := 38) (tgt := 42) dX12_barred_38 (by decide) ?_
        exact m_retI (pc := 42) dX12_barred_42 rfl h
    · have h := h.2 c1
      refine v_iconst (pc := 24) dX12_barred_24 (by decide) ?_
      refine v_goto (pc := 25) (tgt := 42) dX12_barred_25 (by decide) ?_
      exact m_retI (pc := 42) dX12_barred_42 rfl h
theorem eX12_barred {E : EN} {k : Nat} {mem : Mm} {Q : Int → Mm → Prop} {p0 p1 : Int} (hr_p0 : R32 p0) (hr_p1 : R32 p1) (h : VM E mX12_barred (k + 1) mem 0 [(0, aR 603), (1, aI p0), (2, aI p1)] [] (retI Q)) : CI E mX12_barred (k + 1) mem [aR 603, aI p0, aI p1] Q := CI_of rfl (Nat.le_of_ble_eq_true rfl) h (aNs_c (aNr_R _) (aNs_c (aNr_I hr_p0) (aNs_c (aNr_I hr_p1) (fun _ q => nomatch q))))

theorem dX12_canLie_0 : decode cX12_canLie 0 = .ok (.aload_n 0, 1) := by decide +kernel
theorem dX12_canLie_1 : decode cX12_canLie 1 = .ok (.getfield 13, 3) := by decide +kernel
theorem dX12_canLie_4 : decode cX12_canLie 4 = .ok (.bipush 80, 2) := by decide +kernel
theorem dX12_canLie_6 : decode cX12_canLie 6 = .ok (.iload_n 2, 1) := by decide +kernel
theorem dX12_canLie_7 : decode cX12_canLie 7 = .ok (.iadd, 1) := by decide +kernel
theorem dX12_canLie_8 : decode cX12_canLie 8 = .ok (.iaload, 1) := by decide +kernel
theorem dX12_canLie_9 : decode cX12_canLie 9 = .ok (.ifCond .ne 25, 3) := by decide +kernel
theorem dX12_canLie_12 : decode cX12_canLie 12 = .ok (.aload_n 0, 1) := by decide +kernel
theorem dX12_canLie_13 : decode cX12_canLie 13 = .ok (.iload_n 2, 1) := by decide +kernel
theorem dX12_canLie_14 : decode cX12_canLie 14 = .ok (.invokevirtual 203, 3) := by decide +kernel
theorem dX12_canLie_17 : decode cX12_canLie 17 = .ok (.iconst (-1), 1) := by decide +kernel
theorem dX12_canLie_18 : decode cX12_canLie 18 = .ok (.if_icmp .ne 16, 3) := by decide +kernel
theorem dX12_canLie_21 : decode cX12_canLie 21 = .ok (.aload_n 0, 1) := by decide +kernel
theorem dX12_canLie_22 : decode cX12_canLie 22 = .ok (.iload_n 1, 1) := by decide +kernel
theorem dX12_canLie_23 : decode cX12_canLie 23 = .ok (.iload_n 2, 1) := by decide +kernel
theorem dX12_canLie_24 : decode cX12_canLie 24 = .ok (.invokevirtual 438, 3) := by decide +kernel
theorem dX12_canLie_27 : decode cX12_canLie 27 = .ok (.ifCond .ne 7, 3) := by decide +kernel
theorem dX12_canLie_30 : decode cX12_canLie 30 = .ok (.iconst 1, 1) := by decide +kernel
theorem dX12_canLie_31 : decode cX12_canLie 31 = .ok (.goto 4, 3) := by decide +kernel
theorem dX12_canLie_34 : decode cX12_canLie 34 = .ok (.iconst 0, 1) := by decide +kernel
theorem dX12_canLie_35 : decode cX12_canLie 35 = .ok (.ireturn, 1) := by decide +kernel
set_option maxRecDepth 20000 in
theorem rX12_canLie_0 {E : EN} (hE : Ep E) {k : Nat} {mem : Mm} {Q : Int → Mm → Prop} {p0 p1 : Int}
    (h : (R32 (80 + p1)) ∧ (0 ≤ (80 + p1) ∧ (80 + p1) < 5570) ∧ ((¬ (mem 605 (80 + p1)) = 0 → Q 0 mem) ∧ ((mem 605 (80 + p1)) = 0 → (R32 p1 → CI E mX12_plotIn k mem [aR 603, aI p1] (fun r4 m3 => ((¬ r4 = (-1) → Q 0 m3) ∧ (r4 = (-1) → (R32 p0 → R32 p1 → CI E mX12_isBarred k m3 [aR 603, aI p0, aI p1] (fun r6 m5 => ((¬ r6 = 0 → Q 0 m5) ∧ (r6 = 0 → Q 1 m5))))))))))) :
    VM E mX12_canLie (k + 1) mem 0 [(0, aR 603), (1, aI p0), (2, aI p1)] [] (retI Q) := by
  refine v_aload_n (pc := 0) dX12_canLie_0 0 rfl ?_
  refine m_getfin (pc := 1) (v := 605) hE dX12_canLie_1 flX12_13 rfl at603 rfl ?_
  refine v_bipush (pc := 4) dX12_canLie_4 (by decide) ?_
  refine v_iload_n (pc := 6) dX12_canLie_6 2 rfl ?_
  obtain ⟨o1, h⟩ := h
  refine m_iadd (pc := 7) dX12_canLie_7 o1 ?_
  obtain ⟨o2, h⟩ := h
  refine m_iald (pc := 8) (v := (mem 605 (80 + p1))) dX12_canLie_8 at605 o2.1 o2.2 rfl ?_
  refine v_ifne (pc := 9) (tgt := 34) dX12_canLie_9 (by decide) (fun c1 => ?_) (fun c1 => ?_)
  · have h := h.1 c1
    refine v_iconst (pc := 34) dX12_canLie_34 (by decide) ?_
    exact m_retZ (pc := 35) dX12_canLie_35 rfl (by decide) h
  · have h := h.2 c1
    refine v_aload_n (pc := 12) dX12_canLie_12 0 rfl ?_
    refine v_iload_n (pc := 13) dX12_canLie_13 2 rfl ?_
    refine m_invI (pc := 14) (mi' := mX12_plotIn) (rest := []) [aI p1] dX12_canLie_14 at603 (by decide) rfl msX12_plotIn mvX12_plotIn lkX12_203 rfl (Nat.le_of_ble_eq_true rfl) (fun hn => CI_mono (h (aaI hn 1 rfl)) (fun r4 m3 h => ?_))
    refine v_iconst (pc := 17) dX12_canLie_17 (by decide) ?_
    refine v_icmpne (pc := 18) (tgt := 34) dX12_canLie_18 (by decide) (fun c1 => ?_) (fun c1 => ?_)
    · have h := h.1 c1
      refine v_iconst (pc := 34) dX12_canLie_34 (by decide) ?_
      exact m_retZ (pc := 35) dX12_canLie_35 rfl (by decide) h
    · have h := h.2 c1
      refine v_aload_n (pc := 21) dX12_canLie_21 0 rfl ?_
      refine v_iload_n (pc := 22) dX12_canLie_22 1 rfl ?_
      refine v_iload_n (pc := 23) dX12_canLie_23 2 rfl ?_
      refine m_invI (pc := 24) (mi' := mX12_isBarred) (rest := []) [aI p0, aI p1] dX12_canLie_24 at603 (by decide) rfl msX12_isBarred mvX12_isBarred lkX12_438 rfl (Nat.le_of_ble_eq_true rfl) (fun hn => CI_mono (h (aaI hn 1 rfl) (aaI hn 2 rfl)) (fun r6 m5 h => ?_))
      refine v_ifne (pc := 27) (tgt := 34) dX12_canLie_27 (by decide) (fun c1 => ?_) (fun c1 => ?_)
      · have h := h.1 c1
        refine v_iconst (pc := 34) dX12_canLie_34 (by decide) ?_
        exact m_retZ (pc := 35) dX12_canLie_35 rfl (by decide) h
      · have h := h.2 c1
        refine v_iconst (pc := 30) dX12_canLie_30 (by decide) ?_
        refine v_goto (pc := 31) (tgt := 35) dX12_canLie_31 (by decide) ?_
        exact m_retZ (pc := 35) dX12_canLie_35 rfl (by decide) h
theorem eX12_canLie {E : EN} {k : Nat} {mem : Mm} {Q : Int → Mm → Prop} {p0 p1 : Int} (hr_p0 : R32 p0) (hr_p1 : R32 p1) (h : VM E mX12_canLie (k + 1) mem 0 [(0, aR 603), (1, aI p0), (2, aI p1)] [] (retI Q)) : CI E mX12_canLie (k + 1) mem [aR 603, aI p0, aI p1] Q := CI_of rfl (Nat.le_of_ble_eq_true rfl) h (aNs_c (aNr_R _) (aNs_c (aNr_I hr_p0) (aNs_c (aNr_I hr_p1) (fun _ q => nomatch q))))

theorem dX12_lay_0 : decode cX12_lay 0 = .ok (.aload_n 0, 1) := by decide +kernel
theorem dX12_lay_1 : decode cX12_lay 1 = .ok (.getfield 13, 3) := by decide +kernel
theorem dX12_lay_4 : decode cX12_lay 4 = .ok (.bipush 7, 2) := by decide +kernel
theorem dX12_lay_6 : decode cX12_lay 6 = .ok (.iaload, 1) := by decide +kernel
theorem dX12_lay_7 : decode cX12_lay 7 = .ok (.istore 4, 2) := by decide +kernel
theorem dX12_lay_9 : decode cX12_lay 9 = .ok (.aload_n 0, 1) := by decide +kernel
theorem dX12_lay_10 : decode cX12_lay 10 = .ok (.getfield 13, 3) := by decide +kernel
theorem dX12_lay_13 : decode cX12_lay 13 = .ok (.bipush 8, 2) := by decide +kernel
theorem dX12_lay_15 : decode cX12_lay 15 = .ok (.iload 4, 2) := by decide +kernel
theorem dX12_lay_17 : decode cX12_lay 17 = .ok (.iadd, 1) := by decide +kernel
theorem dX12_lay_18 : decode cX12_lay 18 = .ok (.iload_n 2, 1) := by decide +kernel
theorem dX12_lay_19 : decode cX12_lay 19 = .ok (.iastore, 1) := by decide +kernel
theorem dX12_lay_20 : decode cX12_lay 20 = .ok (.aload_n 0, 1) := by decide +kernel
theorem dX12_lay_21 : decode cX12_lay 21 = .ok (.getfield 13, 3) := by decide +kernel
theorem dX12_lay_24 : decode cX12_lay 24 = .ok (.bipush 18, 2) := by decide +kernel
theorem dX12_lay_26 : decode cX12_lay 26 = .ok (.iload 4, 2) := by decide +kernel
theorem dX12_lay_28 : decode cX12_lay 28 = .ok (.iadd, 1) := by decide +kernel
theorem dX12_lay_29 : decode cX12_lay 29 = .ok (.iload_n 1, 1) := by decide +kernel
theorem dX12_lay_30 : decode cX12_lay 30 = .ok (.iastore, 1) := by decide +kernel
theorem dX12_lay_31 : decode cX12_lay 31 = .ok (.aload_n 0, 1) := by decide +kernel
theorem dX12_lay_32 : decode cX12_lay 32 = .ok (.getfield 13, 3) := by decide +kernel
theorem dX12_lay_35 : decode cX12_lay 35 = .ok (.bipush 28, 2) := by decide +kernel
theorem dX12_lay_37 : decode cX12_lay 37 = .ok (.iload 4, 2) := by decide +kernel
theorem dX12_lay_39 : decode cX12_lay 39 = .ok (.iadd, 1) := by decide +kernel
theorem dX12_lay_40 : decode cX12_lay 40 = .ok (.iload_n 3, 1) := by decide +kernel
theorem dX12_lay_41 : decode cX12_lay 41 = .ok (.iastore, 1) := by decide +kernel
theorem dX12_lay_42 : decode cX12_lay 42 = .ok (.aload_n 0, 1) := by decide +kernel
theorem dX12_lay_43 : decode cX12_lay 43 = .ok (.getfield 13, 3) := by decide +kernel
theorem dX12_lay_46 : decode cX12_lay 46 = .ok (.bipush 38, 2) := by decide +kernel
theorem dX12_lay_48 : decode cX12_lay 48 = .ok (.iload 4, 2) := by decide +kernel
theorem dX12_lay_50 : decode cX12_lay 50 = .ok (.iadd, 1) := by decide +kernel
theorem dX12_lay_51 : decode cX12_lay 51 = .ok (.iconst 0, 1) := by decide +kernel
theorem dX12_lay_52 : decode cX12_lay 52 = .ok (.iastore, 1) := by decide +kernel
theorem dX12_lay_53 : decode cX12_lay 53 = .ok (.aload_n 0, 1) := by decide +kernel
theorem dX12_lay_54 : decode cX12_lay 54 = .ok (.getfield 13, 3) := by decide +kernel
theorem dX12_lay_57 : decode cX12_lay 57 = .ok (.bipush 7, 2) := by decide +kernel
theorem dX12_lay_59 : decode cX12_lay 59 = .ok (.dup2, 1) := by decide +kernel
theorem dX12_lay_60 : decode cX12_lay 60 = .ok (.iaload, 1) := by decide +kernel
theorem dX12_lay_61 : decode cX12_lay 61 = .ok (.iconst 1, 1) := by decide +kernel
theorem dX12_lay_62 : decode cX12_lay 62 = .ok (.iadd, 1) := by decide +kernel
theorem dX12_lay_63 : decode cX12_lay 63 = .ok (.iastore, 1) := by decide +kernel
theorem dX12_lay_64 : decode cX12_lay 64 = .ok (.return_, 1) := by decide +kernel
set_option maxRecDepth 20000 in
theorem rX12_lay_0 {E : EN} (hE : Ep E) {k : Nat} {mem : Mm} {Q : Mm → Prop} {p0 p1 p2 : Int}
    (h : (R32 (8 + (mem 605 7))) ∧ (0 ≤ (8 + (mem 605 7)) ∧ (8 + (mem 605 7)) < 5570) ∧ (R32 (18 + (mem 605 7))) ∧ (0 ≤ (18 + (mem 605 7)) ∧ (18 + (mem 605 7)) < 5570) ∧ (R32 (28 + (mem 605 7))) ∧ (0 ≤ (28 + (mem 605 7)) ∧ (28 + (mem 605 7)) < 5570) ∧ (R32 (38 + (mem 605 7))) ∧ (0 ≤ (38 + (mem 605 7)) ∧ (38 + (mem 605 7)) < 5570) ∧ (R32 (((aUp (aUp (aUp (aUp mem 605 (8 + (mem 605 7)) p1) 605 (18 + (mem 605 7)) p0) 605 (28 + (mem 605 7)) p2) 605 (38 + (mem 605 7)) 0) 605 7) + 1)) ∧ Q (aUp (aUp (aUp (aUp (aUp mem 605 (8 + (mem 605 7)) p1) 605 (18 + (mem 605 7)) p0) 605 (28 + (mem 605 7)) p2) 605 (38 + (mem 605 7)) 0) 605 7 (((aUp (aUp (aUp (aUp mem 605 (8 + (mem 605 7)) p1) 605 (18 + (mem 605 7)) p0) 605 (28 + (mem 605 7)) p2) 605 (38 + (mem 605 7)) 0) 605 7) + 1))) :
    VM E mX12_lay k mem 0 [(0, aR 603), (1, aI p0), (2, aI p1), (3, aI p2)] [] (retV Q) := by
  refine v_aload_n (pc := 0) dX12_lay_0 0 rfl ?_
  refine m_getfin (pc := 1) (v := 605) hE dX12_lay_1 flX12_13 rfl at603 rfl ?_
  refine v_bipush (pc := 4) dX12_lay_4 (by decide) ?_
  refine m_iald (pc := 6) (v := (mem 605 7)) dX12_lay_6 at605 (by omega) (by omega) rfl ?_
  refine v_istore (pc := 7) (al2 := [(4, aI (mem 605 7)), (0, aR 603), (1, aI p0), (2, aI p1), (3, aI p2)]) dX12_lay_7 (by decide) rfl ?_
  refine v_aload_n (pc := 9) dX12_lay_9 1 rfl ?_
  refine m_getfin (pc := 10) (v := 605) hE dX12_lay_10 flX12_13 rfl at603 rfl ?_
  refine v_bipush (pc := 13) dX12_lay_13 (by decide) ?_
  refine v_iload (pc := 15) dX12_lay_15 0 rfl ?_
  obtain ⟨o1, h⟩ := h
  refine m_iadd (pc := 17) dX12_lay_17 o1 ?_
  refine v_iload_n (pc := 18) dX12_lay_18 3 rfl ?_
  obtain ⟨o2, h⟩ := h
  refine v_iast (pc := 19) dX12_lay_19 at605 o2.1 o2.2 ?_
  refine v_aload_n (pc := 20) dX12_lay_20 1 rfl ?_
  refine m_getfin (pc := 21) (v := 605) hE dX12_lay_21 flX12_13 rfl at603 rfl ?_
  refine v_bipush (pc := 24) dX12_lay_24 (by decide) ?_
  refine v_iload (pc := 26) dX12_lay_26 0 rfl ?_
  obtain ⟨o3, h⟩ := h
  refine m_iadd (pc := 28) dX12_lay_28 o3 ?_
  refine v_iload_n (pc := 29) dX12_lay_29 2 rfl ?_
  obtain ⟨o4, h⟩ := h
  refine v_iast (pc := 30) dX12_lay_30 at605 o4.1 o4.2 ?_
  refine v_aload_n (pc := 31) dX12_lay_31 1 rfl ?_
  refine m_getfin (pc := 32) (v := 605) hE dX12_lay_32 flX12_13 rfl at603 rfl ?_
  refine v_bipush (pc := 35) dX12_lay_35 (by decide) ?_
  refine v_iload (pc := 37) dX12_lay_37 0 rfl ?_
  obtain ⟨o5, h⟩ := h
  refine m_iadd (pc := 39) dX12_lay_39 o5 ?_
  refine v_iload_n (pc := 40) dX12_lay_40 4 rfl ?_
  obtain ⟨o6, h⟩ := h
  refine v_iast (pc := 41) dX12_lay_41 at605 o6.1 o6.2 ?_
  refine v_aload_n (pc := 42) dX12_lay_42 1 rfl ?_
  refine m_getfin (pc := 43) (v := 605) hE dX12_lay_43 flX12_13 rfl at603 rfl ?_
  refine v_bipush (pc := 46) dX12_lay_46 (by decide) ?_
  refine v_iload (pc := 48) dX12_lay_48 0 rfl ?_
  obtain ⟨o7, h⟩ := h
  refine m_iadd (pc := 50) dX12_lay_50 o7 ?_
  refine v_iconst (pc := 51) dX12_lay_51 (by decide) ?_
  obtain ⟨o8, h⟩ := h
  refine v_iast (pc := 52) dX12_lay_52 at605 o8.1 o8.2 ?_
  refine v_aload_n (pc := 53) dX12_lay_53 1 rfl ?_
  refine m_getfin (pc := 54) (v := 605) hE dX12_lay_54 flX12_13 rfl at603 rfl ?_
  refine v_bipush (pc := 57) dX12_lay_57 (by decide) ?_
  refine v_dup2 (pc := 59) dX12_lay_59 rfl rfl ?_
  refine m_iald (pc := 60) (v := ((aUp (aUp (aUp (aUp mem 605 (8 + (mem 605 7)) p1) 605 (18 + (mem 605 7)) p0) 605 (28 + (mem 605 7)) p2) 605 (38 + (mem 605 7)) 0) 605 7)) dX12_lay_60 at605 (by omega) (by omega) rfl ?_
  refine v_iconst (pc := 61) dX12_lay_61 (by decide) ?_
  obtain ⟨o9, h⟩ := h
  refine m_iadd (pc := 62) dX12_lay_62 o9 ?_
  refine v_iast (pc := 63) dX12_lay_63 at605 (by omega) (by omega) ?_
  exact m_retV (pc := 64) dX12_lay_64 rfl h
theorem eX12_lay {E : EN} {k : Nat} {mem : Mm} {Q : Mm → Prop} {p0 p1 p2 : Int} (hr_p0 : R32 p0) (hr_p1 : R32 p1) (hr_p2 : R32 p2) (h : VM E mX12_lay k mem 0 [(0, aR 603), (1, aI p0), (2, aI p1), (3, aI p2)] [] (retV Q)) : CV E mX12_lay k mem [aR 603, aI p0, aI p1, aI p2] Q := CV_of rfl (Nat.le_of_ble_eq_true rfl) h (aNs_c (aNr_R _) (aNs_c (aNr_I hr_p0) (aNs_c (aNr_I hr_p1) (aNs_c (aNr_I hr_p2) (fun _ q => nomatch q)))))

theorem dX12_buryNow_0 : decode cX12_buryNow 0 = .ok (.iload_n 1, 1) := by decide +kernel
theorem dX12_buryNow_1 : decode cX12_buryNow 1 = .ok (.i2l, 1) := by decide +kernel
theorem dX12_buryNow_2 : decode cX12_buryNow 2 = .ok (.lconst 0, 1) := by decide +kernel
theorem dX12_buryNow_3 : decode cX12_buryNow 3 = .ok (.ldc2_w 436, 3) := by decide +kernel
theorem dX12_buryNow_6 : decode cX12_buryNow 6 = .ok (.invokestatic 182, 3) := by decide +kernel
theorem dX12_buryNow_9 : decode cX12_buryNow 9 = .ok (.ifCond .eq 20, 3) := by decide +kernel
theorem dX12_buryNow_12 : decode cX12_buryNow 12 = .ok (.iload_n 2, 1) := by decide +kernel
theorem dX12_buryNow_13 : decode cX12_buryNow 13 = .ok (.invokestatic 192, 3) := by decide +kernel
theorem dX12_buryNow_16 : decode cX12_buryNow 16 = .ok (.ifCond .eq 13, 3) := by decide +kernel
theorem dX12_buryNow_19 : decode cX12_buryNow 19 = .ok (.iload_n 3, 1) := by decide +kernel
theorem dX12_buryNow_20 : decode cX12_buryNow 20 = .ok (.i2l, 1) := by decide +kernel
theorem dX12_buryNow_21 : decode cX12_buryNow 21 = .ok (.lconst 0, 1) := by decide +kernel
theorem dX12_buryNow_22 : decode cX12_buryNow 22 = .ok (.lconst 1, 1) := by decide +kernel
theorem dX12_buryNow_23 : decode cX12_buryNow 23 = .ok (.invokestatic 182, 3) := by decide +kernel
theorem dX12_buryNow_26 : decode cX12_buryNow 26 = .ok (.ifCond .ne 5, 3) := by decide +kernel
theorem dX12_buryNow_29 : decode cX12_buryNow 29 = .ok (.iconst (-1), 1) := by decide +kernel
theorem dX12_buryNow_30 : decode cX12_buryNow 30 = .ok (.ireturn, 1) := by decide +kernel
theorem dX12_buryNow_31 : decode cX12_buryNow 31 = .ok (.aload_n 0, 1) := by decide +kernel
theorem dX12_buryNow_32 : decode cX12_buryNow 32 = .ok (.iload_n 1, 1) := by decide +kernel
theorem dX12_buryNow_33 : decode cX12_buryNow 33 = .ok (.iload_n 2, 1) := by decide +kernel
theorem dX12_buryNow_34 : decode cX12_buryNow 34 = .ok (.invokevirtual 441, 3) := by decide +kernel
theorem dX12_buryNow_37 : decode cX12_buryNow 37 = .ok (.ifCond .ne 6, 3) := by decide +kernel
theorem dX12_buryNow_40 : decode cX12_buryNow 40 = .ok (.bipush (-3), 2) := by decide +kernel
theorem dX12_buryNow_42 : decode cX12_buryNow 42 = .ok (.ireturn, 1) := by decide +kernel
theorem dX12_buryNow_43 : decode cX12_buryNow 43 = .ok (.aload_n 0, 1) := by decide +kernel
theorem dX12_buryNow_44 : decode cX12_buryNow 44 = .ok (.getfield 13, 3) := by decide +kernel
theorem dX12_buryNow_47 : decode cX12_buryNow 47 = .ok (.bipush 7, 2) := by decide +kernel
theorem dX12_buryNow_49 : decode cX12_buryNow 49 = .ok (.iaload, 1) := by decide +kernel
theorem dX12_buryNow_50 : decode cX12_buryNow 50 = .ok (.bipush 10, 2) := by decide +kernel
theorem dX12_buryNow_52 : decode cX12_buryNow 52 = .ok (.if_icmp .ne 6, 3) := by decide +kernel
theorem dX12_buryNow_55 : decode cX12_buryNow 55 = .ok (.bipush (-5), 2) := by decide +kernel
theorem dX12_buryNow_57 : decode cX12_buryNow 57 = .ok (.ireturn, 1) := by decide +kernel
theorem dX12_buryNow_58 : decode cX12_buryNow 58 = .ok (.aload_n 0, 1) := by decide +kernel
theorem dX12_buryNow_59 : decode cX12_buryNow 59 = .ok (.iconst 0, 1) := by decide +kernel
theorem dX12_buryNow_60 : decode cX12_buryNow 60 = .ok (.invokevirtual 444, 3) := by decide +kernel
theorem dX12_buryNow_63 : decode cX12_buryNow 63 = .ok (.aload_n 0, 1) := by decide +kernel
theorem dX12_buryNow_64 : decode cX12_buryNow 64 = .ok (.iload_n 1, 1) := by decide +kernel
theorem dX12_buryNow_65 : decode cX12_buryNow 65 = .ok (.iload_n 2, 1) := by decide +kernel
theorem dX12_buryNow_66 : decode cX12_buryNow 66 = .ok (.iload_n 3, 1) := by decide +kernel
theorem dX12_buryNow_67 : decode cX12_buryNow 67 = .ok (.invokevirtual 447, 3) := by decide +kernel
theorem dX12_buryNow_70 : decode cX12_buryNow 70 = .ok (.aload_n 0, 1) := by decide +kernel
theorem dX12_buryNow_71 : decode cX12_buryNow 71 = .ok (.getfield 13, 3) := by decide +kernel
theorem dX12_buryNow_74 : decode cX12_buryNow 74 = .ok (.bipush 7, 2) := by decide +kernel
theorem dX12_buryNow_76 : decode cX12_buryNow 76 = .ok (.iaload, 1) := by decide +kernel
theorem dX12_buryNow_77 : decode cX12_buryNow 77 = .ok (.iconst 1, 1) := by decide +kernel
theorem dX12_buryNow_78 : decode cX12_buryNow 78 = .ok (.isub, 1) := by decide +kernel
theorem dX12_buryNow_79 : decode cX12_buryNow 79 = .ok (.ireturn, 1) := by decide +kernel
set_option maxRecDepth 20000 in
theorem rX12_buryNow_0 {E : EN} (hE : Ep E) {k : Nat} {mem : Mm} {Q : Int → Mm → Prop} {p0 p1 p2 : Int}
    (h : (R64 p0 → CI E mX12_in k mem [aL p0, aL 0, aL 5] (fun r2 m1 => ((r2 = 0 → Q (-1) m1) ∧ (¬ r2 = 0 → (R32 p1 → CI E mX12_isCell k m1 [aI p1] (fun r4 m3 => ((r4 = 0 → Q (-1) m3) ∧ (¬ r4 = 0 → (R64 p2 → CI E mX12_in k m3 [aL p2, aL 0, aL 1] (fun r6 m5 => ((¬ r6 = 0 → (R32 p0 → R32 p1 → CI E mX12_canLie k m5 [aR 603, aI p0, aI p1] (fun r8 m7 => ((¬ r8 = 0 → ((¬ (m7 605 7) = 10 → (CV E mX12_remember k m7 [aR 603, aI 0] (fun m9 => (R32 p0 → R32 p1 → R32 p2 → CV E mX12_lay k m9 [aR 603, aI p0, aI p1, aI p2] (fun m10 => (R32 ((m10 605 7) - 1)) ∧ Q ((m10 605 7) - 1) m10))))) ∧ ((m7 605 7) = 10 → Q (-5) m7))) ∧ (r8 = 0 → Q (-3) m7))))) ∧ (r6 = 0 → Q (-1) m5))))))))))))) :
    VM E mX12_buryNow (k + 1) mem 0 [(0, aR 603), (1, aI p0), (2, aI p1), (3, aI p2)] [] (retI Q) := by
  refine v_iload_n (pc := 0) dX12_buryNow_0 1 rfl ?_
  refine v_i2l (pc := 1) dX12_buryNow_1 ?_
  refine v_lconst0 (pc := 2) dX12_buryNow_2 ?_
  refine v_ldc2 (pc := 3) (n := 5) dX12_buryNow_3 cnX12_436 (by decide) ?_
  refine m_invSI (pc := 6) (mi' := mX12_in) (rest := []) [aL p0, aL 0, aL 5] dX12_buryNow_6 msX12_in stX12_in lkX12_182 rfl (Nat.le_of_ble_eq_true rfl) (fun hn => CI_mono (h (aaL hn 0 rfl)) (fun r2 m1 h => ?_))
  refine v_ifeq (pc := 9) (tgt := 29) dX12_buryNow_9 (by decide) (fun c1 => ?_) (fun c1 => ?_)
  · have h := h.1 c1
    refine v_iconst (pc := 29) dX12_buryNow_29 (by decide) ?_
    exact m_retI (pc := 30) dX12_buryNow_30 rfl h
  · have h := h.2 c1
    refine v_iload_n (pc := 12) dX12_buryNow_12 2 rfl ?_
    refine m_invSI (pc := 13) (mi' := mX12_isCell) (rest := []) [aI p1] dX12_buryNow_13 msX12_isCell stX12_isCell lkX12_192 rfl (Nat.le_of_ble_eq_true rfl) (fun hn => CI_mono (h (aaI hn 0 rfl)) (fun r4 m3 h => ?_))
    refine v_ifeq (pc := 16) (tgt := 29) dX12_buryNow_16 (by decide) (fun c1 => ?_) (fun c1 => ?_)
    · have h := h.1 c1
      refine v_iconst (pc := 29) dX12_buryNow_29 (by decide) ?_
      exact m_retI (pc := 30) dX12_buryNow_30 rfl h
    · have h := h.2 c1
      refine v_iload_n (pc := 19) dX12_buryNow_19 3 rfl ?_
      refine v_i2l (pc := 20) dX12_buryNow_20 ?_
      refine v_lconst0 (pc := 21) dX12_buryNow_21 ?_
      refine v_lconst1 (pc := 22) dX12_buryNow_22 ?_
      refine m_invSI (pc := 23) (mi' := mX12_in) (rest := []) [aL p2, aL 0, aL 1] dX12_buryNow_23 msX12_in stX12_in lkX12_182 rfl (Nat.le_of_ble_eq_true rfl) (fun hn => CI_mono (h (aaL hn 0 rfl)) (fun r6 m5 h => ?_))
      refine v_ifne (pc := 26) (tgt := 31) dX12_buryNow_26 (by decide) (fun c1 => ?_) (fun c1 => ?_)
      · have h := h.1 c1
        refine v_aload_n (pc := 31) dX12_buryNow_31 0 rfl ?_
        refine v_iload_n (pc := 32) dX12_buryNow_32 1 rfl ?_
        refine v_iload_n (pc := 33) dX12_buryNow_33 2 rfl ?_
        refine m_invI (pc := 34) (mi' := mX12_canLie) (rest := []) [aI p0, aI p1] dX12_buryNow_34 at603 (by decide) rfl msX12_canLie mvX12_canLie lkX12_441 rfl (Nat.le_of_ble_eq_true rfl) (fun hn => CI_mono (h (aaI hn 1 rfl) (aaI hn 2 rfl)) (fun r8 m7 h => ?_))
        refine v_ifne (pc := 37) (tgt := 43) dX12_buryNow_37 (by decide) (fun c1 => ?_) (fun c1 => ?_)
        · have h := h.1 c1
          refine v_aload_n (pc := 43) dX12_buryNow_43 0 rfl ?_
          refine m_getfin (pc := 44) (v := 605) hE dX12_buryNow_44 flX12_13 rfl at603 rfl ?_
          refine v_bipush (pc := 47) dX12_buryNow_47 (by decide) ?_
          refine m_iald (pc := 49) (v := (m7 605 7)) dX12_buryNow_49 at605 (by omega) (by omega) rfl ?_
          refine v_bipush (pc := 50) dX12_buryNow_50 (by decide) ?_
          refine v_icmpne (pc := 52) (tgt := 58) dX12_buryNow_52 (by decide) (fun c1 => ?_) (fun c1 => ?_)
          · have h := h.1 c1
            refine v_aload_n (pc := 58) dX12_buryNow_58 0 rfl ?_
            refine v_iconst (pc := 59) dX12_buryNow_59 (by decide) ?_
            refine m_invV (pc := 60) (mi' := mX12_remember) (rest := []) [aI 0] dX12_buryNow_60 at603 (by decide) rfl msX12_remember mvX12_remember lkX12_444 rfl (Nat.le_of_ble_eq_true rfl) (fun hn => CV_mono (h) (fun m9 h => ?_))
            refine v_aload_n (pc := 63) dX12_buryNow_63 0 rfl ?_
            refine v_iload_n (pc := 64) dX12_buryNow_64 1 rfl ?_
            refine v_iload_n (pc := 65) dX12_buryNow_65 2 rfl ?_
            refine v_iload_n (pc := 66) dX12_buryNow_66 3 rfl ?_
            refine m_invV (pc := 67) (mi' := mX12_lay) (rest := []) [aI p0, aI p1, aI p2] dX12_buryNow_67 at603 (by decide) rfl msX12_lay mvX12_lay lkX12_447 rfl (Nat.le_of_ble_eq_true rfl) (fun hn => CV_mono (h (aaI hn 1 rfl) (aaI hn 2 rfl) (aaI hn 3 rfl)) (fun m10 h => ?_))
            refine v_aload_n (pc := 70) dX12_buryNow_70 0 rfl ?_
            refine m_getfin (pc := 71) (v := 605) hE dX12_buryNow_71 flX12_13 rfl at603 rfl ?_
            refine v_bipush (pc := 74) dX12_buryNow_74 (by decide) ?_
            refine m_iald (pc := 76) (v := (m10 605 7)) dX12_buryNow_76 at605 (by omega) (by omega) rfl ?_
            refine v_iconst (pc := 77) dX12_buryNow_77 (by decide) ?_
            obtain ⟨o11, h⟩ := h
            refine m_isub (pc := 78) dX12_buryNow_78 o11 ?_
            exact m_retI (pc := 79) dX12_buryNow_79 rfl h
          · have h := h.2 c1
            refine v_bipush (pc := 55) dX12_buryNow_55 (by decide) ?_
            exact m_retI (pc := 57) dX12_buryNow_57 rfl h
        · have h := h.2 c1
          refine v_bipush (pc := 40) dX12_buryNow_40 (by decide) ?_
          exact m_retI (pc := 42) dX12_buryNow_42 rfl h
      · have h := h.2 c1
        refine v_iconst (pc := 29) dX12_buryNow_29 (by decide) ?_
        exact m_retI (pc := 30) dX12_buryNow_30 rfl h
theorem eX12_buryNow {E : EN} {k : Nat} {mem : Mm} {Q : Int → Mm → Prop} {p0 p1 p2 : Int} (hr_p0 : R32 p0) (hr_p1 : R32 p1) (hr_p2 : R32 p2) (h : VM E mX12_buryNow (k + 1) mem 0 [(0, aR 603), (1, aI p0), (2, aI p1), (3, aI p2)] [] (retI Q)) : CI E mX12_buryNow (k + 1) mem [aR 603, aI p0, aI p1, aI p2] Q := CI_of rfl (Nat.le_of_ble_eq_true rfl) h (aNs_c (aNr_R _) (aNs_c (aNr_I hr_p0) (aNs_c (aNr_I hr_p1) (aNs_c (aNr_I hr_p2) (fun _ q => nomatch q)))))

theorem dX12_bury_0 : decode cX12_bury 0 = .ok (.aload_n 0, 1) := by decide +kernel
theorem dX12_bury_1 : decode cX12_bury 1 = .ok (.iconst 0, 1) := by decide +kernel
theorem dX12_bury_2 : decode cX12_bury 2 = .ok (.putfield 162, 3) := by decide +kernel
theorem dX12_bury_5 : decode cX12_bury 5 = .ok (.aload_n 0, 1) := by decide +kernel
theorem dX12_bury_6 : decode cX12_bury 6 = .ok (.aload_n 0, 1) := by decide +kernel
theorem dX12_bury_7 : decode cX12_bury 7 = .ok (.iload_n 1, 1) := by decide +kernel
theorem dX12_bury_8 : decode cX12_bury 8 = .ok (.iload_n 2, 1) := by decide +kernel
theorem dX12_bury_9 : decode cX12_bury 9 = .ok (.iload_n 3, 1) := by decide +kernel
theorem dX12_bury_10 : decode cX12_bury 10 = .ok (.invokevirtual 451, 3) := by decide +kernel
theorem dX12_bury_13 : decode cX12_bury 13 = .ok (.invokevirtual 175, 3) := by decide +kernel
theorem dX12_bury_16 : decode cX12_bury 16 = .ok (.ireturn, 1) := by decide +kernel
set_option maxRecDepth 20000 in
theorem rX12_bury_0 {E : EN} (hE : Ep E) {k : Nat} {mem : Mm} {Q : Int → Mm → Prop} {p0 p1 p2 : Int}
    (h : (R32 p0 → R32 p1 → R32 p2 → CI E mX12_buryNow k (aUp mem 603 0 0) [aR 603, aI p0, aI p1, aI p2] (fun r2 m1 => (R32 r2 → CI E mX12_tell k m1 [aR 603, aI r2] (fun r4 m3 => Q r4 m3))))) :
    VM E mX12_bury (k + 1) mem 0 [(0, aR 603), (1, aI p0), (2, aI p1), (3, aI p2)] [] (retI Q) := by
  refine v_aload_n (pc := 0) dX12_bury_0 0 rfl ?_
  refine v_iconst (pc := 1) dX12_bury_1 (by decide) ?_
  refine v_putf (pc := 2) dX12_bury_2 flX12_162 ⟨_, _, rfl, Or.inl rfl⟩ rfl (by decide) (fun q => nomatch q) (Or.inl fun _ => rfl) at603 ?_
  refine v_aload_n (pc := 5) dX12_bury_5 0 rfl ?_
  refine v_aload_n (pc := 6) dX12_bury_6 0 rfl ?_
  refine v_iload_n (pc := 7) dX12_bury_7 1 rfl ?_
  refine v_iload_n (pc := 8) dX12_bury_8 2 rfl ?_
  refine v_iload_n (pc := 9) dX12_bury_9 3 rfl ?_
  refine m_invI (pc := 10) (mi' := mX12_buryNow) (rest := [aR 603]) [aI p0, aI p1, aI p2] dX12_bury_10 at603 (by decide) rfl msX12_buryNow mvX12_buryNow lkX12_451 rfl (Nat.le_of_ble_eq_true rfl) (fun hn => CI_mono (h (aaI hn 1 rfl) (aaI hn 2 rfl) (aaI hn 3 rfl)) (fun r2 m1 h => ?_))
  refine m_invI (pc := 13) (mi' := mX12_tell) (rest := []) [aI r2] dX12_bury_13 at603 (by decide) rfl msX12_tell mvX12_tell lkX12_175 rfl (Nat.le_of_ble_eq_true rfl) (fun hn => CI_mono (h (aaI hn 1 rfl)) (fun r4 m3 h => ?_))
  exact m_retI (pc := 16) dX12_bury_16 rfl h
theorem eX12_bury {E : EN} {k : Nat} {mem : Mm} {Q : Int → Mm → Prop} {p0 p1 p2 : Int} (hr_p0 : R32 p0) (hr_p1 : R32 p1) (hr_p2 : R32 p2) (h : VM E mX12_bury (k + 1) mem 0 [(0, aR 603), (1, aI p0), (2, aI p1), (3, aI p2)] [] (retI Q)) : CI E mX12_bury (k + 1) mem [aR 603, aI p0, aI p1, aI p2] Q := CI_of rfl (Nat.le_of_ble_eq_true rfl) h (aNs_c (aNr_R _) (aNs_c (aNr_I hr_p0) (aNs_c (aNr_I hr_p1) (aNs_c (aNr_I hr_p2) (fun _ q => nomatch q)))))

theorem dX12_buyNow_0 : decode cX12_buyNow 0 = .ok (.iload_n 1, 1) := by decide +kernel
theorem dX12_buyNow_1 : decode cX12_buyNow 1 = .ok (.invokestatic 192, 3) := by decide +kernel
theorem dX12_buyNow_4 : decode cX12_buyNow 4 = .ok (.ifCond .ne 5, 3) := by decide +kernel
theorem dX12_buyNow_7 : decode cX12_buyNow 7 = .ok (.iconst (-1), 1) := by decide +kernel
theorem dX12_buyNow_8 : decode cX12_buyNow 8 = .ok (.ireturn, 1) := by decide +kernel
theorem dX12_buyNow_9 : decode cX12_buyNow 9 = .ok (.aload_n 0, 1) := by decide +kernel
theorem dX12_buyNow_10 : decode cX12_buyNow 10 = .ok (.getfield 13, 3) := by decide +kernel
theorem dX12_buyNow_13 : decode cX12_buyNow 13 = .ok (.bipush 80, 2) := by decide +kernel
theorem dX12_buyNow_15 : decode cX12_buyNow 15 = .ok (.iload_n 1, 1) := by decide +kernel
theorem dX12_buyNow_16 : decode cX12_buyNow 16 = .ok (.iadd, 1) := by decide +kernel
theorem dX12_buyNow_17 : decode cX12_buyNow 17 = .ok (.iaload, 1) := by decide +kernel
theorem dX12_buyNow_18 : decode cX12_buyNow 18 = .ok (.iconst 1, 1) := by decide +kernel
theorem dX12_buyNow_19 : decode cX12_buyNow 19 = .ok (.if_icmp .ne 16, 3) := by decide +kernel
theorem dX12_buyNow_22 : decode cX12_buyNow 22 = .ok (.aload_n 0, 1) := by decide +kernel
theorem dX12_buyNow_23 : decode cX12_buyNow 23 = .ok (.getfield 13, 3) := by decide +kernel
theorem dX12_buyNow_26 : decode cX12_buyNow 26 = .ok (.bipush 48, 2) := by decide +kernel
theorem dX12_buyNow_28 : decode cX12_buyNow 28 = .ok (.iload_n 1, 1) := by decide +kernel
theorem dX12_buyNow_29 : decode cX12_buyNow 29 = .ok (.iadd, 1) := by decide +kernel
theorem dX12_buyNow_30 : decode cX12_buyNow 30 = .ok (.iaload, 1) := by decide +kernel
theorem dX12_buyNow_31 : decode cX12_buyNow 31 = .ok (.iconst 1, 1) := by decide +kernel
theorem dX12_buyNow_32 : decode cX12_buyNow 32 = .ok (.if_icmp .ne 6, 3) := by decide +kernel
theorem dX12_buyNow_35 : decode cX12_buyNow 35 = .ok (.bipush (-3), 2) := by decide +kernel
theorem dX12_buyNow_37 : decode cX12_buyNow 37 = .ok (.ireturn, 1) := by decide +kernel
theorem dX12_buyNow_38 : decode cX12_buyNow 38 = .ok (.aload_n 0, 1) := by decide +kernel
theorem dX12_buyNow_39 : decode cX12_buyNow 39 = .ok (.iconst 1, 1) := by decide +kernel
theorem dX12_buyNow_40 : decode cX12_buyNow 40 = .ok (.invokevirtual 444, 3) := by decide +kernel
theorem dX12_buyNow_43 : decode cX12_buyNow 43 = .ok (.aload_n 0, 1) := by decide +kernel
theorem dX12_buyNow_44 : decode cX12_buyNow 44 = .ok (.getfield 13, 3) := by decide +kernel
theorem dX12_buyNow_47 : decode cX12_buyNow 47 = .ok (.bipush 48, 2) := by decide +kernel
theorem dX12_buyNow_49 : decode cX12_buyNow 49 = .ok (.iload_n 1, 1) := by decide +kernel
theorem dX12_buyNow_50 : decode cX12_buyNow 50 = .ok (.iadd, 1) := by decide +kernel
theorem dX12_buyNow_51 : decode cX12_buyNow 51 = .ok (.iconst 1, 1) := by decide +kernel
theorem dX12_buyNow_52 : decode cX12_buyNow 52 = .ok (.iastore, 1) := by decide +kernel
theorem dX12_buyNow_53 : decode cX12_buyNow 53 = .ok (.aload_n 0, 1) := by decide +kernel
theorem dX12_buyNow_54 : decode cX12_buyNow 54 = .ok (.getfield 13, 3) := by decide +kernel
theorem dX12_buyNow_57 : decode cX12_buyNow 57 = .ok (.bipush 112, 2) := by decide +kernel
theorem dX12_buyNow_59 : decode cX12_buyNow 59 = .ok (.iload_n 1, 1) := by decide +kernel
theorem dX12_buyNow_60 : decode cX12_buyNow 60 = .ok (.iadd, 1) := by decide +kernel
theorem dX12_buyNow_61 : decode cX12_buyNow 61 = .ok (.iaload, 1) := by decide +kernel
theorem dX12_buyNow_62 : decode cX12_buyNow 62 = .ok (.ireturn, 1) := by decide +kernel
set_option maxRecDepth 20000 in
theorem rX12_buyNow_0 {E : EN} (hE : Ep E) {k : Nat} {mem : Mm} {Q : Int → Mm → Prop} {p0 : Int}
    (h : (R32 p0 → CI E mX12_isCell k mem [aI p0] (fun r2 m1 => ((¬ r2 = 0 → (R32 (80 + p0)) ∧ (0 ≤ (80 + p0) ∧ (80 + p0) < 5570) ∧ ((¬ (m1 605 (80 + p0)) = 1 → Q (-3) m1) ∧ ((m1 605 (80 + p0)) = 1 → (R32 (48 + p0)) ∧ (0 ≤ (48 + p0) ∧ (48 + p0) < 5570) ∧ ((¬ (m1 605 (48 + p0)) = 1 → (CV E mX12_remember k m1 [aR 603, aI 1] (fun m7 => (R32 (112 + p0)) ∧ (0 ≤ (112 + p0) ∧ (112 + p0) < 5570) ∧ Q ((aUp m7 605 (48 + p0) 1) 605 (112 + p0)) (aUp m7 605 (48 + p0) 1)))) ∧ ((m1 605 (48 + p0)) = 1 → Q (-3) m1))))) ∧ (r2 = 0 → Q (-1) m1))))) :
    VM E mX12_buyNow (k + 1) mem 0 [(0, aR 603), (1, aI p0)] [] (retI Q) := by
  refine v_iload_n (pc := 0) dX12_buyNow_0 1 rfl ?_
  refine m_invSI (pc := 1) (mi' := mX12_isCell) (rest := []) [aI p0] dX12_buyNow_1 msX12_isCell stX12_isCell lkX12_192 rfl (Nat.le_of_ble_eq_true rfl) (fun hn => CI_mono (h (aaI hn 0 rfl)) (fun r2 m1 h => ?_))
  refine v_ifne (pc := 4) (tgt := 9) dX12_buyNow_4 (by decide) (fun c1 => ?_) (fun c1 => ?_)
  · have h := h.1 c1
    refine v_aload_n (pc := 9) dX12_buyNow_9 0 rfl ?_
    refine m_getfin (pc := 10) (v := 605) hE dX12_buyNow_10 flX12_13 rfl at603 rfl ?_
    refine v_bipush (pc := 13) dX12_buyNow_13 (by decide) ?_
    refine v_iload_n (pc := 15) dX12_buyNow_15 1 rfl ?_
    obtain ⟨o3, h⟩ := h
    refine m_iadd (pc := 16) dX12_buyNow_16 o3 ?_
    obtain ⟨o4, h⟩ := h
    refine m_iald (pc := 17) (v := (m1 605 (80 + p0))) dX12_buyNow_17 at605 o4.1 o4.2 rfl ?_
    refine v_iconst (pc := 18) dX12_buyNow_18 (by decide) ?_
    refine v_icmpne (pc := 19) (tgt := 35) dX12_buyNow_19 (by decide) (fun c1 => ?_) (fun c1 => ?_)
    · have h := h.1 c1
      refine v_bipush (pc := 35) dX12_buyNow_35 (by decide) ?_
      exact m_retI (pc := 37) dX12_buyNow_37 rfl h
    · have h := h.2 c1
      refine v_aload_n (pc := 22) dX12_buyNow_22 0 rfl ?_
      refine m_getfin (pc := 23) (v := 605) hE dX12_buyNow_23 flX12_13 rfl at603 rfl ?_
      refine v_bipush (pc := 26) dX12_buyNow_26 (by decide) ?_
      refine v_iload_n (pc := 28) dX12_buyNow_28 1 rfl ?_
      obtain ⟨o5, h⟩ := h
      refine m_iadd (pc := 29) dX12_buyNow_29 o5 ?_
      obtain ⟨o6, h⟩ := h
      refine m_iald (pc := 30) (v := (m1 605 (48 + p0))) dX12_buyNow_30 at605 o6.1 o6.2 rfl ?_
      refine v_iconst (pc := 31) dX12_buyNow_31 (by decide) ?_
      refine v_icmpne (pc := 32) (tgt := 38) dX12_buyNow_32 (by decide) (fun c1 => ?_) (fun c1 => ?_)
      · have h := h.1 c1
        refine v_aload_n (pc := 38) dX12_buyNow_38 0 rfl ?_
        refine v_iconst (pc := 39) dX12_buyNow_39 (by decide) ?_
        refine m_invV (pc := 40) (mi' := mX12_remember) (rest := []) [aI 1] dX12_buyNow_40 at603 (by decide) rfl msX12_remember mvX12_remember lkX12_444 rfl (Nat.le_of_ble_eq_true rfl) (fun hn => CV_mono (h) (fun m7 h => ?_))
        refine v_aload_n (pc := 43) dX12_buyNow_43 0 rfl ?_
        refine m_getfin (pc := 44) (v := 605) hE dX12_buyNow_44 flX12_13 rfl at603 rfl ?_
        refine v_bipush (pc := 47) dX12_buyNow_47 (by decide) ?_
        refine v_iload_n (pc := 49) dX12_buyNow_49 1 rfl ?_
        refine m_iadd (pc := 50) dX12_buyNow_50 o5 ?_
        refine v_iconst (pc := 51) dX12_buyNow_51 (by decide) ?_
        refine v_iast (pc := 52) dX12_buyNow_52 at605 o6.1 o6.2 ?_
        refine v_aload_n (pc := 53) dX12_buyNow_53 0 rfl ?_
        refine m_getfin (pc := 54) (v := 605) hE dX12_buyNow_54 flX12_13 rfl at603 rfl ?_
        refine v_bipush (pc := 57) dX12_buyNow_57 (by decide) ?_
        refine v_iload_n (pc := 59) dX12_buyNow_59 1 rfl ?_
        obtain ⟨o8, h⟩ := h
        refine m_iadd (pc := 60) dX12_buyNow_60 o8 ?_
        obtain ⟨o9, h⟩ := h
        refine m_iald (pc := 61) (v := ((aUp m7 605 (48 + p0) 1) 605 (112 + p0))) dX12_buyNow_61 at605 o9.1 o9.2 rfl ?_
        exact m_retI (pc := 62) dX12_buyNow_62 rfl h
      · have h := h.2 c1
        refine v_bipush (pc := 35) dX12_buyNow_35 (by decide) ?_
        exact m_retI (pc := 37) dX12_buyNow_37 rfl h
  · have h := h.2 c1
    refine v_iconst (pc := 7) dX12_buyNow_7 (by decide) ?_
    exact m_retI (pc := 8) dX12_buyNow_8 rfl h
theorem eX12_buyNow {E : EN} {k : Nat} {mem : Mm} {Q : Int → Mm → Prop} {p0 : Int} (hr_p0 : R32 p0) (h : VM E mX12_buyNow (k + 1) mem 0 [(0, aR 603), (1, aI p0)] [] (retI Q)) : CI E mX12_buyNow (k + 1) mem [aR 603, aI p0] Q := CI_of rfl (Nat.le_of_ble_eq_true rfl) h (aNs_c (aNr_R _) (aNs_c (aNr_I hr_p0) (fun _ q => nomatch q)))

theorem dX12_buy_0 : decode cX12_buy 0 = .ok (.aload_n 0, 1) := by decide +kernel
theorem dX12_buy_1 : decode cX12_buy 1 = .ok (.iconst 0, 1) := by decide +kernel
theorem dX12_buy_2 : decode cX12_buy 2 = .ok (.putfield 162, 3) := by decide +kernel
theorem dX12_buy_5 : decode cX12_buy 5 = .ok (.aload_n 0, 1) := by decide +kernel
theorem dX12_buy_6 : decode cX12_buy 6 = .ok (.aload_n 0, 1) := by decide +kernel
theorem dX12_buy_7 : decode cX12_buy 7 = .ok (.iload_n 1, 1) := by decide +kernel
theorem dX12_buy_8 : decode cX12_buy 8 = .ok (.invokevirtual 455, 3) := by decide +kernel
theorem dX12_buy_11 : decode cX12_buy 11 = .ok (.invokevirtual 175, 3) := by decide +kernel
theorem dX12_buy_14 : decode cX12_buy 14 = .ok (.ireturn, 1) := by decide +kernel
set_option maxRecDepth 20000 in
theorem rX12_buy_0 {E : EN} (hE : Ep E) {k : Nat} {mem : Mm} {Q : Int → Mm → Prop} {p0 : Int}
    (h : (R32 p0 → CI E mX12_buyNow k (aUp mem 603 0 0) [aR 603, aI p0] (fun r2 m1 => (R32 r2 → CI E mX12_tell k m1 [aR 603, aI r2] (fun r4 m3 => Q r4 m3))))) :
    VM E mX12_buy (k + 1) mem 0 [(0, aR 603), (1, aI p0)] [] (retI Q) := by
  refine v_aload_n (pc := 0) dX12_buy_0 0 rfl ?_
  refine v_iconst (pc := 1) dX12_buy_1 (by decide) ?_
  refine v_putf (pc := 2) dX12_buy_2 flX12_162 ⟨_, _, rfl, Or.inl rfl⟩ rfl (by decide) (fun q => nomatch q) (Or.inl fun _ => rfl) at603 ?_
  refine v_aload_n (pc := 5) dX12_buy_5 0 rfl ?_
  refine v_aload_n (pc := 6) dX12_buy_6 0 rfl ?_
  refine v_iload_n (pc := 7) dX12_buy_7 1 rfl ?_
  refine m_invI (pc := 8) (mi' := mX12_buyNow) (rest := [aR 603]) [aI p0] dX12_buy_8 at603 (by decide) rfl msX12_buyNow mvX12_buyNow lkX12_455 rfl (Nat.le_of_ble_eq_true rfl) (fun hn => CI_mono (h (aaI hn 1 rfl)) (fun r2 m1 h => ?_))
  refine m_invI (pc := 11) (mi' := mX12_tell) (rest := []) [aI r2] dX12_buy_11 at603 (by decide) rfl msX12_tell mvX12_tell lkX12_175 rfl (Nat.le_of_ble_eq_true rfl) (fun hn => CI_mono (h (aaI hn 1 rfl)) (fun r4 m3 h => ?_))
  exact m_retI (pc := 14) dX12_buy_14 rfl h
theorem eX12_buy {E : EN} {k : Nat} {mem : Mm} {Q : Int → Mm → Prop} {p0 : Int} (hr_p0 : R32 p0) (h : VM E mX12_buy (k + 1) mem 0 [(0, aR 603), (1, aI p0)] [] (retI Q)) : CI E mX12_buy (k + 1) mem [aR 603, aI p0] Q := CI_of rfl (Nat.le_of_ble_eq_true rfl) h (aNs_c (aNr_R _) (aNs_c (aNr_I hr_p0) (fun _ q => nomatch q)))

theorem dX12_raiseNow_0 : decode cX12_raiseNow 0 = .ok (.aload_n 0, 1) := by decide +kernel
theorem dX12_raiseNow_1 : decode cX12_raiseNow 1 = .ok (.iload_n 1, 1) := by decide +kernel
theorem dX12_raiseNow_2 : decode cX12_raiseNow 2 = .ok (.invokevirtual 214, 3) := by decide +kernel
theorem dX12_raiseNow_5 : decode cX12_raiseNow 5 = .ok (.ifCond .ne 6, 3) := by decide +kernel
theorem dX12_raiseNow_8 : decode cX12_raiseNow 8 = .ok (.bipush (-2), 2) := by decide +kernel
theorem dX12_raiseNow_10 : decode cX12_raiseNow 10 = .ok (.ireturn, 1) := by decide +kernel
theorem dX12_raiseNow_11 : decode cX12_raiseNow 11 = .ok (.aload_n 0, 1) := by decide +kernel
theorem dX12_raiseNow_12 : decode cX12_raiseNow 12 = .ok (.iconst 2, 1) := by decide +kernel
theorem dX12_raiseNow_13 : decode cX12_raiseNow 13 = .ok (.invokevirtual 444, 3) := by decide +kernel
theorem dX12_raiseNow_16 : decode cX12_raiseNow 16 = .ok (.aload_n 0, 1) := by decide +kernel
theorem dX12_raiseNow_17 : decode cX12_raiseNow 17 = .ok (.getfield 13, 3) := by decide +kernel
theorem dX12_raiseNow_20 : decode cX12_raiseNow 20 = .ok (.bipush 8, 2) := by decide +kernel
theorem dX12_raiseNow_22 : decode cX12_raiseNow 22 = .ok (.iload_n 1, 1) := by decide +kernel
theorem dX12_raiseNow_23 : decode cX12_raiseNow 23 = .ok (.iadd, 1) := by decide +kernel
theorem dX12_raiseNow_24 : decode cX12_raiseNow 24 = .ok (.iaload, 1) := by decide +kernel
theorem dX12_raiseNow_25 : decode cX12_raiseNow 25 = .ok (.istore_n 2, 1) := by decide +kernel
theorem dX12_raiseNow_26 : decode cX12_raiseNow 26 = .ok (.aload_n 0, 1) := by decide +kernel
theorem dX12_raiseNow_27 : decode cX12_raiseNow 27 = .ok (.getfield 13, 3) := by decide +kernel
theorem dX12_raiseNow_30 : decode cX12_raiseNow 30 = .ok (.bipush 7, 2) := by decide +kernel
theorem dX12_raiseNow_32 : decode cX12_raiseNow 32 = .ok (.dup2, 1) := by decide +kernel
theorem dX12_raiseNow_33 : decode cX12_raiseNow 33 = .ok (.iaload, 1) := by decide +kernel
theorem dX12_raiseNow_34 : decode cX12_raiseNow 34 = .ok (.iconst 1, 1) := by decide +kernel
theorem dX12_raiseNow_35 : decode cX12_raiseNow 35 = .ok (.isub, 1) := by decide +kernel
theorem dX12_raiseNow_36 : decode cX12_raiseNow 36 = .ok (.iastore, 1) := by decide +kernel
theorem dX12_raiseNow_37 : decode cX12_raiseNow 37 = .ok (.iload_n 1, 1) := by decide +kernel
theorem dX12_raiseNow_38 : decode cX12_raiseNow 38 = .ok (.istore_n 3, 1) := by decide +kernel
theorem dX12_raiseNow_39 : decode cX12_raiseNow 39 = .ok (.iload_n 3, 1) := by decide +kernel
theorem dX12_raiseNow_40 : decode cX12_raiseNow 40 = .ok (.aload_n 0, 1) := by decide +kernel
theorem dX12_raiseNow_41 : decode cX12_raiseNow 41 = .ok (.getfield 13, 3) := by decide +kernel
theorem dX12_raiseNow_44 : decode cX12_raiseNow 44 = .ok (.bipush 7, 2) := by decide +kernel
theorem dX12_raiseNow_46 : decode cX12_raiseNow 46 = .ok (.iaload, 1) := by decide +kernel
theorem dX12_raiseNow_47 : decode cX12_raiseNow 47 = .ok (.if_icmp .ge 89, 3) := by decide +kernel
theorem dX12_raiseNow_50 : decode cX12_raiseNow 50 = .ok (.aload_n 0, 1) := by decide +kernel
theorem dX12_raiseNow_51 : decode cX12_raiseNow 51 = .ok (.getfield 13, 3) := by decide +kernel
theorem dX12_raiseNow_54 : decode cX12_raiseNow 54 = .ok (.bipush 8, 2) := by decide +kernel
theorem dX12_raiseNow_56 : decode cX12_raiseNow 56 = .ok (.iload_n 3, 1) := by decide +kernel
theorem dX12_raiseNow_57 : decode cX12_raiseNow 57 = .ok (.iadd, 1) := by decide +kernel
theorem dX12_raiseNow_58 : decode cX12_raiseNow 58 = .ok (.aload_n 0, 1) := by decide +kernel
theorem dX12_raiseNow_59 : decode cX12_raiseNow 59 = .ok (.getfield 13, 3) := by decide +kernel
theorem dX12_raiseNow_62 : decode cX12_raiseNow 62 = .ok (.bipush 8, 2) := by decide +kernel
theorem dX12_raiseNow_64 : decode cX12_raiseNow 64 = .ok (.iload_n 3, 1) := by decide +kernel
theorem dX12_raiseNow_65 : decode cX12_raiseNow 65 = .ok (.iadd, 1) := by decide +kernel
theorem dX12_raiseNow_66 : decode cX12_raiseNow 66 = .ok (.iconst 1, 1) := by decide +kernel
theorem dX12_raiseNow_67 : decode cX12_raiseNow 67 = .ok (.iadd, 1) := by decide +kernel
theorem dX12_raiseNow_68 : decode cX12_raiseNow 68 = .ok (.iaload, 1) := by decide +kernel
theorem dX12_raiseNow_69 : decode cX12_raiseNow 69 = .ok (.iastore, 1) := by decide +kernel
theorem dX12_raiseNow_70 : decode cX12_raiseNow 70 = .ok (.aload_n 0, 1) := by decide +kernel
theorem dX12_raiseNow_71 : decode cX12_raiseNow 71 = .ok (.getfield 13, 3) := by decide +kernel
theorem dX12_raiseNow_74 : decode cX12_raiseNow 74 = .ok (.bipush 18, 2) := by decide +kernel
theorem dX12_raiseNow_76 : decode cX12_raiseNow 76 = .ok (.iload_n 3, 1) := by decide +kernel
theorem dX12_raiseNow_77 : decode cX12_raiseNow 77 = .ok (.iadd, 1) := by decide +kernel
theorem dX12_raiseNow_78 : decode cX12_raiseNow 78 = .ok (.aload_n 0, 1) := by decide +kernel
theorem dX12_raiseNow_79 : decode cX12_raiseNow 79 = .ok (.getfield 13, 3) := by decide +kernel
theorem dX12_raiseNow_82 : decode cX12_raiseNow 82 = .ok (.bipush 18, 2) := by decide +kernel
theorem dX12_raiseNow_84 : decode cX12_raiseNow 84 = .ok (.iload_n 3, 1) := by decide +kernel
theorem dX12_raiseNow_85 : decode cX12_raiseNow 85 = .ok (.iadd, 1) := by decide +kernel
theorem dX12_raiseNow_86 : decode cX12_raiseNow 86 = .ok (.iconst 1, 1) := by decide +kernel
theorem dX12_raiseNow_87 : decode cX12_raiseNow 87 = .ok (.iadd, 1) := by decide +kernel
theorem dX12_raiseNow_88 : decode cX12_raiseNow 88 = .ok (.iaload, 1) := by decide +kernel
theorem dX12_raiseNow_89 : decode cX12_raiseNow 89 = .ok (.iastore, 1) := by decide +kernel
theorem dX12_raiseNow_90 : decode cX12_raiseNow 90 = .ok (.aload_n 0, 1) := by decide +kernel
theorem dX12_raiseNow_91 : decode cX12_raiseNow 91 = .ok (.getfield 13, 3) := by decide +kernel
theorem dX12_raiseNow_94 : decode cX12_raiseNow 94 = .ok (.bipush 28, 2) := by decide +kernel
theorem dX12_raiseNow_96 : decode cX12_raiseNow 96 = .ok (.iload_n 3, 1) := by decide +kernel
theorem dX12_raiseNow_97 : decode cX12_raiseNow 97 = .ok (.iadd, 1) := by decide +kernel
theorem dX12_raiseNow_98 : decode cX12_raiseNow 98 = .ok (.aload_n 0, 1) := by decide +kernel
theorem dX12_raiseNow_99 : decode cX12_raiseNow 99 = .ok (.getfield 13, 3) := by decide +kernel
theorem dX12_raiseNow_102 : decode cX12_raiseNow 102 = .ok (.bipush 28, 2) := by decide +kernel
theorem dX12_raiseNow_104 : decode cX12_raiseNow 104 = .ok (.iload_n 3, 1) := by decide +kernel
theorem dX12_raiseNow_105 : decode cX12_raiseNow 105 = .ok (.iadd, 1) := by decide +kernel
theorem dX12_raiseNow_106 : decode cX12_raiseNow 106 = .ok (.iconst 1, 1) := by decide +kernel
theorem dX12_raiseNow_107 : decode cX12_raiseNow 107 = .ok (.iadd, 1) := by decide +kernel
theorem dX12_raiseNow_108 : decode cX12_raiseNow 108 = .ok (.iaload, 1) := by decide +kernel
theorem dX12_raiseNow_109 : decode cX12_raiseNow 109 = .ok (.iastore, 1) := by decide +kernel
theorem dX12_raiseNow_110 : decode cX12_raiseNow 110 = .ok (.aload_n 0, 1) := by decide +kernel
theorem dX12_raiseNow_111 : decode cX12_raiseNow 111 = .ok (.getfield 13, 3) := by decide +kernel
theorem dX12_raiseNow_114 : decode cX12_raiseNow 114 = .ok (.bipush 38, 2) := by decide +kernel
theorem dX12_raiseNow_116 : decode cX12_raiseNow 116 = .ok (.iload_n 3, 1) := by decide +kernel
theorem dX12_raiseNow_117 : decode cX12_raiseNow 117 = .ok (.iadd, 1) := by decide +kernel
theorem dX12_raiseNow_118 : decode cX12_raiseNow 118 = .ok (.aload_n 0, 1) := by decide +kernel
theorem dX12_raiseNow_119 : decode cX12_raiseNow 119 = .ok (.getfield 13, 3) := by decide +kernel
theorem dX12_raiseNow_122 : decode cX12_raiseNow 122 = .ok (.bipush 38, 2) := by decide +kernel
theorem dX12_raiseNow_124 : decode cX12_raiseNow 124 = .ok (.iload_n 3, 1) := by decide +kernel
theorem dX12_raiseNow_125 : decode cX12_raiseNow 125 = .ok (.iadd, 1) := by decide +kernel
theorem dX12_raiseNow_126 : decode cX12_raiseNow 126 = .ok (.iconst 1, 1) := by decide +kernel
theorem dX12_raiseNow_127 : decode cX12_raiseNow 127 = .ok (.iadd, 1) := by decide +kernel
theorem dX12_raiseNow_128 : decode cX12_raiseNow 128 = .ok (.iaload, 1) := by decide +kernel
theorem dX12_raiseNow_129 : decode cX12_raiseNow 129 = .ok (.iastore, 1) := by decide +kernel
theorem dX12_raiseNow_130 : decode cX12_raiseNow 130 = .ok (.iinc 3 1, 3) := by decide +kernel
theorem dX12_raiseNow_133 : decode cX12_raiseNow 133 = .ok (.goto (-94), 3) := by decide +kernel
theorem dX12_raiseNow_136 : decode cX12_raiseNow 136 = .ok (.iload_n 2, 1) := by decide +kernel
theorem dX12_raiseNow_137 : decode cX12_raiseNow 137 = .ok (.ireturn, 1) := by decide +kernel
set_option maxRecDepth 20000 in
theorem rX12_raiseNow_0 {E : EN} (hE : Ep E) {k : Nat} {mem : Mm} {Q : Int → Mm → Prop} {p0 : Int}
    (h : (R32 p0 → CI E mX12_isPlot k mem [aR 603, aI p0] (fun r2 m1 => ((¬ r2 = 0 → (CV E mX12_remember k m1 [aR 603, aI 2] (fun m3 => (R32 (8 + p0)) ∧ (0 ≤ (8 + p0) ∧ (8 + p0) < 5570) ∧ (R32 ((m3 605 7) - 1)) ∧ VM E mX12_raiseNow (k + 1) (aUp m3 605 7 ((m3 605 7) - 1)) 39 [(0, aR 603), (2, aI (m3 605 (8 + p0))), (3, aI p0)] [] (retI Q)))) ∧ (r2 = 0 → Q (-2) m1))))) :
    VM E mX12_raiseNow (k + 1) mem 0 [(0, aR 603), (1, aI p0)] [] (retI Q) := by
  refine v_aload_n (pc := 0) dX12_raiseNow_0 0 rfl ?_
  refine v_iload_n (pc := 1) dX12_raiseNow_1 1 rfl ?_
  refine m_invI (pc := 2) (mi' := mX12_isPlot) (rest := []) [aI p0] dX12_raiseNow_2 at603 (by decide) rfl msX12_isPlot mvX12_isPlot lkX12_214 rfl (Nat.le_of_ble_eq_true rfl) (fun hn => CI_mono (h (aaI hn 1 rfl)) (fun r2 m1 h => ?_))
  refine v_ifne (pc := 5) (tgt := 11) dX12_raiseNow_5 (by decide) (fun c1 => ?_) (fun c1 => ?_)
  · have h := h.1 c1
    refine v_aload_n (pc := 11) dX12_raiseNow_11 0 rfl ?_
    refine v_iconst (pc := 12) dX12_raiseNow_12 (by decide) ?_
    refine m_invV (pc := 13) (mi' := mX12_remember) (rest := []) [aI 2] dX12_raiseNow_13 at603 (by decide) rfl msX12_remember mvX12_remember lkX12_444 rfl (Nat.le_of_ble_eq_true rfl) (fun hn => CV_mono (h) (fun m3 h => ?_))
    refine v_aload_n (pc := 16) dX12_raiseNow_16 0 rfl ?_
    refine m_getfin (pc := 17) (v := 605) hE dX12_raiseNow_17 flX12_13 rfl at603 rfl ?_
    refine v_bipush (pc := 20) dX12_raiseNow_20 (by decide) ?_
    refine v_iload_n (pc := 22) dX12_raiseNow_22 1 rfl ?_
    obtain ⟨o4, h⟩ := h
    refine m_iadd (pc := 23) dX12_raiseNow_23 o4 ?_
    obtain ⟨o5, h⟩ := h
    refine m_iald (pc := 24) (v := (m3 605 (8 + p0))) dX12_raiseNow_24 at605 o5.1 o5.2 rfl ?_
    refine v_istore_n (pc := 25) (al2 := [(2, aI (m3 605 (8 + p0))), (0, aR 603), (1, aI p0)]) dX12_raiseNow_25 (by decide) rfl ?_
    refine v_aload_n (pc := 26) dX12_raiseNow_26 1 rfl ?_
    refine m_getfin (pc := 27) (v := 605) hE dX12_raiseNow_27 flX12_13 rfl at603 rfl ?_
    refine v_bipush (pc := 30) dX12_raiseNow_30 (by decide) ?_
    refine v_dup2 (pc := 32) dX12_raiseNow_32 rfl rfl ?_
    refine m_iald (pc := 33) (v := (m3 605 7)) dX12_raiseNow_33 at605 (by omega) (by omega) rfl ?_
    refine v_iconst (pc := 34) dX12_raiseNow_34 (by decide) ?_
    obtain ⟨o6, h⟩ := h
    refine m_isub (pc := 35) dX12_raiseNow_35 o6 ?_
    refine v_iast (pc := 36) dX12_raiseNow_36 at605 (by omega) (by omega) ?_
    refine v_iload_n (pc := 37) dX12_raiseNow_37 2 rfl ?_
    refine v_istore_n (pc := 38) (al2 := [(3, aI p0), (2, aI (m3 605 (8 + p0))), (0, aR 603), (1, aI p0)]) dX12_raiseNow_38 (by decide) rfl ?_
    exact VG_sub (al' := [(0, aR 603), (2, aI (m3 605 (8 + p0))), (3, aI p0)]) [2, 1, 0] rfl h
  · have h := h.2 c1
    refine v_bipush (pc := 8) dX12_raiseNow_8 (by decide) ?_
    exact m_retI (pc := 10) dX12_raiseNow_10 rfl h
theorem eX12_raiseNow {E : EN} {k : Nat} {mem : Mm} {Q : Int → Mm → Prop} {p0 : Int} (hr_p0 : R32 p0) (h : VM E mX12_raiseNow (k + 1) mem 0 [(0, aR 603), (1, aI p0)] [] (retI Q)) : CI E mX12_raiseNow (k + 1) mem [aR 603, aI p0] Q := CI_of rfl (Nat.le_of_ble_eq_true rfl) h (aNs_c (aNr_R _) (aNs_c (aNr_I hr_p0) (fun _ q => nomatch q)))
set_option maxRecDepth 20000 in
theorem rX12_raiseNow_39 {E : EN} (hE : Ep E) {k : Nat} {mem : Mm} {Q : Int → Mm → Prop} {p0 x2 x3 : Int}
    (h : (((mem 605 7) ≤ x3 → Q x2 mem) ∧ (x3 < (mem 605 7) → (R32 (8 + x3)) ∧ (R32 ((8 + x3) + 1)) ∧ (0 ≤ ((8 + x3) + 1) ∧ ((8 + x3) + 1) < 5570) ∧ (0 ≤ (8 + x3) ∧ (8 + x3) < 5570) ∧ (R32 (18 + x3)) ∧ (R32 ((18 + x3) + 1)) ∧ (0 ≤ ((18 + x3) + 1) ∧ ((18 + x3) + 1) < 5570) ∧ (0 ≤ (18 + x3) ∧ (18 + x3) < 5570) ∧ (R32 (28 + x3)) ∧ (R32 ((28 + x3) + 1)) ∧ (0 ≤ ((28 + x3) + 1) ∧ ((28 + x3) + 1) < 5570) ∧ (0 ≤ (28 + x3) ∧ (28 + x3) < 5570) ∧ (R32 (38 + x3)) ∧ (R32 ((38 + x3) + 1)) ∧ (0 ≤ ((38 + x3) + 1) ∧ ((38 + x3) + 1) < 5570) ∧ (0 ≤ (38 + x3) ∧ (38 + x3) < 5570) ∧ (R32 (x3 + 1)) ∧ VM E mX12_raiseNow (k + 1) (aUp (aUp (aUp (aUp mem 605 (8 + x3) (mem 605 ((8 + x3) + 1))) 605 (18 + x3) ((aUp mem 605 (8 + x3) (mem 605 ((8 + x3) + 1))) 605 ((18 + x3) + 1))) 605 (28 + x3) ((aUp (aUp mem 605 (8 + x3) (mem 605 ((8 + x3) + 1))) 605 (18 + x3) ((aUp mem 605 (8 + x3) (mem 605 ((8 + x3) + 1))) 605 ((18 + x3) + 1))) 605 ((28 + x3) + 1))) 605 (38 + x3) ((aUp (aUp (aUp mem 605 (8 + x3) (mem 605 ((8 + x3) + 1))) 605 (18 + x3) ((aUp mem 605 (8 + x3) (mem 605 ((8 + x3) + 1))) 605 ((18 + x3) + 1))) 605 (28 + x3) ((aUp (aUp mem 605 (8 + x3) (mem 605 ((8 + x3) + 1))) 605 (18 + x3) ((aUp mem 605 (8 + x3) (mem 605 ((8 + x3) + 1))) 605 ((18 + x3) + 1))) 605 ((28 + x3) + 1))) 605 ((38 + x3) + 1))) 39 [(0, aR 603), (2, aI x2), (3, aI (x3 + 1))] [] (retI Q)))) :
    VM E mX12_raiseNow (k + 1) mem 39 [(0, aR 603), (2, aI x2), (3, aI x3)] [] (retI Q) := by
  refine v_iload_n (pc := 39) dX12_raiseNow_39 2 rfl ?_
  refine v_aload_n (pc := 40) dX12_raiseNow_40 0 rfl ?_
  refine m_getfin (pc := 41) (v := 605) hE dX12_raiseNow_41 flX12_13 rfl at603 rfl ?_
  refine v_bipush (pc := 44) dX12_raiseNow_44 (by decide) ?_
  refine m_iald (pc := 46) (v := (mem 605 7)) dX12_raiseNow_46 at605 (by omega) (by omega) rfl ?_
  refine v_icmpge (pc := 47) (tgt := 136) dX12_raiseNow_47 (by decide) (fun c1 => ?_) (fun c1 => ?_)
  · have h := h.1 c1
    refine v_iload_n (pc := 136) dX12_raiseNow_136 1 rfl ?_
    exact m_retI (pc := 137) dX12_raiseNow_137 rfl h
  · have h := h.2 c1
    refine v_aload_n (pc := 50) dX12_raiseNow_50 0 rfl ?_
    refine m_getfin (pc := 51) (v := 605) hE dX12_raiseNow_51 flX12_13 rfl at603 rfl ?_
    refine v_bipush (pc := 54) dX12_raiseNow_54 (by decide) ?_
    refine v_iload_n (pc := 56) dX12_raiseNow_56 2 rfl ?_
    obtain ⟨o1, h⟩ := h
    refine m_iadd (pc := 57) dX12_raiseNow_57 o1 ?_
    refine v_aload_n (pc := 58) dX12_raiseNow_58 0 rfl ?_
    refine m_getfin (pc := 59) (v := 605) hE dX12_raiseNow_59 flX12_13 rfl at603 rfl ?_
    refine v_bipush (pc := 62) dX12_raiseNow_62 (by decide) ?_
    refine v_iload_n (pc := 64) dX12_raiseNow_64 2 rfl ?_
    refine m_iadd (pc := 65) dX12_raiseNow_65 o1 ?_
    refine v_iconst (pc := 66) dX12_raiseNow_66 (by decide) ?_
    obtain ⟨o2, h⟩ := h
    refine m_iadd (pc := 67) dX12_raiseNow_67 o2 ?_
    obtain ⟨o3, h⟩ := h
    refine m_iald (pc := 68) (v := (mem 605 ((8 + x3) + 1))) dX12_raiseNow_68 at605 o3.1 o3.2 rfl ?_
    obtain ⟨o4, h⟩ := h
    refine v_iast (pc := 69) dX12_raiseNow_69 at605 o4.1 o4.2 ?_
    refine v_aload_n (pc := 70) dX12_raiseNow_70 0 rfl ?_
    refine m_getfin (pc := 71) (v := 605) hE dX12_raiseNow_71 flX12_13 rfl at603 rfl ?_
    refine v_bipush (pc := 74) dX12_raiseNow_74 (by decide) ?_
    refine v_iload_n (pc := 76) dX12_raiseNow_76 2 rfl ?_
    obtain ⟨o5, h⟩ := h
    refine m_iadd (pc := 77) dX12_raiseNow_77 o5 ?_
    refine v_aload_n (pc := 78) dX12_raiseNow_78 0 rfl ?_
    refine m_getfin (pc := 79) (v := 605) hE dX12_raiseNow_79 flX12_13 rfl at603 rfl ?_
    refine v_bipush (pc := 82) dX12_raiseNow_82 (by decide) ?_
    refine v_iload_n (pc := 84) dX12_raiseNow_84 2 rfl ?_
    refine m_iadd (pc := 85) dX12_raiseNow_85 o5 ?_
    refine v_iconst (pc := 86) dX12_raiseNow_86 (by decide) ?_
    obtain ⟨o6, h⟩ := h
    refine m_iadd (pc := 87) dX12_raiseNow_87 o6 ?_
    obtain ⟨o7, h⟩ := h
    refine m_iald (pc := 88) (v := ((aUp mem 605 (8 + x3) (mem 605 ((8 + x3) + 1))) 605 ((18 + x3) + 1))) dX12_raiseNow_88 at605 o7.1 o7.2 rfl ?_
    obtain ⟨o8, h⟩ := h
    refine v_iast (pc := 89) dX12_raiseNow_89 at605 o8.1 o8.2 ?_
    refine v_aload_n (pc := 90) dX12_raiseNow_90 0 rfl ?_
    refine m_getfin (pc := 91) (v := 605) hE dX12_raiseNow_91 flX12_13 rfl at603 rfl ?_
    refine v_bipush (pc := 94) dX12_raiseNow_94 (by decide) ?_
    refine v_iload_n (pc := 96) dX12_raiseNow_96 2 rfl ?_
    obtain ⟨o9, h⟩ := h
    refine m_iadd (pc := 97) dX12_raiseNow_97 o9 ?_
    refine v_aload_n (pc := 98) dX12_raiseNow_98 0 rfl ?_
    refine m_getfin (pc := 99) (v := 605) hE dX12_raiseNow_99 flX12_13 rfl at603 rfl ?_
    refine v_bipush (pc := 102) dX12_raiseNow_102 (by decide) ?_
    refine v_iload_n (pc := 104) dX12_raiseNow_104 2 rfl ?_
    refine m_iadd (pc := 105) dX12_raiseNow_105 o9 ?_
    refine v_iconst (pc := 106) dX12_raiseNow_106 (by decide) ?_
    obtain ⟨o10, h⟩ := h
    refine m_iadd (pc := 107) dX12_raiseNow_107 o10 ?_
    obtain ⟨o11, h⟩ := h
    refine m_iald (pc := 108) (v := ((aUp (aUp mem 605 (8 + x3) (mem 605 ((8 + x3) + 1))) 605 (18 + x3) ((aUp mem 605 (8 + x3) (mem 605 ((8 + x3) + 1))) 605 ((18 + x3) + 1))) 605 ((28 + x3) + 1))) dX12_raiseNow_108 at605 o11.1 o11.2 rfl ?_
    obtain ⟨o12, h⟩ := h
    refine v_iast (pc := 109) dX12_raiseNow_109 at605 o12.1 o12.2 ?_
    refine v_aload_n (pc := 110) dX12_raiseNow_110 0 rfl ?_
    refine m_getfin (pc := 111) (v := 605) hE dX12_raiseNow_111 flX12_13 rfl at603 rfl ?_
    refine v_bipush (pc := 114) dX12_raiseNow_114 (by decide) ?_
    refine v_iload_n (pc := 116) dX12_raiseNow_116 2 rfl ?_
    obtain ⟨o13, h⟩ := h
    refine m_iadd (pc := 117) dX12_raiseNow_117 o13 ?_
    refine v_aload_n (pc := 118) dX12_raiseNow_118 0 rfl ?_
    refine m_getfin (pc := 119) (v := 605) hE dX12_raiseNow_119 flX12_13 rfl at603 rfl ?_
    refine v_bipush (pc := 122) dX12_raiseNow_122 (by decide) ?_
    refine v_iload_n (pc := 124) dX12_raiseNow_124 2 rfl ?_
    refine m_iadd (pc := 125) dX12_raiseNow_125 o13 ?_
    refine v_iconst (pc := 126) dX12_raiseNow_126 (by decide) ?_
    obtain ⟨o14, h⟩ := h
    refine m_iadd (pc := 127) dX12_raiseNow_127 o14 ?_
    obtain ⟨o15, h⟩ := h
    refine m_iald (pc := 128) (v := ((aUp (aUp (aUp mem 605 (8 + x3) (mem 605 ((8 + x3) + 1))) 605 (18 + x3) ((aUp mem 605 (8 + x3) (mem 605 ((8 + x3) + 1))) 605 ((18 + x3) + 1))) 605 (28 + x3) ((aUp (aUp mem 605 (8 + x3) (mem 605 ((8 + x3) + 1))) 605 (18 + x3) ((aUp mem 605 (8 + x3) (mem 605 ((8 + x3) + 1))) 605 ((18 + x3) + 1))) 605 ((28 + x3) + 1))) 605 ((38 + x3) + 1))) dX12_raiseNow_128 at605 o15.1 o15.2 rfl ?_
    obtain ⟨o16, h⟩ := h
    refine v_iast (pc := 129) dX12_raiseNow_129 at605 o16.1 o16.2 ?_
    obtain ⟨o17, h⟩ := h
    refine m_iinc (pc := 130) (al2 := [(3, aI (x3 + 1)), (0, aR 603), (2, aI x2)]) dX12_raiseNow_130 2 rfl (by decide) o17 rfl ?_
    refine v_goto (pc := 133) (tgt := 39) dX12_raiseNow_133 (by decide) ?_
    exact VG_sub (al' := [(0, aR 603), (2, aI x2), (3, aI (x3 + 1))]) [1, 2, 0] rfl h

theorem dX12_raise_0 : decode cX12_raise 0 = .ok (.aload_n 0, 1) := by decide +kernel
theorem dX12_raise_1 : decode cX12_raise 1 = .ok (.iconst 0, 1) := by decide +kernel
theorem dX12_raise_2 : decode cX12_raise 2 = .ok (.putfield 162, 3) := by decide +kernel
theorem dX12_raise_5 : decode cX12_raise 5 = .ok (.aload_n 0, 1) := by decide +kernel
theorem dX12_raise_6 : decode cX12_raise 6 = .ok (.aload_n 0, 1) := by decide +kernel
theorem dX12_raise_7 : decode cX12_raise 7 = .ok (.iload_n 1, 1) := by decide +kernel
theorem dX12_raise_8 : decode cX12_raise 8 = .ok (.invokevirtual 458, 3) := by decide +kernel
theorem dX12_raise_11 : decode cX12_raise 11 = .ok (.invokevirtual 175, 3) := by decide +kernel
theorem dX12_raise_14 : decode cX12_raise 14 = .ok (.ireturn, 1) := by decide +kernel
set_option maxRecDepth 20000 in
theorem rX12_raise_0 {E : EN} (hE : Ep E) {k : Nat} {mem : Mm} {Q : Int → Mm → Prop} {p0 : Int}
    (h : (R32 p0 → CI E mX12_raiseNow k (aUp mem 603 0 0) [aR 603, aI p0] (fun r2 m1 => (R32 r2 → CI E mX12_tell k m1 [aR 603, aI r2] (fun r4 m3 => Q r4 m3))))) :
    VM E mX12_raise (k + 1) mem 0 [(0, aR 603), (1, aI p0)] [] (retI Q) := by
  refine v_aload_n (pc := 0) dX12_raise_0 0 rfl ?_
  refine v_iconst (pc := 1) dX12_raise_1 (by decide) ?_
  refine v_putf (pc := 2) dX12_raise_2 flX12_162 ⟨_, _, rfl, Or.inl rfl⟩ rfl (by decide) (fun q => nomatch q) (Or.inl fun _ => rfl) at603 ?_
  refine v_aload_n (pc := 5) dX12_raise_5 0 rfl ?_
  refine v_aload_n (pc := 6) dX12_raise_6 0 rfl ?_
  refine v_iload_n (pc := 7) dX12_raise_7 1 rfl ?_
  refine m_invI (pc := 8) (mi' := mX12_raiseNow) (rest := [aR 603]) [aI p0] dX12_raise_8 at603 (by decide) rfl msX12_raiseNow mvX12_raiseNow lkX12_458 rfl (Nat.le_of_ble_eq_true rfl) (fun hn => CI_mono (h (aaI hn 1 rfl)) (fun r2 m1 h => ?_))
  refine m_invI (pc := 11) (mi' := mX12_tell) (rest := []) [aI r2] dX12_raise_11 at603 (by decide) rfl msX12_tell mvX12_tell lkX12_175 rfl (Nat.le_of_ble_eq_true rfl) (fun hn => CI_mono (h (aaI hn 1 rfl)) (fun r4 m3 h => ?_))
  exact m_retI (pc := 14) dX12_raise_14 rfl h
theorem eX12_raise {E : EN} {k : Nat} {mem : Mm} {Q : Int → Mm → Prop} {p0 : Int} (hr_p0 : R32 p0) (h : VM E mX12_raise (k + 1) mem 0 [(0, aR 603), (1, aI p0)] [] (retI Q)) : CI E mX12_raise (k + 1) mem [aR 603, aI p0] Q := CI_of rfl (Nat.le_of_ble_eq_true rfl) h (aNs_c (aNr_R _) (aNs_c (aNr_I hr_p0) (fun _ q => nomatch q)))

theorem dX12_move_0 : decode cX12_move 0 = .ok (.aload_n 0, 1) := by decide +kernel
theorem dX12_move_1 : decode cX12_move 1 = .ok (.iload_n 1, 1) := by decide +kernel
theorem dX12_move_2 : decode cX12_move 2 = .ok (.invokevirtual 217, 3) := by decide +kernel
theorem dX12_move_5 : decode cX12_move 5 = .ok (.istore_n 2, 1) := by decide +kernel
theorem dX12_move_6 : decode cX12_move 6 = .ok (.aload_n 0, 1) := by decide +kernel
theorem dX12_move_7 : decode cX12_move 7 = .ok (.getfield 112, 3) := by decide +kernel
theorem dX12_move_10 : decode cX12_move 10 = .ok (.iload_n 1, 1) := by decide +kernel
theorem dX12_move_11 : decode cX12_move 11 = .ok (.iconst 0, 1) := by decide +kernel
theorem dX12_move_12 : decode cX12_move 12 = .ok (.iastore, 1) := by decide +kernel
theorem dX12_move_13 : decode cX12_move 13 = .ok (.iconst 1, 1) := by decide +kernel
theorem dX12_move_14 : decode cX12_move 14 = .ok (.istore_n 3, 1) := by decide +kernel
theorem dX12_move_15 : decode cX12_move 15 = .ok (.iload_n 3, 1) := by decide +kernel
theorem dX12_move_16 : decode cX12_move 16 = .ok (.ifCond .eq 83, 3) := by decide +kernel
theorem dX12_move_19 : decode cX12_move 19 = .ok (.aload_n 0, 1) := by decide +kernel
theorem dX12_move_20 : decode cX12_move 20 = .ok (.getfield 112, 3) := by decide +kernel
theorem dX12_move_23 : decode cX12_move 23 = .ok (.iload_n 1, 1) := by decide +kernel
theorem dX12_move_24 : decode cX12_move 24 = .ok (.iaload, 1) := by decide +kernel
theorem dX12_move_25 : decode cX12_move 25 = .ok (.iload_n 2, 1) := by decide +kernel
theorem dX12_move_26 : decode cX12_move 26 = .ok (.if_icmp .ge 73, 3) := by decide +kernel
theorem dX12_move_29 : decode cX12_move 29 = .ok (.aload_n 0, 1) := by decide +kernel
theorem dX12_move_30 : decode cX12_move 30 = .ok (.getfield 13, 3) := by decide +kernel
theorem dX12_move_33 : decode cX12_move 33 = .ok (.bipush 8, 2) := by decide +kernel
theorem dX12_move_35 : decode cX12_move 35 = .ok (.iload_n 1, 1) := by decide +kernel
theorem dX12_move_36 : decode cX12_move 36 = .ok (.iadd, 1) := by decide +kernel
theorem dX12_move_37 : decode cX12_move 37 = .ok (.iaload, 1) := by decide +kernel
theorem dX12_move_38 : decode cX12_move 38 = .ok (.iconst 1, 1) := by decide +kernel
theorem dX12_move_39 : decode cX12_move 39 = .ok (.iadd, 1) := by decide +kernel
theorem dX12_move_40 : decode cX12_move 40 = .ok (.bipush 32, 2) := by decide +kernel
theorem dX12_move_42 : decode cX12_move 42 = .ok (.irem, 1) := by decide +kernel
theorem dX12_move_43 : decode cX12_move 43 = .ok (.istore 4, 2) := by decide +kernel
theorem dX12_move_45 : decode cX12_move 45 = .ok (.aload_n 0, 1) := by decide +kernel
theorem dX12_move_46 : decode cX12_move 46 = .ok (.iload 4, 2) := by decide +kernel
theorem dX12_move_48 : decode cX12_move 48 = .ok (.invokevirtual 203, 3) := by decide +kernel
theorem dX12_move_51 : decode cX12_move 51 = .ok (.iconst (-1), 1) := by decide +kernel
theorem dX12_move_52 : decode cX12_move 52 = .ok (.if_icmp .ne 17, 3) := by decide +kernel
theorem dX12_move_55 : decode cX12_move 55 = .ok (.aload_n 0, 1) := by decide +kernel
theorem dX12_move_56 : decode cX12_move 56 = .ok (.iload_n 1, 1) := by decide +kernel
theorem dX12_move_57 : decode cX12_move 57 = .ok (.iload 4, 2) := by decide +kernel
theorem dX12_move_59 : decode cX12_move 59 = .ok (.invokevirtual 433, 3) := by decide +kernel
theorem dX12_move_62 : decode cX12_move 62 = .ok (.ifCond .eq 7, 3) := by decide +kernel
theorem dX12_move_65 : decode cX12_move 65 = .ok (.iconst 1, 1) := by decide +kernel
theorem dX12_move_66 : decode cX12_move 66 = .ok (.goto 4, 3) := by decide +kernel
theorem dX12_move_69 : decode cX12_move 69 = .ok (.iconst 0, 1) := by decide +kernel
theorem dX12_move_70 : decode cX12_move 70 = .ok (.istore_n 3, 1) := by decide +kernel
theorem dX12_move_71 : decode cX12_move 71 = .ok (.iload_n 3, 1) := by decide +kernel
theorem dX12_move_72 : decode cX12_move 72 = .ok (.ifCond .eq 24, 3) := by decide +kernel
theorem dX12_move_75 : decode cX12_move 75 = .ok (.aload_n 0, 1) := by decide +kernel
theorem dX12_move_76 : decode cX12_move 76 = .ok (.getfield 13, 3) := by decide +kernel
theorem dX12_move_79 : decode cX12_move 79 = .ok (.bipush 8, 2) := by decide +kernel
theorem dX12_move_81 : decode cX12_move 81 = .ok (.iload_n 1, 1) := by decide +kernel
theorem dX12_move_82 : decode cX12_move 82 = .ok (.iadd, 1) := by decide +kernel
theorem dX12_move_83 : decode cX12_move 83 = .ok (.iload 4, 2) := by decide +kernel
theorem dX12_move_85 : decode cX12_move 85 = .ok (.iastore, 1) := by decide +kernel
theorem dX12_move_86 : decode cX12_move 86 = .ok (.aload_n 0, 1) := by decide +kernel
theorem dX12_move_87 : decode cX12_move 87 = .ok (.getfield 112, 3) := by decide +kernel
theorem dX12_move_90 : decode cX12_move 90 = .ok (.iload_n 1, 1) := by decide +kernel
theorem dX12_move_91 : decode cX12_move 91 = .ok (.dup2, 1) := by decide +kernel
theorem dX12_move_92 : decode cX12_move 92 = .ok (.iaload, 1) := by decide +kernel
theorem dX12_move_93 : decode cX12_move 93 = .ok (.iconst 1, 1) := by decide +kernel
theorem dX12_move_94 : decode cX12_move 94 = .ok (.iadd, 1) := by decide +kernel
theorem dX12_move_95 : decode cX12_move 95 = .ok (.iastore, 1) := by decide +kernel
theorem dX12_move_96 : decode cX12_move 96 = .ok (.goto (-81), 3) := by decide +kernel
theorem dX12_move_99 : decode cX12_move 99 = .ok (.aload_n 0, 1) := by decide +kernel
theorem dX12_move_100 : decode cX12_move 100 = .ok (.dup, 1) := by decide +kernel
theorem dX12_move_101 : decode cX12_move 101 = .ok (.getfield 461, 3) := by decide +kernel
theorem dX12_move_104 : decode cX12_move 104 = .ok (.aload_n 0, 1) := by decide +kernel
theorem dX12_move_105 : decode cX12_move 105 = .ok (.getfield 112, 3) := by decide +kernel
theorem dX12_move_108 : decode cX12_move 108 = .ok (.iload_n 1, 1) := by decide +kernel
theorem dX12_move_109 : decode cX12_move 109 = .ok (.iaload, 1) := by decide +kernel
theorem dX12_move_110 : decode cX12_move 110 = .ok (.iload_n 2, 1) := by decide +kernel
theorem dX12_move_111 : decode cX12_move 111 = .ok (.if_icmp .ge 7, 3) := by decide +kernel
theorem dX12_move_114 : decode cX12_move 114 = .ok (.iconst 1, 1) := by decide +kernel
theorem dX12_move_115 : decode cX12_move 115 = .ok (.goto 4, 3) := by decide +kernel
theorem dX12_move_118 : decode cX12_move 118 = .ok (.iconst 0, 1) := by decide +kernel
theorem dX12_move_119 : decode cX12_move 119 = .ok (.iadd, 1) := by decide +kernel
theorem dX12_move_120 : decode cX12_move 120 = .ok (.putfield 461, 3) := by decide +kernel
theorem dX12_move_123 : decode cX12_move 123 = .ok (.return_, 1) := by decide +kernel
set_option maxRecDepth 20000 in
theorem rX12_move_0 {E : EN} (hE : Ep E) {k : Nat} {mem : Mm} {Q : Mm → Prop} {p0 : Int}
    (h : (R32 p0 → CI E mX12_movesOf k mem [aR 603, aI p0] (fun r2 m1 => (0 ≤ p0 ∧ p0 < 10) ∧ VM E mX12_move (k + 1) (aUp m1 624 p0 0) 15 [(0, aR 603), (1, aI p0), (2, aI r2), (3, aI 1)] [] (retV Q)))) :
    VM E mX12_move (k + 1) mem 0 [(0, aR 603), (1, aI p0)] [] (retV Q) := by
  refine v_aload_n (pc := 0) dX12_move_0 0 rfl ?_
  refine v_iload_n (pc := 1) dX12_move_1 1 rfl ?_
  refine m_invI (pc := 2) (mi' := mX12_movesOf) (rest := []) [aI p0] dX12_move_2 at603 (by decide) rfl msX12_movesOf mvX12_movesOf lkX12_217 rfl (Nat.le_of_ble_eq_true rfl) (fun hn => CI_mono (h (aaI hn 1 rfl)) (fun r2 m1 h => ?_))
  refine v_istore_n (pc := 5) (al2 := [(2, aI r2), (0, aR 603), (1, aI p0)]) dX12_move_5 (by decide) rfl ?_
  refine v_aload_n (pc := 6) dX12_move_6 1 rfl ?_
  refine m_getfin (pc := 7) (v := 624) hE dX12_move_7 flX12_112 rfl at603 rfl ?_
  refine v_iload_n (pc := 10) dX12_move_10 2 rfl ?_
  refine v_iconst (pc := 11) dX12_move_11 (by decide) ?_
  obtain ⟨o3, h⟩ := h
  refine v_iast (pc := 12) dX12_move_12 at624 o3.1 o3.2 ?_
  refine v_iconst (pc := 13) dX12_move_13 (by decide) ?_
  refine v_istore_n (pc := 14) (al2 := [(3, aI 1), (2, aI r2), (0, aR 603), (1, aI p0)]) dX12_move_14 (by decide) rfl ?_
  exact VG_sub (al' := [(0, aR 603), (1, aI p0), (2, aI r2), (3, aI 1)]) [2, 3, 1, 0] rfl h
theorem eX12_move {E : EN} {k : Nat} {mem : Mm} {Q : Mm → Prop} {p0 : Int} (hr_p0 : R32 p0) (h : VM E mX12_move (k + 1) mem 0 [(0, aR 603), (1, aI p0)] [] (retV Q)) : CV E mX12_move (k + 1) mem [aR 603, aI p0] Q := CV_of rfl (Nat.le_of_ble_eq_true rfl) h (aNs_c (aNr_R _) (aNs_c (aNr_I hr_p0) (fun _ q => nomatch q)))
set_option maxRecDepth 20000 in
theorem rX12_move_15 {E : EN} (hE : Ep E) {k : Nat} {mem : Mm} {Q : Mm → Prop} {p0 x2 x3 : Int}
    (h : ((x3 = 0 → (0 ≤ p0 ∧ p0 < 10) ∧ ((x2 ≤ (mem 624 p0) → (R32 ((mem 603 42) + 0)) ∧ Q (aUp mem 603 42 ((mem 603 42) + 0))) ∧ ((mem 624 p0) < x2 → (R32 ((mem 603 42) + 1)) ∧ Q (aUp mem 603 42 ((mem 603 42) + 1))))) ∧ (¬ x3 = 0 → (0 ≤ p0 ∧ p0 < 10) ∧ ((x2 ≤ (mem 624 p0) → ((x2 ≤ (mem 624 p0) → (R32 ((mem 603 42) + 0)) ∧ Q (aUp mem 603 42 ((mem 603 42) + 0))) ∧ ((mem 624 p0) < x2 → (R32 ((mem 603 42) + 1)) ∧ Q (aUp mem 603 42 ((mem 603 42) + 1))))) ∧ ((mem 624 p0) < x2 → (R32 (8 + p0)) ∧ (0 ≤ (8 + p0) ∧ (8 + p0) < 5570) ∧ (R32 ((mem 605 (8 + p0)) + 1)) ∧ (R32 (Int.tmod ((mem 605 (8 + p0)) + 1) 32) → CI E mX12_plotIn k mem [aR 603, aI (Int.tmod ((mem 605 (8 + p0)) + 1) 32)] (fun r11 m10 => ((¬ r11 = (-1) → VM E mX12_move (k + 1) m10 15 [(0, aR 603), (1, aI p0), (2, aI x2), (3, aI 0)] [] (retV Q)) ∧ (r11 = (-1) → (R32 p0 → R32 (Int.tmod ((mem 605 (8 + p0)) + 1) 32) → CI E mX12_canGo k m10 [aR 603, aI p0, aI (Int.tmod ((mem 605 (8 + p0)) + 1) 32)] (fun r13 m12 => ((r13 = 0 → VM E mX12_move (k + 1) m12 15 [(0, aR 603), (1, aI p0), (2, aI x2), (3, aI 0)] [] (retV Q)) ∧ (¬ r13 = 0 → (R32 ((m12 624 p0) + 1)) ∧ VM E mX12_move (k + 1) (aUp (aUp m12 605 (8 + p0) (Int.tmod ((mem 605 (8 + p0)) + 1) 32)) 624 p0 ((m12 624 p0) + 1)) 15 [(0, aR 603), (1, aI p0), (2, aI x2), (3, aI 1)] [] (retV Q)))))))))))))) :
    VM E mX12_move (k + 1) mem 15 [(0, aR 603), (1, aI p0), (2, aI x2), (3, aI x3)] [] (retV Q) := by
  refine v_iload_n (pc := 15) dX12_move_15 3 rfl ?_
  refine v_ifeq (pc := 16) (tgt := 99) dX12_move_16 (by decide) (fun c1 => ?_) (fun c1 => ?_)
  · have h := h.1 c1
    refine v_aload_n (pc := 99) dX12_move_99 0 rfl ?_
    refine v_dup (pc := 100) dX12_move_100 rfl ?_
    refine m_getf (pc := 101) (t := 0) (v := (mem 603 42)) dX12_move_101 flX12_461 rfl at603 rfl ?_
    refine v_aload_n (pc := 104) dX12_move_104 0 rfl ?_
    refine m_getfin (pc := 105) (v := 624) hE dX12_move_105 flX12_112 rfl at603 rfl ?_
    refine v_iload_n (pc := 108) dX12_move_108 1 rfl ?_
    obtain ⟨o1, h⟩ := h
    refine m_iald (pc := 109) (v := (mem 624 p0)) dX12_move_109 at624 o1.1 o1.2 rfl ?_
    refine v_iload_n (pc := 110) dX12_move_110 2 rfl ?_
    refine v_icmpge (pc := 111) (tgt := 118) dX12_move_111 (by decide) (fun c1 => ?_) (fun c1 => ?_)
    · have h := h.1 c1
      refine v_iconst (pc := 118) dX12_move_118 (by decide) ?_
      obtain ⟨o2, h⟩ := h
      refine m_iadd (pc := 119) dX12_move_119 o2 ?_
      refine v_putf (pc := 120) dX12_move_120 flX12_461 ⟨_, _, rfl, Or.inl rfl⟩ rfl (by decide) (fun q => nomatch q) (Or.inl fun _ => rfl) at603 ?_
      exact m_retV (pc := 123) dX12_move_123 rfl h
    · have h := h.2 c1
      refine v_iconst (pc := 114) dX12_move_114 (by decide) ?_
      refine v_goto (pc := 115) (tgt := 119) dX12_move_115 (by decide) ?_
      obtain ⟨o3, h⟩ := h
      refine m_iadd (pc := 119) dX12_move_119 o3 ?_
      refine v_putf (pc := 120) dX12_move_120 flX12_461 ⟨_, _, rfl, Or.inl rfl⟩ rfl (by decide) (fun q => nomatch q) (Or.inl fun _ => rfl) at603 ?_
      exact m_retV (pc := 123) dX12_move_123 rfl h
  · have h := h.2 c1
    refine v_aload_n (pc := 19) dX12_move_19 0 rfl ?_
    refine m_getfin (pc := 20) (v := 624) hE dX12_move_20 flX12_112 rfl at603 rfl ?_
    refine v_iload_n (pc := 23) dX12_move_23 1 rfl ?_
    obtain ⟨o4, h⟩ := h
    refine m_iald (pc := 24) (v := (mem 624 p0)) dX12_move_24 at624 o4.1 o4.2 rfl ?_
    refine v_iload_n (pc := 25) dX12_move_25 2 rfl ?_
    refine v_icmpge (pc := 26) (tgt := 99) dX12_move_26 (by decide) (fun c1 => ?_) (fun c1 => ?_)
    · have h := h.1 c1
      refine v_aload_n (pc := 99) dX12_move_99 0 rfl ?_
      refine v_dup (pc := 100) dX12_move_100 rfl ?_
      refine m_getf (pc := 101) (t := 0) (v := (mem 603 42)) dX12_move_101 flX12_461 rfl at603 rfl ?_
      refine v_aload_n (pc := 104) dX12_move_104 0 rfl ?_
      refine m_getfin (pc := 105) (v := 624) hE dX12_move_105 flX12_112 rfl at603 rfl ?_
      refine v_iload_n (pc := 108) dX12_move_108 1 rfl ?_
      refine m_iald (pc := 109) (v := (mem 624 p0)) dX12_move_109 at624 o4.1 o4.2 rfl ?_
      refine v_iload_n (pc := 110) dX12_move_110 2 rfl ?_
      refine v_icmpge (pc := 111) (tgt := 118) dX12_move_111 (by decide) (fun c1 => ?_) (fun c1 => ?_)
      · have h := h.1 c1
        refine v_iconst (pc := 118) dX12_move_118 (by decide) ?_
        obtain ⟨o5, h⟩ := h
        refine m_iadd (pc := 119) dX12_move_119 o5 ?_
        refine v_putf (pc := 120) dX12_move_120 flX12_461 ⟨_, _, rfl, Or.inl rfl⟩ rfl (by decide) (fun q => nomatch q) (Or.inl fun _ => rfl) at603 ?_
        exact m_retV (pc := 123) dX12_move_123 rfl h
      · have h := h.2 c1
        refine v_iconst (pc := 114) dX12_move_114 (by decide) ?_
        refine v_goto (pc := 115) (tgt := 119) dX12_move_115 (by decide) ?_
        obtain ⟨o6, h⟩ := h
        refine m_iadd (pc := 119) dX12_move_119 o6 ?_
        refine v_putf (pc := 120) dX12_move_120 flX12_461 ⟨_, _, rfl, Or.inl rfl⟩ rfl (by decide) (fun q => nomatch q) (Or.inl fun _ => rfl) at603 ?_
        exact m_retV (pc := 123) dX12_move_123 rfl h
    · have h := h.2 c1
      refine v_aload_n (pc := 29) dX12_move_29 0 rfl ?_
      refine m_getfin (pc := 30) (v := 605) hE dX12_move_30 flX12_13 rfl at603 rfl ?_
      refine v_bipush (pc := 33) dX12_move_33 (by decide) ?_
      refine v_iload_n (pc := 35) dX12_move_35 1 rfl ?_
      obtain ⟨o7, h⟩ := h
      refine m_iadd (pc := 36) dX12_move_36 o7 ?_
      obtain ⟨o8, h⟩ := h
      refine m_iald (pc := 37) (v := (mem 605 (8 + p0))) dX12_move_37 at605 o8.1 o8.2 rfl ?_
      refine v_iconst (pc := 38) dX12_move_38 (by decide) ?_
      obtain ⟨o9, h⟩ := h
      refine m_iadd (pc := 39) dX12_move_39 o9 ?_
      refine v_bipush (pc := 40) dX12_move_40 (by decide) ?_
      refine v_irem (pc := 42) dX12_move_42 (by decide) ?_
      refine v_istore (pc := 43) (al2 := [(4, aI (Int.tmod ((mem 605 (8 + p0)) + 1) 32)), (0, aR 603), (1, aI p0), (2, aI x2), (3, aI x3)]) dX12_move_43 (by decide) rfl ?_
      refine v_aload_n (pc := 45) dX12_move_45 1 rfl ?_
      refine v_iload (pc := 46) dX12_move_46 0 rfl ?_
      refine m_invI (pc := 48) (mi' := mX12_plotIn) (rest := []) [aI (Int.tmod ((mem 605 (8 + p0)) + 1) 32)] dX12_move_48 at603 (by decide) rfl msX12_plotIn mvX12_plotIn lkX12_203 rfl (Nat.le_of_ble_eq_true rfl) (fun hn => CI_mono (h (aaI hn 1 rfl)) (fun r11 m10 h => ?_))
      refine v_iconst (pc := 51) dX12_move_51 (by decide) ?_
      refine v_icmpne (pc := 52) (tgt := 69) dX12_move_52 (by decide) (fun c1 => ?_) (fun c1 => ?_)
      · have h := h.1 c1
        refine v_iconst (pc := 69) dX12_move_69 (by decide) ?_
        refine v_istore_n (pc := 70) (al2 := [(3, aI 0), (4, aI (Int.tmod ((mem 605 (8 + p0)) + 1) 32)), (0, aR 603), (1, aI p0), (2, aI x2)]) dX12_move_70 (by decide) rfl ?_
        refine v_iload_n (pc := 71) dX12_move_71 0 rfl ?_
        refine v_ifeq (pc := 72) (tgt := 96) dX12_move_72 (by decide) (fun c1 => ?_) (fun c1 => absurd c1 (by decide))
        refine v_goto (pc := 96) (tgt := 15) dX12_move_96 (by decide) ?_
        exact VG_sub (al' := [(0, aR 603), (1, aI p0), (2, aI x2), (3, aI 0)]) [2, 3, 4, 0] rfl h
      · have h := h.2 c1
        refine v_aload_n (pc := 55) dX12_move_55 1 rfl ?_
        refine v_iload_n (pc := 56) dX12_move_56 2 rfl ?_
        refine v_iload (pc := 57) dX12_move_57 0 rfl ?_
        refine m_invI (pc := 59) (mi' := mX12_canGo) (rest := []) [aI p0, aI (Int.tmod ((mem 605 (8 + p0)) + 1) 32)] dX12_move_59 at603 (by decide) rfl msX12_canGo mvX12_canGo lkX12_433 rfl (Nat.le_of_ble_eq_true rfl) (fun hn => CI_mono (h (aaI hn 1 rfl) (aaI hn 2 rfl)) (fun r13 m12 h => ?_))
        refine v_ifeq (pc := 62) (tgt := 69) dX12_move_62 (by decide) (fun c1 => ?_) (fun c1 => ?_)
        · have h := h.1 c1
          refine v_iconst (pc := 69) dX12_move_69 (by decide) ?_
          refine v_istore_n (pc := 70) (al2 := [(3, aI 0), (4, aI (Int.tmod ((mem 605 (8 + p0)) + 1) 32)), (0, aR 603), (1, aI p0), (2, aI x2)]) dX12_move_70 (by decide) rfl ?_
          refine v_iload_n (pc := 71) dX12_move_71 0 rfl ?_
          refine v_ifeq (pc := 72) (tgt := 96) dX12_move_72 (by decide) (fun c1 => ?_) (fun c1 => absurd c1 (by decide))
          refine v_goto (pc := 96) (tgt := 15) dX12_move_96 (by decide) ?_
          exact VG_sub (al' := [(0, aR 603), (1, aI p0), (2, aI x2), (3, aI 0)]) [2, 3, 4, 0] rfl h
        · have h := h.2 c1
          refine v_iconst (pc := 65) dX12_move_65 (by decide) ?_
          refine v_goto (pc := 66) (tgt := 70) dX12_move_66 (by decide) ?_
          refine v_istore_n (pc := 70) (al2 := [(3, aI 1), (4, aI (Int.tmod ((mem 605 (8 + p0)) + 1) 32)), (0, aR 603), (1, aI p0), (2, aI x2)]) dX12_move_70 (by decide) rfl ?_
          refine v_iload_n (pc := 71) dX12_move_71 0 rfl ?_
          refine v_ifeq (pc := 72) (tgt := 96) dX12_move_72 (by decide) (fun c1 => absurd c1 (by decide)) (fun c1 => ?_)
          refine v_aload_n (pc := 75) dX12_move_75 2 rfl ?_
          refine m_getfin (pc := 76) (v := 605) hE dX12_move_76 flX12_13 rfl at603 rfl ?_
          refine v_bipush (pc := 79) dX12_move_79 (by decide) ?_
          refine v_iload_n (pc := 81) dX12_move_81 3 rfl ?_
          refine m_iadd (pc := 82) dX12_move_82 o7 ?_
          refine v_iload (pc := 83) dX12_move_83 1 rfl ?_
          refine v_iast (pc := 85) dX12_move_85 at605 o8.1 o8.2 ?_
          refine v_aload_n (pc := 86) dX12_move_86 2 rfl ?_
          refine m_getfin (pc := 87) (v := 624) hE dX12_move_87 flX12_112 rfl at603 rfl ?_
          refine v_iload_n (pc := 90) dX12_move_90 3 rfl ?_
          refine v_dup2 (pc := 91) dX12_move_91 rfl rfl ?_
          refine m_iald (pc := 92) (v := (m12 624 p0)) dX12_move_92 at624 o4.1 o4.2 (aUp_rn (by omega)) ?_
          refine v_iconst (pc := 93) dX12_move_93 (by decide) ?_
          obtain ⟨o14, h⟩ := h
          refine m_iadd (pc := 94) dX12_move_94 o14 ?_
          refine v_iast (pc := 95) dX12_move_95 at624 o4.1 o4.2 ?_
          refine v_goto (pc := 96) (tgt := 15) dX12_move_96 (by decide) ?_
          exact VG_sub (al' := [(0, aR 603), (1, aI p0), (2, aI x2), (3, aI 1)]) [2, 3, 4, 0] rfl h

theorem dX12_age_0 : decode cX12_age 0 = .ok (.iconst 0, 1) := by decide +kernel
theorem dX12_age_1 : decode cX12_age 1 = .ok (.istore_n 1, 1) := by decide +kernel
theorem dX12_age_2 : decode cX12_age 2 = .ok (.iload_n 1, 1) := by decide +kernel
theorem dX12_age_3 : decode cX12_age 3 = .ok (.aload_n 0, 1) := by decide +kernel
theorem dX12_age_4 : decode cX12_age 4 = .ok (.getfield 13, 3) := by decide +kernel
theorem dX12_age_7 : decode cX12_age 7 = .ok (.bipush 7, 2) := by decide +kernel
theorem dX12_age_9 : decode cX12_age 9 = .ok (.iaload, 1) := by decide +kernel
theorem dX12_age_10 : decode cX12_age 10 = .ok (.if_icmp .ge 37, 3) := by decide +kernel
theorem dX12_age_13 : decode cX12_age 13 = .ok (.aload_n 0, 1) := by decide +kernel
theorem dX12_age_14 : decode cX12_age 14 = .ok (.getfield 13, 3) := by decide +kernel
theorem dX12_age_17 : decode cX12_age 17 = .ok (.bipush 38, 2) := by decide +kernel
theorem dX12_age_19 : decode cX12_age 19 = .ok (.iload_n 1, 1) := by decide +kernel
theorem dX12_age_20 : decode cX12_age 20 = .ok (.iadd, 1) := by decide +kernel
theorem dX12_age_21 : decode cX12_age 21 = .ok (.aload_n 0, 1) := by decide +kernel
theorem dX12_age_22 : decode cX12_age 22 = .ok (.getfield 13, 3) := by decide +kernel
theorem dX12_age_25 : decode cX12_age 25 = .ok (.bipush 38, 2) := by decide +kernel
theorem dX12_age_27 : decode cX12_age 27 = .ok (.iload_n 1, 1) := by decide +kernel
theorem dX12_age_28 : decode cX12_age 28 = .ok (.iadd, 1) := by decide +kernel
theorem dX12_age_29 : decode cX12_age 29 = .ok (.iaload, 1) := by decide +kernel
theorem dX12_age_30 : decode cX12_age 30 = .ok (.i2l, 1) := by decide +kernel
theorem dX12_age_31 : decode cX12_age 31 = .ok (.lconst 1, 1) := by decide +kernel
theorem dX12_age_32 : decode cX12_age 32 = .ok (.ladd, 1) := by decide +kernel
theorem dX12_age_33 : decode cX12_age 33 = .ok (.iconst 0, 1) := by decide +kernel
theorem dX12_age_34 : decode cX12_age 34 = .ok (.sipush 999, 3) := by decide +kernel
theorem dX12_age_37 : decode cX12_age 37 = .ok (.invokestatic 422, 3) := by decide +kernel
theorem dX12_age_40 : decode cX12_age 40 = .ok (.iastore, 1) := by decide +kernel
theorem dX12_age_41 : decode cX12_age 41 = .ok (.iinc 1 1, 3) := by decide +kernel
theorem dX12_age_44 : decode cX12_age 44 = .ok (.goto (-42), 3) := by decide +kernel
theorem dX12_age_47 : decode cX12_age 47 = .ok (.aload_n 0, 1) := by decide +kernel
theorem dX12_age_48 : decode cX12_age 48 = .ok (.getfield 13, 3) := by decide +kernel
theorem dX12_age_51 : decode cX12_age 51 = .ok (.iconst 3, 1) := by decide +kernel
theorem dX12_age_52 : decode cX12_age 52 = .ok (.dup2, 1) := by decide +kernel
theorem dX12_age_53 : decode cX12_age 53 = .ok (.iaload, 1) := by decide +kernel
theorem dX12_age_54 : decode cX12_age 54 = .ok (.iconst 1, 1) := by decide +kernel
theorem dX12_age_55 : decode cX12_age 55 = .ok (.iadd, 1) := by decide +kernel
theorem dX12_age_56 : decode cX12_age 56 = .ok (.iastore, 1) := by decide +kernel
theorem dX12_age_57 : decode cX12_age 57 = .ok (.return_, 1) := by decide +kernel
set_option maxRecDepth 20000 in
theorem rX12_age_0 {E : EN} (hE : Ep E) {k : Nat} {mem : Mm} {Q : Mm → Prop}
    (h : VM E mX12_age (k + 1) mem 2 [(0, aR 603), (1, aI 0)] [] (retV Q)) :
    VM E mX12_age (k + 1) mem 0 [(0, aR 603)] [] (retV Q) := by
  refine v_iconst (pc := 0) dX12_age_0 (by decide) ?_
  refine v_istore_n (pc := 1) (al2 := [(1, aI 0), (0, aR 603)]) dX12_age_1 (by decide) rfl ?_
  exact VG_sub (al' := [(0, aR 603), (1, aI 0)]) [1, 0] rfl h
theorem eX12_age {E : EN} {k : Nat} {mem : Mm} {Q : Mm → Prop}  (h : VM E mX12_age (k + 1) mem 0 [(0, aR 603)] [] (retV Q)) : CV E mX12_age (k + 1) mem [aR 603] Q := CV_of rfl (Nat.le_of_ble_eq_true rfl) h (aNs_c (aNr_R _) (fun _ q => nomatch q))
set_option maxRecDepth 20000 in
theorem rX12_age_2 {E : EN} (hE : Ep E) {k : Nat} {mem : Mm} {Q : Mm → Prop} {x1 : Int}
    (h : (((mem 605 7) ≤ x1 → (R32 ((mem 605 3) + 1)) ∧ Q (aUp mem 605 3 ((mem 605 3) + 1))) ∧ (x1 < (mem 605 7) → (R32 (38 + x1)) ∧ (0 ≤ (38 + x1) ∧ (38 + x1) < 5570) ∧ (R64 ((mem 605 (38 + x1)) + 1)) ∧ (R64 ((mem 605 (38 + x1)) + 1) → CI E mX12_within k mem [aL ((mem 605 (38 + x1)) + 1), aI 0, aI 999] (fun r6 m5 => (R32 (x1 + 1)) ∧ VM E mX12_age (k + 1) (aUp m5 605 (38 + x1) r6) 2 [(0, aR 603), (1, aI (x1 + 1))] [] (retV Q)))))) :
    VM E mX12_age (k + 1) mem 2 [(0, aR 603), (1, aI x1)] [] (retV Q) := by
  refine v_iload_n (pc := 2) dX12_age_2 1 rfl ?_
  refine v_aload_n (pc := 3) dX12_age_3 0 rfl ?_
  refine m_getfin (pc := 4) (v := 605) hE dX12_age_4 flX12_13 rfl at603 rfl ?_
  refine v_bipush (pc := 7) dX12_age_7 (by decide) ?_
  refine m_iald (pc := 9) (v := (mem 605 7)) dX12_age_9 at605 (by omega) (by omega) rfl ?_
  refine v_icmpge (pc := 10) (tgt := 47) dX12_age_10 (by decide) (fun c1 => ?_) (fun c1 => ?_)
  · have h := h.1 c1
    refine v_aload_n (pc := 47) dX12_age_47 0 rfl ?_
    refine m_getfin (pc := 48) (v := 605) hE dX12_age_48 flX12_13 rfl at603 rfl ?_
    refine v_iconst (pc := 51) dX12_age_51 (by decide) ?_
    refine v_dup2 (pc := 52) dX12_age_52 rfl rfl ?_
    refine m_iald (pc := 53) (v := (mem 605 3)) dX12_age_53 at605 (by omega) (by omega) rfl ?_
    refine v_iconst (pc := 54) dX12_age_54 (by decide) ?_
    obtain ⟨o1, h⟩ := h
    refine m_iadd (pc := 55) dX12_age_55 o1 ?_
    refine v_iast (pc := 56) dX12_age_56 at605 (by omega) (by omega) ?_
    exact m_retV (pc := 57) dX12_age_57 rfl h
  · have h := h.2 c1
    refine v_aload_n (pc := 13) dX12_age_13 0 rfl ?_
    refine m_getfin (pc := 14) (v := 605) hE dX12_age_14 flX12_13 rfl at603 rfl ?_
    refine v_bipush (pc := 17) dX12_age_17 (by decide) ?_
    refine v_iload_n (pc := 19) dX12_age_19 1 rfl ?_
    obtain ⟨o2, h⟩ := h
    refine m_iadd (pc := 20) dX12_age_20 o2 ?_
    refine v_aload_n (pc := 21) dX12_age_21 0 rfl ?_
    refine m_getfin (pc := 22) (v := 605) hE dX12_age_22 flX12_13 rfl at603 rfl ?_
    refine v_bipush (pc := 25) dX12_age_25 (by decide) ?_
    refine v_iload_n (pc := 27) dX12_age_27 1 rfl ?_
    refine m_iadd (pc := 28) dX12_age_28 o2 ?_
    obtain ⟨o3, h⟩ := h
    refine m_iald (pc := 29) (v := (mem 605 (38 + x1))) dX12_age_29 at605 o3.1 o3.2 rfl ?_
    refine v_i2l (pc := 30) dX12_age_30 ?_
    refine v_lconst1 (pc := 31) dX12_age_31 ?_
    obtain ⟨o4, h⟩ := h
    refine m_ladd (pc := 32) dX12_age_32 o4 ?_
    refine v_iconst (pc := 33) dX12_age_33 (by decide) ?_
    refine v_sipush (pc := 34) dX12_age_34 (by decide) ?_
    refine m_invSI (pc := 37) (mi' := mX12_within) (rest := [aI (38 + x1), aR 605]) [aL ((mem 605 (38 + x1)) + 1), aI 0, aI 999] dX12_age_37 msX12_within stX12_within lkX12_422 rfl (Nat.le_of_ble_eq_true rfl) (fun hn => CI_mono (h (aaL hn 0 rfl)) (fun r6 m5 h => ?_))
    refine v_iast (pc := 40) dX12_age_40 at605 o3.1 o3.2 ?_
    obtain ⟨o7, h⟩ := h
    refine m_iinc (pc := 41) (al2 := [(1, aI (x1 + 1)), (0, aR 603)]) dX12_age_41 1 rfl (by decide) o7 rfl ?_
    refine v_goto (pc := 44) (tgt := 2) dX12_age_44 (by decide) ?_
    exact VG_sub (al' := [(0, aR 603), (1, aI (x1 + 1))]) [1, 0] rfl h

theorem dX12_passIt_0 : decode cX12_passIt 0 = .ok (.iconst 0, 1) := by decide +kernel
theorem dX12_passIt_1 : decode cX12_passIt 1 = .ok (.istore_n 1, 1) := by decide +kernel
theorem dX12_passIt_2 : decode cX12_passIt 2 = .ok (.aload_n 0, 1) := by decide +kernel
theorem dX12_passIt_3 : decode cX12_passIt 3 = .ok (.iconst 0, 1) := by decide +kernel
theorem dX12_passIt_4 : decode cX12_passIt 4 = .ok (.putfield 461, 3) := by decide +kernel
theorem dX12_passIt_7 : decode cX12_passIt 7 = .ok (.iconst 0, 1) := by decide +kernel
theorem dX12_passIt_8 : decode cX12_passIt 8 = .ok (.istore_n 2, 1) := by decide +kernel
theorem dX12_passIt_9 : decode cX12_passIt 9 = .ok (.iload_n 2, 1) := by decide +kernel
theorem dX12_passIt_10 : decode cX12_passIt 10 = .ok (.aload_n 0, 1) := by decide +kernel
theorem dX12_passIt_11 : decode cX12_passIt 11 = .ok (.getfield 13, 3) := by decide +kernel
theorem dX12_passIt_14 : decode cX12_passIt 14 = .ok (.bipush 7, 2) := by decide +kernel
theorem dX12_passIt_16 : decode cX12_passIt 16 = .ok (.iaload, 1) := by decide +kernel
theorem dX12_passIt_17 : decode cX12_passIt 17 = .ok (.if_icmp .ge 23, 3) := by decide +kernel
theorem dX12_passIt_20 : decode cX12_passIt 20 = .ok (.aload_n 0, 1) := by decide +kernel
theorem dX12_passIt_21 : decode cX12_passIt 21 = .ok (.iload_n 2, 1) := by decide +kernel
theorem dX12_passIt_22 : decode cX12_passIt 22 = .ok (.invokevirtual 464, 3) := by decide +kernel
theorem dX12_passIt_25 : decode cX12_passIt 25 = .ok (.iload_n 1, 1) := by decide +kernel
theorem dX12_passIt_26 : decode cX12_passIt 26 = .ok (.aload_n 0, 1) := by decide +kernel
theorem dX12_passIt_27 : decode cX12_passIt 27 = .ok (.getfield 112, 3) := by decide +kernel
theorem dX12_passIt_30 : decode cX12_passIt 30 = .ok (.iload_n 2, 1) := by decide +kernel
theorem dX12_passIt_31 : decode cX12_passIt 31 = .ok (.iaload, 1) := by decide +kernel
theorem dX12_passIt_32 : decode cX12_passIt 32 = .ok (.iadd, 1) := by decide +kernel
theorem dX12_passIt_33 : decode cX12_passIt 33 = .ok (.istore_n 1, 1) := by decide +kernel
theorem dX12_passIt_34 : decode cX12_passIt 34 = .ok (.iinc 2 1, 3) := by decide +kernel
theorem dX12_passIt_37 : decode cX12_passIt 37 = .ok (.goto (-28), 3) := by decide +kernel
theorem dX12_passIt_40 : decode cX12_passIt 40 = .ok (.aload_n 0, 1) := by decide +kernel
theorem dX12_passIt_41 : decode cX12_passIt 41 = .ok (.invokevirtual 467, 3) := by decide +kernel
theorem dX12_passIt_44 : decode cX12_passIt 44 = .ok (.iload_n 1, 1) := by decide +kernel
theorem dX12_passIt_45 : decode cX12_passIt 45 = .ok (.ireturn, 1) := by decide +kernel
set_option maxRecDepth 20000 in
theorem rX12_passIt_0 {E : EN} (hE : Ep E) {k : Nat} {mem : Mm} {Q : Int → Mm → Prop}
    (h : VM E mX12_passIt (k + 1) (aUp mem 603 42 0) 9 [(0, aR 603), (1, aI 0), (2, aI 0)] [] (retI Q)) :
    VM E mX12_passIt (k + 1) mem 0 [(0, aR 603)] [] (retI Q) := by
  refine v_iconst (pc := 0) dX12_passIt_0 (by decide) ?_
  refine v_istore_n (pc := 1) (al2 := [(1, aI 0), (0, aR 603)]) dX12_passIt_1 (by decide) rfl ?_
  refine v_aload_n (pc := 2) dX12_passIt_2 1 rfl ?_
  refine v_iconst (pc := 3) dX12_passIt_3 (by decide) ?_
  refine v_putf (pc := 4) dX12_passIt_4 flX12_461 ⟨_, _, rfl, Or.inl rfl⟩ rfl (by decide) (fun q => nomatch q) (Or.inl fun _ => rfl) at603 ?_
  refine v_iconst (pc := 7) dX12_passIt_7 (by decide) ?_
  refine v_istore_n (pc := 8) (al2 := [(2, aI 0), (1, aI 0), (0, aR 603)]) dX12_passIt_8 (by decide) rfl ?_
  exact VG_sub (al' := [(0, aR 603), (1, aI 0), (2, aI 0)]) [2, 1, 0] rfl h
theorem eX12_passIt {E : EN} {k : Nat} {mem : Mm} {Q : Int → Mm → Prop}  (h : VM E mX12_passIt (k + 1) mem 0 [(0, aR 603)] [] (retI Q)) : CI E mX12_passIt (k + 1) mem [aR 603] Q := CI_of rfl (Nat.le_of_ble_eq_true rfl) h (aNs_c (aNr_R _) (fun _ q => nomatch q))
set_option maxRecDepth 20000 in
theorem rX12_passIt_9 {E : EN} (hE : Ep E) {k : Nat} {mem : Mm} {Q : Int → Mm → Prop} {x1 x2 : Int}
    (h : (((mem 605 7) ≤ x2 → (CV E mX12_age k mem [aR 603] (fun m1 => Q x1 m1))) ∧ (x2 < (mem 605 7) → (R32 x2 → CV E mX12_move k mem [aR 603, aI x2] (fun m2 => (0 ≤ x2 ∧ x2 < 10) ∧ (R32 (x1 + (m2 624 x2))) ∧ (R32 (x2 + 1)) ∧ VM E mX12_passIt (k + 1) m2 9 [(0, aR 603), (1, aI (x1 + (m2 624 x2))), (2, aI (x2 + 1))] [] (retI Q)))))) :
    VM E mX12_passIt (k + 1) mem 9 [(0, aR 603), (1, aI x1), (2, aI x2)] [] (retI Q) := by
  refine v_iload_n (pc := 9) dX12_passIt_9 2 rfl ?_
  refine v_aload_n (pc := 10) dX12_passIt_10 0 rfl ?_
  refine m_getfin (pc := 11) (v := 605) hE dX12_passIt_11 flX12_13 rfl at603 rfl ?_
  refine v_bipush (pc := 14) dX12_passIt_14 (by decide) ?_
  refine m_iald (pc := 16) (v := (mem 605 7)) dX12_passIt_16 at605 (by omega) (by omega) rfl ?_
  refine v_icmpge (pc := 17) (tgt := 40) dX12_passIt_17 (by decide) (fun c1 => ?_) (fun c1 => ?_)
  · have h := h.1 c1
    refine v_aload_n (pc := 40) dX12_passIt_40 0 rfl ?_
    refine m_invV (pc := 41) (mi' := mX12_age) (rest := []) [] dX12_passIt_41 at603 (by decide) rfl msX12_age mvX12_age lkX12_467 rfl (Nat.le_of_ble_eq_true rfl) (fun hn => CV_mono (h) (fun m1 h => ?_))
    refine v_iload_n (pc := 44) dX12_passIt_44 1 rfl ?_
    exact m_retI (pc := 45) dX12_passIt_45 rfl h
  · have h := h.2 c1
    refine v_aload_n (pc := 20) dX12_passIt_20 0 rfl ?_
    refine v_iload_n (pc := 21) dX12_passIt_21 2 rfl ?_
    refine m_invV (pc := 22) (mi' := mX12_move) (rest := []) [aI x2] dX12_passIt_22 at603 (by decide) rfl msX12_move mvX12_move lkX12_464 rfl (Nat.le_of_ble_eq_true rfl) (fun hn => CV_mono (h (aaI hn 1 rfl)) (fun m2 h => ?_))
    refine v_iload_n (pc := 25) dX12_passIt_25 1 rfl ?_
    refine v_aload_n (pc := 26) dX12_passIt_26 0 rfl ?_
    refine m_getfin (pc := 27) (v := 624) hE dX12_passIt_27 flX12_112 rfl at603 rfl ?_
    refine v_iload_n (pc := 30) dX12_passIt_30 2 rfl ?_
    obtain ⟨o3, h⟩ := h
    refine m_iald (pc := 31) (v := (m2 624 x2)) dX12_passIt_31 at624 o3.1 o3.2 rfl ?_
    obtain ⟨o4, h⟩ := h
    refine m_iadd (pc := 32) dX12_passIt_32 o4 ?_
    refine v_istore_n (pc := 33) (al2 := [(1, aI (x1 + (m2 624 x2))), (0, aR 603), (2, aI x2)]) dX12_passIt_33 (by decide) rfl ?_
    obtain ⟨o5, h⟩ := h
    refine m_iinc (pc := 34) (al2 := [(2, aI (x2 + 1)), (1, aI (x1 + (m2 624 x2))), (0, aR 603)]) dX12_passIt_34 2 rfl (by decide) o5 rfl ?_
    refine v_goto (pc := 37) (tgt := 9) dX12_passIt_37 (by decide) ?_
    exact VG_sub (al' := [(0, aR 603), (1, aI (x1 + (m2 624 x2))), (2, aI (x2 + 1))]) [2, 1, 0] rfl h

theorem dX12_passNow_0 : decode cX12_passNow 0 = .ok (.aload_n 0, 1) := by decide +kernel
theorem dX12_passNow_1 : decode cX12_passNow 1 = .ok (.iconst 0, 1) := by decide +kernel
theorem dX12_passNow_2 : decode cX12_passNow 2 = .ok (.invokevirtual 412, 3) := by decide +kernel
theorem dX12_passNow_5 : decode cX12_passNow 5 = .ok (.sipush 999, 3) := by decide +kernel
theorem dX12_passNow_8 : decode cX12_passNow 8 = .ok (.if_icmp .ne 6, 3) := by decide +kernel
theorem dX12_passNow_11 : decode cX12_passNow 11 = .ok (.bipush (-3), 2) := by decide +kernel
theorem dX12_passNow_13 : decode cX12_passNow 13 = .ok (.ireturn, 1) := by decide +kernel
theorem dX12_passNow_14 : decode cX12_passNow 14 = .ok (.aload_n 0, 1) := by decide +kernel
theorem dX12_passNow_15 : decode cX12_passNow 15 = .ok (.iconst 3, 1) := by decide +kernel
theorem dX12_passNow_16 : decode cX12_passNow 16 = .ok (.invokevirtual 444, 3) := by decide +kernel
theorem dX12_passNow_19 : decode cX12_passNow 19 = .ok (.aload_n 0, 1) := by decide +kernel
theorem dX12_passNow_20 : decode cX12_passNow 20 = .ok (.invokevirtual 470, 3) := by decide +kernel
theorem dX12_passNow_23 : decode cX12_passNow 23 = .ok (.istore_n 1, 1) := by decide +kernel
theorem dX12_passNow_24 : decode cX12_passNow 24 = .ok (.aload_n 0, 1) := by decide +kernel
theorem dX12_passNow_25 : decode cX12_passNow 25 = .ok (.aload_n 0, 1) := by decide +kernel
theorem dX12_passNow_26 : decode cX12_passNow 26 = .ok (.getfield 461, 3) := by decide +kernel
theorem dX12_passNow_29 : decode cX12_passNow 29 = .ok (.putfield 473, 3) := by decide +kernel
theorem dX12_passNow_32 : decode cX12_passNow 32 = .ok (.iload_n 1, 1) := by decide +kernel
theorem dX12_passNow_33 : decode cX12_passNow 33 = .ok (.ireturn, 1) := by decide +kernel
set_option maxRecDepth 20000 in
theorem rX12_passNow_0 {E : EN} (hE : Ep E) {k : Nat} {mem : Mm} {Q : Int → Mm → Prop}
    (h : (CI E mX12_term k mem [aR 603, aI 0] (fun r2 m1 => ((¬ r2 = 999 → (CV E mX12_remember k m1 [aR 603, aI 3] (fun m3 => (CI E mX12_passIt k m3 [aR 603] (fun r5 m4 => Q r5 (aUp m4 603 43 (m4 603 42))))))) ∧ (r2 = 999 → Q (-3) m1))))) :
    VM E mX12_passNow (k + 1) mem 0 [(0, aR 603)] [] (retI Q) := by
  refine v_aload_n (pc := 0) dX12_passNow_0 0 rfl ?_
  refine v_iconst (pc := 1) dX12_passNow_1 (by decide) ?_
  refine m_invI (pc := 2) (mi' := mX12_term) (rest := []) [aI 0] dX12_passNow_2 at603 (by decide) rfl msX12_term mvX12_term lkX12_412 rfl (Nat.le_of_ble_eq_true rfl) (fun hn => CI_mono (h) (fun r2 m1 h => ?_))
  refine v_sipush (pc := 5) dX12_passNow_5 (by decide) ?_
  refine v_icmpne (pc := 8) (tgt := 14) dX12_passNow_8 (by decide) (fun c1 => ?_) (fun c1 => ?_)
  · have h := h.1 c1
    refine v_aload_n (pc := 14) dX12_passNow_14 0 rfl ?_
    refine v_iconst (pc := 15) dX12_passNow_15 (by decide) ?_
    refine m_invV (pc := 16) (mi' := mX12_remember) (rest := []) [aI 3] dX12_passNow_16 at603 (by decide) rfl msX12_remember mvX12_remember lkX12_444 rfl (Nat.le_of_ble_eq_true rfl) (fun hn => CV_mono (h) (fun m3 h => ?_))
    refine v_aload_n (pc := 19) dX12_passNow_19 0 rfl ?_
    refine m_invI (pc := 20) (mi' := mX12_passIt) (rest := []) [] dX12_passNow_20 at603 (by decide) rfl msX12_passIt mvX12_passIt lkX12_470 rfl (Nat.le_of_ble_eq_true rfl) (fun hn => CI_mono (h) (fun r5 m4 h => ?_))
    refine v_istore_n (pc := 23) (al2 := [(1, aI r5), (0, aR 603)]) dX12_passNow_23 (by decide) rfl ?_
    refine v_aload_n (pc := 24) dX12_passNow_24 1 rfl ?_
    refine v_aload_n (pc := 25) dX12_passNow_25 1 rfl ?_
    refine m_getf (pc := 26) (t := 0) (v := (m4 603 42)) dX12_passNow_26 flX12_461 rfl at603 rfl ?_
    refine v_putf (pc := 29) dX12_passNow_29 flX12_473 ⟨_, _, rfl, Or.inl rfl⟩ rfl (by decide) (fun q => nomatch q) (Or.inl fun _ => rfl) at603 ?_
    refine v_iload_n (pc := 32) dX12_passNow_32 0 rfl ?_
    exact m_retI (pc := 33) dX12_passNow_33 rfl h
  · have h := h.2 c1
    refine v_bipush (pc := 11) dX12_passNow_11 (by decide) ?_
    exact m_retI (pc := 13) dX12_passNow_13 rfl h
theorem eX12_passNow {E : EN} {k : Nat} {mem : Mm} {Q : Int → Mm → Prop}  (h : VM E mX12_passNow (k + 1) mem 0 [(0, aR 603)] [] (retI Q)) : CI E mX12_passNow (k + 1) mem [aR 603] Q := CI_of rfl (Nat.le_of_ble_eq_true rfl) h (aNs_c (aNr_R _) (fun _ q => nomatch q))

theorem dX12_pass_0 : decode cX12_pass 0 = .ok (.aload_n 0, 1) := by decide +kernel
theorem dX12_pass_1 : decode cX12_pass 1 = .ok (.iconst 0, 1) := by decide +kernel
theorem dX12_pass_2 : decode cX12_pass 2 = .ok (.putfield 162, 3) := by decide +kernel
theorem dX12_pass_5 : decode cX12_pass 5 = .ok (.aload_n 0, 1) := by decide +kernel
theorem dX12_pass_6 : decode cX12_pass 6 = .ok (.aload_n 0, 1) := by decide +kernel
theorem dX12_pass_7 : decode cX12_pass 7 = .ok (.invokevirtual 476, 3) := by decide +kernel
theorem dX12_pass_10 : decode cX12_pass 10 = .ok (.invokevirtual 175, 3) := by decide +kernel
theorem dX12_pass_13 : decode cX12_pass 13 = .ok (.ireturn, 1) := by decide +kernel
set_option maxRecDepth 20000 in
theorem rX12_pass_0 {E : EN} (hE : Ep E) {k : Nat} {mem : Mm} {Q : Int → Mm → Prop}
    (h : (CI E mX12_passNow k (aUp mem 603 0 0) [aR 603] (fun r2 m1 => (R32 r2 → CI E mX12_tell k m1 [aR 603, aI r2] (fun r4 m3 => Q r4 m3))))) :
    VM E mX12_pass (k + 1) mem 0 [(0, aR 603)] [] (retI Q) := by
  refine v_aload_n (pc := 0) dX12_pass_0 0 rfl ?_
  refine v_iconst (pc := 1) dX12_pass_1 (by decide) ?_
  refine v_putf (pc := 2) dX12_pass_2 flX12_162 ⟨_, _, rfl, Or.inl rfl⟩ rfl (by decide) (fun q => nomatch q) (Or.inl fun _ => rfl) at603 ?_
  refine v_aload_n (pc := 5) dX12_pass_5 0 rfl ?_
  refine v_aload_n (pc := 6) dX12_pass_6 0 rfl ?_
  refine m_invI (pc := 7) (mi' := mX12_passNow) (rest := [aR 603]) [] dX12_pass_7 at603 (by decide) rfl msX12_passNow mvX12_passNow lkX12_476 rfl (Nat.le_of_ble_eq_true rfl) (fun hn => CI_mono (h) (fun r2 m1 h => ?_))
  refine m_invI (pc := 10) (mi' := mX12_tell) (rest := []) [aI r2] dX12_pass_10 at603 (by decide) rfl msX12_tell mvX12_tell lkX12_175 rfl (Nat.le_of_ble_eq_true rfl) (fun hn => CI_mono (h (aaI hn 1 rfl)) (fun r4 m3 h => ?_))
  exact m_retI (pc := 13) dX12_pass_13 rfl h
theorem eX12_pass {E : EN} {k : Nat} {mem : Mm} {Q : Int → Mm → Prop}  (h : VM E mX12_pass (k + 1) mem 0 [(0, aR 603)] [] (retI Q)) : CI E mX12_pass (k + 1) mem [aR 603] Q := CI_of rfl (Nat.le_of_ble_eq_true rfl) h (aNs_c (aNr_R _) (fun _ q => nomatch q))

theorem dX12_blocked_0 : decode cX12_blocked 0 = .ok (.aload_n 0, 1) := by decide +kernel
theorem dX12_blocked_1 : decode cX12_blocked 1 = .ok (.iconst 0, 1) := by decide +kernel
theorem dX12_blocked_2 : decode cX12_blocked 2 = .ok (.putfield 162, 3) := by decide +kernel
theorem dX12_blocked_5 : decode cX12_blocked 5 = .ok (.aload_n 0, 1) := by decide +kernel
theorem dX12_blocked_6 : decode cX12_blocked 6 = .ok (.getfield 473, 3) := by decide +kernel
theorem dX12_blocked_9 : decode cX12_blocked 9 = .ok (.ireturn, 1) := by decide +kernel
set_option maxRecDepth 20000 in
theorem rX12_blocked_0 {E : EN} (hE : Ep E) {k : Nat} {mem : Mm} {Q : Int → Mm → Prop}
    (h : Q (mem 603 43) (aUp mem 603 0 0)) :
    VM E mX12_blocked k mem 0 [(0, aR 603)] [] (retI Q) := by
  refine v_aload_n (pc := 0) dX12_blocked_0 0 rfl ?_
  refine v_iconst (pc := 1) dX12_blocked_1 (by decide) ?_
  refine v_putf (pc := 2) dX12_blocked_2 flX12_162 ⟨_, _, rfl, Or.inl rfl⟩ rfl (by decide) (fun q => nomatch q) (Or.inl fun _ => rfl) at603 ?_
  refine v_aload_n (pc := 5) dX12_blocked_5 0 rfl ?_
  refine m_getf (pc := 6) (t := 0) (v := (mem 603 43)) dX12_blocked_6 flX12_473 rfl at603 (aUp_ri (by decide)) ?_
  exact m_retI (pc := 9) dX12_blocked_9 rfl h
theorem eX12_blocked {E : EN} {k : Nat} {mem : Mm} {Q : Int → Mm → Prop}  (h : VM E mX12_blocked k mem 0 [(0, aR 603)] [] (retI Q)) : CI E mX12_blocked k mem [aR 603] Q := CI_of rfl (Nat.le_of_ble_eq_true rfl) h (aNs_c (aNr_R _) (fun _ q => nomatch q))

theorem dX12_where_0 : decode cX12_where 0 = .ok (.aload_n 0, 1) := by decide +kernel
theorem dX12_where_1 : decode cX12_where 1 = .ok (.iconst 0, 1) := by decide +kernel
theorem dX12_where_2 : decode cX12_where 2 = .ok (.putfield 162, 3) := by decide +kernel
theorem dX12_where_5 : decode cX12_where 5 = .ok (.aload_n 0, 1) := by decide +kernel
theorem dX12_where_6 : decode cX12_where 6 = .ok (.iload_n 1, 1) := by decide +kernel
theorem dX12_where_7 : decode cX12_where 7 = .ok (.invokevirtual 214, 3) := by decide +kernel
theorem dX12_where_10 : decode cX12_where 10 = .ok (.ifCond .eq 15, 3) := by decide +kernel
theorem dX12_where_13 : decode cX12_where 13 = .ok (.iload_n 2, 1) := by decide +kernel
theorem dX12_where_14 : decode cX12_where 14 = .ok (.i2l, 1) := by decide +kernel
theorem dX12_where_15 : decode cX12_where 15 = .ok (.lconst 0, 1) := by decide +kernel
theorem dX12_where_16 : decode cX12_where 16 = .ok (.ldc2_w 479, 3) := by decide +kernel
theorem dX12_where_19 : decode cX12_where 19 = .ok (.invokestatic 182, 3) := by decide +kernel
theorem dX12_where_22 : decode cX12_where 22 = .ok (.ifCond .ne 5, 3) := by decide +kernel
theorem dX12_where_25 : decode cX12_where 25 = .ok (.iconst (-1), 1) := by decide +kernel
theorem dX12_where_26 : decode cX12_where 26 = .ok (.ireturn, 1) := by decide +kernel
theorem dX12_where_27 : decode cX12_where 27 = .ok (.aload_n 0, 1) := by decide +kernel
theorem dX12_where_28 : decode cX12_where 28 = .ok (.bipush 16, 2) := by decide +kernel
theorem dX12_where_30 : decode cX12_where 30 = .ok (.invokevirtual 171, 3) := by decide +kernel
theorem dX12_where_33 : decode cX12_where 33 = .ok (.iconst 0, 1) := by decide +kernel
theorem dX12_where_34 : decode cX12_where 34 = .ok (.istore_n 3, 1) := by decide +kernel
theorem dX12_where_35 : decode cX12_where 35 = .ok (.iload_n 3, 1) := by decide +kernel
theorem dX12_where_36 : decode cX12_where 36 = .ok (.iload_n 2, 1) := by decide +kernel
theorem dX12_where_37 : decode cX12_where 37 = .ok (.if_icmp .ge 14, 3) := by decide +kernel
theorem dX12_where_40 : decode cX12_where 40 = .ok (.aload_n 0, 1) := by decide +kernel
theorem dX12_where_41 : decode cX12_where 41 = .ok (.invokevirtual 470, 3) := by decide +kernel
theorem dX12_where_44 : decode cX12_where 44 = .ok (.pop, 1) := by decide +kernel
theorem dX12_where_45 : decode cX12_where 45 = .ok (.iinc 3 1, 3) := by decide +kernel
theorem dX12_where_48 : decode cX12_where 48 = .ok (.goto (-13), 3) := by decide +kernel
theorem dX12_where_51 : decode cX12_where 51 = .ok (.aload_n 0, 1) := by decide +kernel
theorem dX12_where_52 : decode cX12_where 52 = .ok (.getfield 13, 3) := by decide +kernel
theorem dX12_where_55 : decode cX12_where 55 = .ok (.bipush 8, 2) := by decide +kernel
theorem dX12_where_57 : decode cX12_where 57 = .ok (.iload_n 1, 1) := by decide +kernel
theorem dX12_where_58 : decode cX12_where 58 = .ok (.iadd, 1) := by decide +kernel
theorem dX12_where_59 : decode cX12_where 59 = .ok (.iaload, 1) := by decide +kernel
theorem dX12_where_60 : decode cX12_where 60 = .ok (.istore_n 3, 1) := by decide +kernel
theorem dX12_where_61 : decode cX12_where 61 = .ok (.aload_n 0, 1) := by decide +kernel
theorem dX12_where_62 : decode cX12_where 62 = .ok (.bipush 16, 2) := by decide +kernel
theorem dX12_where_64 : decode cX12_where 64 = .ok (.invokevirtual 179, 3) := by decide +kernel
theorem dX12_where_67 : decode cX12_where 67 = .ok (.iload_n 3, 1) := by decide +kernel
theorem dX12_where_68 : decode cX12_where 68 = .ok (.ireturn, 1) := by decide +kernel
set_option maxRecDepth 20000 in
theorem rX12_where_0 {E : EN} (hE : Ep E) {k : Nat} {mem : Mm} {Q : Int → Mm → Prop} {p0 p1 : Int}
    (h : (R32 p0 → CI E mX12_isPlot k (aUp mem 603 0 0) [aR 603, aI p0] (fun r2 m1 => ((r2 = 0 → Q (-1) m1) ∧ (¬ r2 = 0 → (R64 p1 → CI E mX12_in k m1 [aL p1, aL 0, aL 100] (fun r4 m3 => ((¬ r4 = 0 → (CV E mX12_keepAll k m3 [aR 603, aI 16] (fun m5 => VM E mX12_where (k + 1) m5 35 [(0, aR 603), (1, aI p0), (2, aI p1), (3, aI 0)] [] (retI Q)))) ∧ (r4 = 0 → Q (-1) m3))))))))) :
    VM E mX12_where (k + 1) mem 0 [(0, aR 603), (1, aI p0), (2, aI p1)] [] (retI Q) := by
  refine v_aload_n (pc := 0) dX12_where_0 0 rfl ?_
  refine v_iconst (pc := 1) dX12_where_1 (by decide) ?_
  refine v_putf (pc := 2) dX12_where_2 flX12_162 ⟨_, _, rfl, Or.inl rfl⟩ rfl (by decide) (fun q => nomatch q) (Or.inl fun _ => rfl) at603 ?_
  refine v_aload_n (pc := 5) dX12_where_5 0 rfl ?_
  refine v_iload_n (pc := 6) dX12_where_6 1 rfl ?_
  refine m_invI (pc := 7) (mi' := mX12_isPlot) (rest := []) [aI p0] dX12_where_7 at603 (by decide) rfl msX12_isPlot mvX12_isPlot lkX12_214 rfl (Nat.le_of_ble_eq_true rfl) (fun hn => CI_mono (h (aaI hn 1 rfl)) (fun r2 m1 h => ?_))
  refine v_ifeq (pc := 10) (tgt := 25) dX12_where_10 (by decide) (fun c1 => ?_) (fun c1 => ?_)
  · have h := h.1 c1
    refine v_iconst (pc := 25) dX12_where_25 (by decide) ?_
    exact m_retI (pc := 26) dX12_where_26 rfl h
  · have h := h.2 c1
    refine v_iload_n (pc := 13) dX12_where_13 2 rfl ?_
    refine v_i2l (pc := 14) dX12_where_14 ?_
    refine v_lconst0 (pc := 15) dX12_where_15 ?_
    refine v_ldc2 (pc := 16) (n := 100) dX12_where_16 cnX12_479 (by decide) ?_
    refine m_invSI (pc := 19) (mi' := mX12_in) (rest := []) [aL p1, aL 0, aL 100] dX12_where_19 msX12_in stX12_in lkX12_182 rfl (Nat.le_of_ble_eq_true rfl) (fun hn => CI_mono (h (aaL hn 0 rfl)) (fun r4 m3 h => ?_))
    refine v_ifne (pc := 22) (tgt := 27) dX12_where_22 (by decide) (fun c1 => ?_) (fun c1 => ?_)
    · have h := h.1 c1
      refine v_aload_n (pc := 27) dX12_where_27 0 rfl ?_
      refine v_bipush (pc := 28) dX12_where_28 (by decide) ?_
      refine m_invV (pc := 30) (mi' := mX12_keepAll) (rest := []) [aI 16] dX12_where_30 at603 (by decide) rfl msX12_keepAll mvX12_keepAll lkX12_171 rfl (Nat.le_of_ble_eq_true rfl) (fun hn => CV_mono (h) (fun m5 h => ?_))
      refine v_iconst (pc := 33) dX12_where_33 (by decide) ?_
      refine v_istore_n (pc := 34) (al2 := [(3, aI 0), (0, aR 603), (1, aI p0), (2, aI p1)]) dX12_where_34 (by decide) rfl ?_
      exact VG_sub (al' := [(0, aR 603), (1, aI p0), (2, aI p1), (3, aI 0)]) [1, 2, 3, 0] rfl h
    · have h := h.2 c1
      refine v_iconst (pc := 25) dX12_where_25 (by decide) ?_
      exact m_retI (pc := 26) dX12_where_26 rfl h
theorem eX12_where {E : EN} {k : Nat} {mem : Mm} {Q : Int → Mm → Prop} {p0 p1 : Int} (hr_p0 : R32 p0) (hr_p1 : R32 p1) (h : VM E mX12_where (k + 1) mem 0 [(0, aR 603), (1, aI p0), (2, aI p1)] [] (retI Q)) : CI E mX12_where (k + 1) mem [aR 603, aI p0, aI p1] Q := CI_of rfl (Nat.le_of_ble_eq_true rfl) h (aNs_c (aNr_R _) (aNs_c (aNr_I hr_p0) (aNs_c (aNr_I hr_p1) (fun _ q => nomatch q))))
set_option maxRecDepth 20000 in
theorem rX12_where_35 {E : EN} (hE : Ep E) {k : Nat} {mem : Mm} {Q : Int → Mm → Prop} {p0 p1 x3 : Int}
    (h : ((p1 ≤ x3 → (R32 (8 + p0)) ∧ (0 ≤ (8 + p0) ∧ (8 + p0) < 5570) ∧ (CV E mX12_putBack k mem [aR 603, aI 16] (fun m3 => Q (mem 605 (8 + p0)) m3))) ∧ (x3 < p1 → (CI E mX12_passIt k mem [aR 603] (fun r5 m4 => (R32 (x3 + 1)) ∧ VM E mX12_where (k + 1) m4 35 [(0, aR 603), (1, aI p0), (2, aI p1), (3, aI (x3 + 1))] [] (retI Q)))))) :
    VM E mX12_where (k + 1) mem 35 [(0, aR 603), (1, aI p0), (2, aI p1), (3, aI x3)] [] (retI Q) := by
  refine v_iload_n (pc := 35) dX12_where_35 3 rfl ?_
  refine v_iload_n (pc := 36) dX12_where_36 2 rfl ?_
  refine v_icmpge (pc := 37) (tgt := 51) dX12_where_37 (by decide) (fun c1 => ?_) (fun c1 => ?_)
  · have h := h.1 c1
    refine v_aload_n (pc := 51) dX12_where_51 0 rfl ?_
    refine m_getfin (pc := 52) (v := 605) hE dX12_where_52 flX12_13 rfl at603 rfl ?_
    refine v_bipush (pc := 55) dX12_where_55 (by decide) ?_
    refine v_iload_n (pc := 57) dX12_where_57 1 rfl ?_
    obtain ⟨o1, h⟩ := h
    refine m_iadd (pc := 58) dX12_where_58 o1 ?_
    obtain ⟨o2, h⟩ := h
    refine m_iald (pc := 59) (v := (mem 605 (8 + p0))) dX12_where_59 at605 o2.1 o2.2 rfl ?_
    refine v_istore_n (pc := 60) (al2 := [(3, aI (mem 605 (8 + p0))), (0, aR 603), (1, aI p0), (2, aI p1)]) dX12_where_60 (by decide) rfl ?_
    refine v_aload_n (pc := 61) dX12_where_61 1 rfl ?_
    refine v_bipush (pc := 62) dX12_where_62 (by decide) ?_
    refine m_invV (pc := 64) (mi' := mX12_putBack) (rest := []) [aI 16] dX12_where_64 at603 (by decide) rfl msX12_putBack mvX12_putBack lkX12_179 rfl (Nat.le_of_ble_eq_true rfl) (fun hn => CV_mono (h) (fun m3 h => ?_))
    refine v_iload_n (pc := 67) dX12_where_67 0 rfl ?_
    exact m_retI (pc := 68) dX12_where_68 rfl h
  · have h := h.2 c1
    refine v_aload_n (pc := 40) dX12_where_40 0 rfl ?_
    refine m_invI (pc := 41) (mi' := mX12_passIt) (rest := []) [] dX12_where_41 at603 (by decide) rfl msX12_passIt mvX12_passIt lkX12_470 rfl (Nat.le_of_ble_eq_true rfl) (fun hn => CI_mono (h) (fun r5 m4 h => ?_))
    refine v_pop (pc := 44) dX12_where_44 rfl ?_
    obtain ⟨o6, h⟩ := h
    refine m_iinc (pc := 45) (al2 := [(3, aI (x3 + 1)), (0, aR 603), (1, aI p0), (2, aI p1)]) dX12_where_45 3 rfl (by decide) o6 rfl ?_
    refine v_goto (pc := 48) (tgt := 35) dX12_where_48 (by decide) ?_
    exact VG_sub (al' := [(0, aR 603), (1, aI p0), (2, aI p1), (3, aI (x3 + 1))]) [1, 2, 3, 0] rfl h

theorem dX12_isIndoors_0 : decode cX12_isIndoors 0 = .ok (.iconst 0, 1) := by decide +kernel
theorem dX12_isIndoors_1 : decode cX12_isIndoors 1 = .ok (.istore_n 1, 1) := by decide +kernel
theorem dX12_isIndoors_2 : decode cX12_isIndoors 2 = .ok (.iconst 0, 1) := by decide +kernel
theorem dX12_isIndoors_3 : decode cX12_isIndoors 3 = .ok (.istore_n 2, 1) := by decide +kernel
theorem dX12_isIndoors_4 : decode cX12_isIndoors 4 = .ok (.iload_n 2, 1) := by decide +kernel
theorem dX12_isIndoors_5 : decode cX12_isIndoors 5 = .ok (.aload_n 0, 1) := by decide +kernel
theorem dX12_isIndoors_6 : decode cX12_isIndoors 6 = .ok (.getfield 13, 3) := by decide +kernel
theorem dX12_isIndoors_9 : decode cX12_isIndoors 9 = .ok (.bipush 7, 2) := by decide +kernel
theorem dX12_isIndoors_11 : decode cX12_isIndoors 11 = .ok (.iaload, 1) := by decide +kernel
theorem dX12_isIndoors_12 : decode cX12_isIndoors 12 = .ok (.if_icmp .ge 40, 3) := by decide +kernel
theorem dX12_isIndoors_15 : decode cX12_isIndoors 15 = .ok (.iload_n 1, 1) := by decide +kernel
theorem dX12_isIndoors_16 : decode cX12_isIndoors 16 = .ok (.ifCond .ne 24, 3) := by decide +kernel
theorem dX12_isIndoors_19 : decode cX12_isIndoors 19 = .ok (.aload_n 0, 1) := by decide +kernel
theorem dX12_isIndoors_20 : decode cX12_isIndoors 20 = .ok (.getfield 13, 3) := by decide +kernel
theorem dX12_isIndoors_23 : decode cX12_isIndoors 23 = .ok (.bipush 80, 2) := by decide +kernel
theorem dX12_isIndoors_25 : decode cX12_isIndoors 25 = .ok (.aload_n 0, 1) := by decide +kernel
theorem dX12_isIndoors_26 : decode cX12_isIndoors 26 = .ok (.getfield 13, 3) := by decide +kernel
theorem dX12_isIndoors_29 : decode cX12_isIndoors 29 = .ok (.bipush 8, 2) := by decide +kernel
theorem dX12_isIndoors_31 : decode cX12_isIndoors 31 = .ok (.iload_n 2, 1) := by decide +kernel
theorem dX12_isIndoors_32 : decode cX12_isIndoors 32 = .ok (.iadd, 1) := by decide +kernel
theorem dX12_isIndoors_33 : decode cX12_isIndoors 33 = .ok (.iaload, 1) := by decide +kernel
theorem dX12_isIndoors_34 : decode cX12_isIndoors 34 = .ok (.iadd, 1) := by decide +kernel
theorem dX12_isIndoors_35 : decode cX12_isIndoors 35 = .ok (.iaload, 1) := by decide +kernel
theorem dX12_isIndoors_36 : decode cX12_isIndoors 36 = .ok (.iconst 1, 1) := by decide +kernel
theorem dX12_isIndoors_37 : decode cX12_isIndoors 37 = .ok (.if_icmp .ne 7, 3) := by decide +kernel
theorem dX12_isIndoors_40 : decode cX12_isIndoors 40 = .ok (.iconst 1, 1) := by decide +kernel
theorem dX12_isIndoors_41 : decode cX12_isIndoors 41 = .ok (.goto 4, 3) := by decide +kernel
theorem dX12_isIndoors_44 : decode cX12_isIndoors 44 = .ok (.iconst 0, 1) := by decide +kernel
theorem dX12_isIndoors_45 : decode cX12_isIndoors 45 = .ok (.istore_n 1, 1) := by decide +kernel
theorem dX12_isIndoors_46 : decode cX12_isIndoors 46 = .ok (.iinc 2 1, 3) := by decide +kernel
theorem dX12_isIndoors_49 : decode cX12_isIndoors 49 = .ok (.goto (-45), 3) := by decide +kernel
theorem dX12_isIndoors_52 : decode cX12_isIndoors 52 = .ok (.iload_n 1, 1) := by decide +kernel
theorem dX12_isIndoors_53 : decode cX12_isIndoors 53 = .ok (.ireturn, 1) := by decide +kernel
set_option maxRecDepth 20000 in
theorem rX12_isIndoors_0 {E : EN} (hE : Ep E) {k : Nat} {mem : Mm} {Q : Int → Mm → Prop}
    (h : VM E mX12_isIndoors k mem 4 [(0, aR 603), (1, aI 0), (2, aI 0)] [] (retI Q)) :
    VM E mX12_isIndoors k mem 0 [(0, aR 603)] [] (retI Q) := by
  refine v_iconst (pc := 0) dX12_isIndoors_0 (by decide) ?_
  refine v_istore_n (pc := 1) (al2 := [(1, aI 0), (0, aR 603)]) dX12_isIndoors_1 (by decide) rfl ?_
  refine v_iconst (pc := 2) dX12_isIndoors_2 (by decide) ?_
  refine v_istore_n (pc := 3) (al2 := [(2, aI 0), (1, aI 0), (0, aR 603)]) dX12_isIndoors_3 (by decide) rfl ?_
  exact VG_sub (al' := [(0, aR 603), (1, aI 0), (2, aI 0)]) [2, 1, 0] rfl h
theorem eX12_isIndoors {E : EN} {k : Nat} {mem : Mm} {Q : Int → Mm → Prop}  (h : VM E mX12_isIndoors k mem 0 [(0, aR 603)] [] (retI Q)) : CI E mX12_isIndoors k mem [aR 603] Q := CI_of rfl (Nat.le_of_ble_eq_true rfl) h (aNs_c (aNr_R _) (fun _ q => nomatch q))
set_option maxRecDepth 20000 in
theorem rX12_isIndoors_4 {E : EN} (hE : Ep E) {k : Nat} {mem : Mm} {Q : Int → Mm → Prop} {x1 x2 : Int}
    (h : (((mem 605 7) ≤ x2 → (x1 = 0 ∨ x1 = 1) ∧ Q x1 mem) ∧ (x2 < (mem 605 7) → ((¬ x1 = 0 → (R32 (x2 + 1)) ∧ VM E mX12_isIndoors k mem 4 [(0, aR 603), (1, aI 1), (2, aI (x2 + 1))] [] (retI Q)) ∧ (x1 = 0 → (R32 (8 + x2)) ∧ (0 ≤ (8 + x2) ∧ (8 + x2) < 5570) ∧ (R32 (80 + (mem 605 (8 + x2)))) ∧ (0 ≤ (80 + (mem 605 (8 + x2))) ∧ (80 + (mem 605 (8 + x2))) < 5570) ∧ ((¬ (mem 605 (80 + (mem 605 (8 + x2)))) = 1 → (R32 (x2 + 1)) ∧ VM E mX12_isIndoors k mem 4 [(0, aR 603), (1, aI 0), (2, aI (x2 + 1))] [] (retI Q)) ∧ ((mem 605 (80 + (mem 605 (8 + x2)))) = 1 → (R32 (x2 + 1)) ∧ VM E mX12_isIndoors k mem 4 [(0, aR 603), (1, aI 1), (2, aI (x2 + 1))] [] (retI Q)))))))) :
    VM E mX12_isIndoors k mem 4 [(0, aR 603), (1, aI x1), (2, aI x2)] [] (retI Q) := by
  refine v_iload_n (pc := 4) dX12_isIndoors_4 2 rfl ?_
  refine v_aload_n (pc := 5) dX12_isIndoors_5 0 rfl ?_
  refine m_getfin (pc := 6) (v := 605) hE dX12_isIndoors_6 flX12_13 rfl at603 rfl ?_
  refine v_bipush (pc := 9) dX12_isIndoors_9 (by decide) ?_
  refine m_iald (pc := 11) (v := (mem 605 7)) dX12_isIndoors_11 at605 (by omega) (by omega) rfl ?_
  refine v_icmpge (pc := 12) (tgt := 52) dX12_isIndoors_12 (by decide) (fun c1 => ?_) (fun c1 => ?_)
  · have h := h.1 c1
    refine v_iload_n (pc := 52) dX12_isIndoors_52 1 rfl ?_
    obtain ⟨o1, h⟩ := h
    exact m_retZ (pc := 53) dX12_isIndoors_53 rfl o1 h
  · have h := h.2 c1
    refine v_iload_n (pc := 15) dX12_isIndoors_15 1 rfl ?_
    refine v_ifne (pc := 16) (tgt := 40) dX12_isIndoors_16 (by decide) (fun c1 => ?_) (fun c1 => ?_)
    · have h := h.1 c1
      refine v_iconst (pc := 40) dX12_isIndoors_40 (by decide) ?_
      refine v_goto (pc := 41) (tgt := 45) dX12_isIndoors_41 (by decide) ?_
      refine v_istore_n (pc := 45) (al2 := [(1, aI 1), (0, aR 603), (2, aI x2)]) dX12_isIndoors_45 (by decide) rfl ?_
      obtain ⟨o2, h⟩ := h
      refine m_iinc (pc := 46) (al2 := [(2, aI (x2 + 1)), (1, aI 1), (0, aR 603)]) dX12_isIndoors_46 2 rfl (by decide) o2 rfl ?_
      refine v_goto (pc := 49) (tgt := 4) dX12_isIndoors_49 (by decide) ?_
      exact VG_sub (al' := [(0, aR 603), (1, aI 1), (2, aI (x2 + 1))]) [2, 1, 0] rfl h
    · have h := h.2 c1
      refine v_aload_n (pc := 19) dX12_isIndoors_19 0 rfl ?_
      refine m_getfin (pc := 20) (v := 605) hE dX12_isIndoors_20 flX12_13 rfl at603 rfl ?_
      refine v_bipush (pc := 23) dX12_isIndoors_23 (by decide) ?_
      refine v_aload_n (pc := 25) dX12_isIndoors_25 0 rfl ?_
      refine m_getfin (pc := 26) (v := 605) hE dX12_isIndoors_26 flX12_13 rfl at603 rfl ?_
      refine v_bipush (pc := 29) dX12_isIndoors_29 (by decide) ?_
      refine v_iload_n (pc := 31) dX12_isIndoors_31 2 rfl ?_
      obtain ⟨o3, h⟩ := h
      refine m_iadd (pc := 32) dX12_isIndoors_32 o3 ?_
      obtain ⟨o4, h⟩ := h
      refine m_iald (pc := 33) (v := (mem 605 (8 + x2))) dX12_isIndoors_33 at605 o4.1 o4.2 rfl ?_
      obtain ⟨o5, h⟩ := h
      refine m_iadd (pc := 34) dX12_isIndoors_34 o5 ?_
      obtain ⟨o6, h⟩ := h
      refine m_iald (pc := 35) (v := (mem 605 (80 + (mem 605 (8 + x2))))) dX12_isIndoors_35 at605 o6.1 o6.2 rfl ?_
      refine v_iconst (pc := 36) dX12_isIndoors_36 (by decide) ?_
      refine v_icmpne (pc := 37) (tgt := 44) dX12_isIndoors_37 (by decide) (fun c1 => ?_) (fun c1 => ?_)
      · have h := h.1 c1
        refine v_iconst (pc := 44) dX12_isIndoors_44 (by decide) ?_
        refine v_istore_n (pc := 45) (al2 := [(1, aI 0), (0, aR 603), (2, aI x2)]) dX12_isIndoors_45 (by decide) rfl ?_
        obtain ⟨o7, h⟩ := h
        refine m_iinc (pc := 46) (al2 := [(2, aI (x2 + 1)), (1, aI 0), (0, aR 603)]) dX12_isIndoors_46 2 rfl (by decide) o7 rfl ?_
        refine v_goto (pc := 49) (tgt := 4) dX12_isIndoors_49 (by decide) ?_
        exact VG_sub (al' := [(0, aR 603), (1, aI 0), (2, aI (x2 + 1))]) [2, 1, 0] rfl h
      · have h := h.2 c1
        refine v_iconst (pc := 40) dX12_isIndoors_40 (by decide) ?_
        refine v_goto (pc := 41) (tgt := 45) dX12_isIndoors_41 (by decide) ?_
        refine v_istore_n (pc := 45) (al2 := [(1, aI 1), (0, aR 603), (2, aI x2)]) dX12_isIndoors_45 (by decide) rfl ?_
        obtain ⟨o8, h⟩ := h
        refine m_iinc (pc := 46) (al2 := [(2, aI (x2 + 1)), (1, aI 1), (0, aR 603)]) dX12_isIndoors_46 2 rfl (by decide) o8 rfl ?_
        refine v_goto (pc := 49) (tgt := 4) dX12_isIndoors_49 (by decide) ?_
        exact VG_sub (al' := [(0, aR 603), (1, aI 1), (2, aI (x2 + 1))]) [2, 1, 0] rfl h

theorem dX12_indoors_0 : decode cX12_indoors 0 = .ok (.aload_n 0, 1) := by decide +kernel
theorem dX12_indoors_1 : decode cX12_indoors 1 = .ok (.iconst 0, 1) := by decide +kernel
theorem dX12_indoors_2 : decode cX12_indoors 2 = .ok (.putfield 162, 3) := by decide +kernel
theorem dX12_indoors_5 : decode cX12_indoors 5 = .ok (.aload_n 0, 1) := by decide +kernel
theorem dX12_indoors_6 : decode cX12_indoors 6 = .ok (.bipush 16, 2) := by decide +kernel
theorem dX12_indoors_8 : decode cX12_indoors 8 = .ok (.invokevirtual 171, 3) := by decide +kernel
theorem dX12_indoors_11 : decode cX12_indoors 11 = .ok (.iconst 0, 1) := by decide +kernel
theorem dX12_indoors_12 : decode cX12_indoors 12 = .ok (.istore_n 1, 1) := by decide +kernel
theorem dX12_indoors_13 : decode cX12_indoors 13 = .ok (.iload_n 1, 1) := by decide +kernel
theorem dX12_indoors_14 : decode cX12_indoors 14 = .ok (.sipush 200, 3) := by decide +kernel
theorem dX12_indoors_17 : decode cX12_indoors 17 = .ok (.if_icmp .gt 21, 3) := by decide +kernel
theorem dX12_indoors_20 : decode cX12_indoors 20 = .ok (.aload_n 0, 1) := by decide +kernel
theorem dX12_indoors_21 : decode cX12_indoors 21 = .ok (.invokevirtual 481, 3) := by decide +kernel
theorem dX12_indoors_24 : decode cX12_indoors 24 = .ok (.ifCond .ne 14, 3) := by decide +kernel
theorem dX12_indoors_27 : decode cX12_indoors 27 = .ok (.aload_n 0, 1) := by decide +kernel
theorem dX12_indoors_28 : decode cX12_indoors 28 = .ok (.invokevirtual 470, 3) := by decide +kernel
theorem dX12_indoors_31 : decode cX12_indoors 31 = .ok (.pop, 1) := by decide +kernel
theorem dX12_indoors_32 : decode cX12_indoors 32 = .ok (.iinc 1 1, 3) := by decide +kernel
theorem dX12_indoors_35 : decode cX12_indoors 35 = .ok (.goto (-22), 3) := by decide +kernel
theorem dX12_indoors_38 : decode cX12_indoors 38 = .ok (.aload_n 0, 1) := by decide +kernel
theorem dX12_indoors_39 : decode cX12_indoors 39 = .ok (.bipush 16, 2) := by decide +kernel
theorem dX12_indoors_41 : decode cX12_indoors 41 = .ok (.invokevirtual 179, 3) := by decide +kernel
theorem dX12_indoors_44 : decode cX12_indoors 44 = .ok (.iload_n 1, 1) := by decide +kernel
theorem dX12_indoors_45 : decode cX12_indoors 45 = .ok (.sipush 200, 3) := by decide +kernel
theorem dX12_indoors_48 : decode cX12_indoors 48 = .ok (.if_icmp .le 7, 3) := by decide +kernel
theorem dX12_indoors_51 : decode cX12_indoors 51 = .ok (.iconst (-1), 1) := by decide +kernel
theorem dX12_indoors_52 : decode cX12_indoors 52 = .ok (.goto 4, 3) := by decide +kernel
theorem dX12_indoors_55 : decode cX12_indoors 55 = .ok (.iload_n 1, 1) := by decide +kernel
theorem dX12_indoors_56 : decode cX12_indoors 56 = .ok (.ireturn, 1) := by decide +kernel
set_option maxRecDepth 20000 in
theorem rX12_indoors_0 {E : EN} (hE : Ep E) {k : Nat} {mem : Mm} {Q : Int → Mm → Prop}
    (h : (CV E mX12_keepAll k (aUp mem 603 0 0) [aR 603, aI 16] (fun m1 => VM E mX12_indoors (k + 1) m1 13 [(0, aR 603), (1, aI 0)] [] (retI Q)))) :
    VM E mX12_indoors (k + 1) mem 0 [(0, aR 603)] [] (retI Q) := by
  refine v_aload_n (pc := 0) dX12_indoors_0 0 rfl ?_
  refine v_iconst (pc := 1) dX12_indoors_1 (by decide) ?_
  refine v_putf (pc := 2) dX12_indoors_2 flX12_162 ⟨_, _, rfl, Or.inl rfl⟩ rfl (by decide) (fun q => nomatch q) (Or.inl fun _ => rfl) at603 ?_
  refine v_aload_n (pc := 5) dX12_indoors_5 0 rfl ?_
  refine v_bipush (pc := 6) dX12_indoors_6 (by decide) ?_
  refine m_invV (pc := 8) (mi' := mX12_keepAll) (rest := []) [aI 16] dX12_indoors_8 at603 (by decide) rfl msX12_keepAll mvX12_keepAll lkX12_171 rfl (Nat.le_of_ble_eq_true rfl) (fun hn => CV_mono (h) (fun m1 h => ?_))
  refine v_iconst (pc := 11) dX12_indoors_11 (by decide) ?_
  refine v_istore_n (pc := 12) (al2 := [(1, aI 0), (0, aR 603)]) dX12_indoors_12 (by decide) rfl ?_
  exact VG_sub (al' := [(0, aR 603), (1, aI 0)]) [1, 0] rfl h
theorem eX12_indoors {E : EN} {k : Nat} {mem : Mm} {Q : Int → Mm → Prop}  (h : VM E mX12_indoors (k + 1) mem 0 [(0, aR 603)] [] (retI Q)) : CI E mX12_indoors (k + 1) mem [aR 603] Q := CI_of rfl (Nat.le_of_ble_eq_true rfl) h (aNs_c (aNr_R _) (fun _ q => nomatch q))
set_option maxRecDepth 20000 in
theorem rX12_indoors_13 {E : EN} (hE : Ep E) {k : Nat} {mem : Mm} {Q : Int → Mm → Prop} {x1 : Int}
    (h : ((200 < x1 → (CV E mX12_putBack k mem [aR 603, aI 16] (fun m1 => ((x1 ≤ 200 → Q x1 m1) ∧ (200 < x1 → Q (-1) m1))))) ∧ (x1 ≤ 200 → (CI E mX12_isIndoors k mem [aR 603] (fun r3 m2 => ((¬ r3 = 0 → (CV E mX12_putBack k m2 [aR 603, aI 16] (fun m4 => ((x1 ≤ 200 → Q x1 m4) ∧ (200 < x1 → Q (-1) m4))))) ∧ (r3 = 0 → (CI E mX12_passIt k m2 [aR 603] (fun r6 m5 => (R32 (x1 + 1)) ∧ VM E mX12_indoors (k + 1) m5 13 [(0, aR 603), (1, aI (x1 + 1))] [] (retI Q)))))))))) :
    VM E mX12_indoors (k + 1) mem 13 [(0, aR 603), (1, aI x1)] [] (retI Q) := by
  refine v_iload_n (pc := 13) dX12_indoors_13 1 rfl ?_
  refine v_sipush (pc := 14) dX12_indoors_14 (by decide) ?_
  refine v_icmpgt (pc := 17) (tgt := 38) dX12_indoors_17 (by decide) (fun c1 => ?_) (fun c1 => ?_)
  · have h := h.1 c1
    refine v_aload_n (pc := 38) dX12_indoors_38 0 rfl ?_
    refine v_bipush (pc := 39) dX12_indoors_39 (by decide) ?_
    refine m_invV (pc := 41) (mi' := mX12_putBack) (rest := []) [aI 16] dX12_indoors_41 at603 (by decide) rfl msX12_putBack mvX12_putBack lkX12_179 rfl (Nat.le_of_ble_eq_true rfl) (fun hn => CV_mono (h) (fun m1 h => ?_))
    refine v_iload_n (pc := 44) dX12_indoors_44 1 rfl ?_
    refine v_sipush (pc := 45) dX12_indoors_45 (by decide) ?_
    refine v_icmple (pc := 48) (tgt := 55) dX12_indoors_48 (by decide) (fun c1 => ?_) (fun c1 => ?_)
    · have h := h.1 c1
      refine v_iload_n (pc := 55) dX12_indoors_55 1 rfl ?_
      exact m_retI (pc := 56) dX12_indoors_56 rfl h
    · have h := h.2 c1
      refine v_iconst (pc := 51) dX12_indoors_51 (by decide) ?_
      refine v_goto (pc := 52) (tgt := 56) dX12_indoors_52 (by decide) ?_
      exact m_retI (pc := 56) dX12_indoors_56 rfl h
  · have h := h.2 c1
    refine v_aload_n (pc := 20) dX12_indoors_20 0 rfl ?_
    refine m_invI (pc := 21) (mi' := mX12_isIndoors) (rest := []) [] dX12_indoors_21 at603 (by decide) rfl msX12_isIndoors mvX12_isIndoors lkX12_481 rfl (Nat.le_of_ble_eq_true rfl) (fun hn => CI_mono (h) (fun r3 m2 h => ?_))
    refine v_ifne (pc := 24) (tgt := 38) dX12_indoors_24 (by decide) (fun c1 => ?_) (fun c1 => ?_)
    · have h := h.1 c1
      refine v_aload_n (pc := 38) dX12_indoors_38 0 rfl ?_
      refine v_bipush (pc := 39) dX12_indoors_39 (by decide) ?_
      refine m_invV (pc := 41) (mi' := mX12_putBack) (rest := []) [aI 16] dX12_indoors_41 at603 (by decide) rfl msX12_putBack mvX12_putBack lkX12_179 rfl (Nat.le_of_ble_eq_true rfl) (fun hn => CV_mono (h) (fun m4 h => ?_))
      refine v_iload_n (pc := 44) dX12_indoors_44 1 rfl ?_
      refine v_sipush (pc := 45) dX12_indoors_45 (by decide) ?_
      refine v_icmple (pc := 48) (tgt := 55) dX12_indoors_48 (by decide) (fun c1 => ?_) (fun c1 => ?_)
      · have h := h.1 c1
        refine v_iload_n (pc := 55) dX12_indoors_55 1 rfl ?_
        exact m_retI (pc := 56) dX12_indoors_56 rfl h
      · have h := h.2 c1
        refine v_iconst (pc := 51) dX12_indoors_51 (by decide) ?_
        refine v_goto (pc := 52) (tgt := 56) dX12_indoors_52 (by decide) ?_
        exact m_retI (pc := 56) dX12_indoors_56 rfl h
    · have h := h.2 c1
      refine v_aload_n (pc := 27) dX12_indoors_27 0 rfl ?_
      refine m_invI (pc := 28) (mi' := mX12_passIt) (rest := []) [] dX12_indoors_28 at603 (by decide) rfl msX12_passIt mvX12_passIt lkX12_470 rfl (Nat.le_of_ble_eq_true rfl) (fun hn => CI_mono (h) (fun r6 m5 h => ?_))
      refine v_pop (pc := 31) dX12_indoors_31 rfl ?_
      obtain ⟨o7, h⟩ := h
      refine m_iinc (pc := 32) (al2 := [(1, aI (x1 + 1)), (0, aR 603)]) dX12_indoors_32 1 rfl (by decide) o7 rfl ?_
      refine v_goto (pc := 35) (tgt := 13) dX12_indoors_35 (by decide) ?_
      exact VG_sub (al' := [(0, aR 603), (1, aI (x1 + 1))]) [1, 0] rfl h

theorem dX12_yearIn_0 : decode cX12_yearIn 0 = .ok (.iconst 0, 1) := by decide +kernel
theorem dX12_yearIn_1 : decode cX12_yearIn 1 = .ok (.istore 4, 2) := by decide +kernel
theorem dX12_yearIn_3 : decode cX12_yearIn 3 = .ok (.iload 4, 2) := by decide +kernel
theorem dX12_yearIn_5 : decode cX12_yearIn 5 = .ok (.iload_n 3, 1) := by decide +kernel
theorem dX12_yearIn_6 : decode cX12_yearIn 6 = .ok (.if_icmp .gt 33, 3) := by decide +kernel
theorem dX12_yearIn_9 : decode cX12_yearIn 9 = .ok (.aload_n 0, 1) := by decide +kernel
theorem dX12_yearIn_10 : decode cX12_yearIn 10 = .ok (.getfield 13, 3) := by decide +kernel
theorem dX12_yearIn_13 : decode cX12_yearIn 13 = .ok (.bipush 8, 2) := by decide +kernel
theorem dX12_yearIn_15 : decode cX12_yearIn 15 = .ok (.iload_n 1, 1) := by decide +kernel
theorem dX12_yearIn_16 : decode cX12_yearIn 16 = .ok (.iadd, 1) := by decide +kernel
theorem dX12_yearIn_17 : decode cX12_yearIn 17 = .ok (.iaload, 1) := by decide +kernel
theorem dX12_yearIn_18 : decode cX12_yearIn 18 = .ok (.iload_n 2, 1) := by decide +kernel
theorem dX12_yearIn_19 : decode cX12_yearIn 19 = .ok (.if_icmp .eq 20, 3) := by decide +kernel
theorem dX12_yearIn_22 : decode cX12_yearIn 22 = .ok (.iload 4, 2) := by decide +kernel
theorem dX12_yearIn_24 : decode cX12_yearIn 24 = .ok (.iload_n 3, 1) := by decide +kernel
theorem dX12_yearIn_25 : decode cX12_yearIn 25 = .ok (.if_icmp .ge 8, 3) := by decide +kernel
theorem dX12_yearIn_28 : decode cX12_yearIn 28 = .ok (.aload_n 0, 1) := by decide +kernel
theorem dX12_yearIn_29 : decode cX12_yearIn 29 = .ok (.invokevirtual 470, 3) := by decide +kernel
theorem dX12_yearIn_32 : decode cX12_yearIn 32 = .ok (.pop, 1) := by decide +kernel
theorem dX12_yearIn_33 : decode cX12_yearIn 33 = .ok (.iinc 4 1, 3) := by decide +kernel
theorem dX12_yearIn_36 : decode cX12_yearIn 36 = .ok (.goto (-33), 3) := by decide +kernel
theorem dX12_yearIn_39 : decode cX12_yearIn 39 = .ok (.iload 4, 2) := by decide +kernel
theorem dX12_yearIn_41 : decode cX12_yearIn 41 = .ok (.iload_n 3, 1) := by decide +kernel
theorem dX12_yearIn_42 : decode cX12_yearIn 42 = .ok (.if_icmp .le 9, 3) := by decide +kernel
theorem dX12_yearIn_45 : decode cX12_yearIn 45 = .ok (.ldc_w 484, 3) := by decide +kernel
theorem dX12_yearIn_48 : decode cX12_yearIn 48 = .ok (.goto 5, 3) := by decide +kernel
theorem dX12_yearIn_51 : decode cX12_yearIn 51 = .ok (.iload 4, 2) := by decide +kernel
theorem dX12_yearIn_53 : decode cX12_yearIn 53 = .ok (.ireturn, 1) := by decide +kernel
set_option maxRecDepth 20000 in
theorem rX12_yearIn_0 {E : EN} (hE : Ep E) {k : Nat} {mem : Mm} {Q : Int → Mm → Prop} {p0 p1 p2 : Int}
    (h : VM E mX12_yearIn (k + 1) mem 3 [(0, aR 603), (1, aI p0), (2, aI p1), (3, aI p2), (4, aI 0)] [] (retI Q)) :
    VM E mX12_yearIn (k + 1) mem 0 [(0, aR 603), (1, aI p0), (2, aI p1), (3, aI p2)] [] (retI Q) := by
  refine v_iconst (pc := 0) dX12_yearIn_0 (by decide) ?_
  refine v_istore (pc := 1) (al2 := [(4, aI 0), (0, aR 603), (1, aI p0), (2, aI p1), (3, aI p2)]) dX12_yearIn_1 (by decide) rfl ?_
  exact VG_sub (al' := [(0, aR 603), (1, aI p0), (2, aI p1), (3, aI p2), (4, aI 0)]) [1, 2, 3, 4, 0] rfl h
theorem eX12_yearIn {E : EN} {k : Nat} {mem : Mm} {Q : Int → Mm → Prop} {p0 p1 p2 : Int} (hr_p0 : R32 p0) (hr_p1 : R32 p1) (hr_p2 : R32 p2) (h : VM E mX12_yearIn (k + 1) mem 0 [(0, aR 603), (1, aI p0), (2, aI p1), (3, aI p2)] [] (retI Q)) : CI E mX12_yearIn (k + 1) mem [aR 603, aI p0, aI p1, aI p2] Q := CI_of rfl (Nat.le_of_ble_eq_true rfl) h (aNs_c (aNr_R _) (aNs_c (aNr_I hr_p0) (aNs_c (aNr_I hr_p1) (aNs_c (aNr_I hr_p2) (fun _ q => nomatch q)))))
set_option maxRecDepth 20000 in
theorem rX12_yearIn_3 {E : EN} (hE : Ep E) {k : Nat} {mem : Mm} {Q : Int → Mm → Prop} {p0 p1 p2 x4 : Int}
    (h : ((p2 < x4 → ((x4 ≤ p2 → Q x4 mem) ∧ (p2 < x4 → Q 100000000 mem))) ∧ (x4 ≤ p2 → (R32 (8 + p0)) ∧ (0 ≤ (8 + p0) ∧ (8 + p0) < 5570) ∧ (((mem 605 (8 + p0)) = p1 → ((x4 ≤ p2 → Q x4 mem) ∧ (p2 < x4 → Q 100000000 mem))) ∧ (¬ (mem 605 (8 + p0)) = p1 → ((p2 ≤ x4 → (R32 (x4 + 1)) ∧ VM E mX12_yearIn (k + 1) mem 3 [(0, aR 603), (1, aI p0), (2, aI p1), (3, aI p2), (4, aI (x4 + 1))] [] (retI Q)) ∧ (x4 < p2 → (CI E mX12_passIt k mem [aR 603] (fun r5 m4 => (R32 (x4 + 1)) ∧ VM E mX12_yearIn (k + 1) m4 3 [(0, aR 603), (1, aI p0), (2, aI p1), (3, aI p2), (4, aI (x4 + 1))] [] (retI Q)))))))))) :
    VM E mX12_yearIn (k + 1) mem 3 [(0, aR 603), (1, aI p0), (2, aI p1), (3, aI p2), (4, aI x4)] [] (retI Q) := by
  refine v_iload (pc := 3) dX12_yearIn_3 4 rfl ?_
  refine v_iload_n (pc := 5) dX12_yearIn_5 3 rfl ?_
  refine v_icmpgt (pc := 6) (tgt := 39) dX12_yearIn_6 (by decide) (fun c1 => ?_) (fun c1 => ?_)
  · have h := h.1 c1
    refine v_iload (pc := 39) dX12_yearIn_39 4 rfl ?_
    refine v_iload_n (pc := 41) dX12_yearIn_41 3 rfl ?_
    refine v_icmple (pc := 42) (tgt := 51) dX12_yearIn_42 (by decide) (fun c1 => ?_) (fun c1 => ?_)
    · have h := h.1 c1
      refine v_iload (pc := 51) dX12_yearIn_51 4 rfl ?_
      exact m_retI (pc := 53) dX12_yearIn_53 rfl h
    · have h := h.2 c1
      refine v_ldcw (pc := 45) (n := 100000000) dX12_yearIn_45 cnX12_484 (by decide) ?_
      refine v_goto (pc := 48) (tgt := 53) dX12_yearIn_48 (by decide) ?_
      exact m_retI (pc := 53) dX12_yearIn_53 rfl h
  · have h := h.2 c1
    refine v_aload_n (pc := 9) dX12_yearIn_9 0 rfl ?_
    refine m_getfin (pc := 10) (v := 605) hE dX12_yearIn_10 flX12_13 rfl at603 rfl ?_
    refine v_bipush (pc := 13) dX12_yearIn_13 (by decide) ?_
    refine v_iload_n (pc := 15) dX12_yearIn_15 1 rfl ?_
    obtain ⟨o1, h⟩ := h
    refine m_iadd (pc := 16) dX12_yearIn_16 o1 ?_
    obtain ⟨o2, h⟩ := h
    refine m_iald (pc := 17) (v := (mem 605 (8 + p0))) dX12_yearIn_17 at605 o2.1 o2.2 rfl ?_
    refine v_iload_n (pc := 18) dX12_yearIn_18 2 rfl ?_
    refine v_icmpeq (pc := 19) (tgt := 39) dX12_yearIn_19 (by decide) (fun c1 => ?_) (fun c1 => ?_)
    · have h := h.1 c1
      refine v_iload (pc := 39) dX12_yearIn_39 4 rfl ?_
      refine v_iload_n (pc := 41) dX12_yearIn_41 3 rfl ?_
      refine v_icmple (pc := 42) (tgt := 51) dX12_yearIn_42 (by decide) (fun c1 => ?_) (fun c1 => ?_)
      · have h := h.1 c1
        refine v_iload (pc := 51) dX12_yearIn_51 4 rfl ?_
        exact m_retI (pc := 53) dX12_yearIn_53 rfl h
      · have h := h.2 c1
        refine v_ldcw (pc := 45) (n := 100000000) dX12_yearIn_45 cnX12_484 (by decide) ?_
        refine v_goto (pc := 48) (tgt := 53) dX12_yearIn_48 (by decide) ?_
        exact m_retI (pc := 53) dX12_yearIn_53 rfl h
    · have h := h.2 c1
      refine v_iload (pc := 22) dX12_yearIn_22 4 rfl ?_
      refine v_iload_n (pc := 24) dX12_yearIn_24 3 rfl ?_
      refine v_icmpge (pc := 25) (tgt := 33) dX12_yearIn_25 (by decide) (fun c1 => ?_) (fun c1 => ?_)
      · have h := h.1 c1
        obtain ⟨o3, h⟩ := h
        refine m_iinc (pc := 33) (al2 := [(4, aI (x4 + 1)), (0, aR 603), (1, aI p0), (2, aI p1), (3, aI p2)]) dX12_yearIn_33 4 rfl (by decide) o3 rfl ?_
        refine v_goto (pc := 36) (tgt := 3) dX12_yearIn_36 (by decide) ?_
        exact VG_sub (al' := [(0, aR 603), (1, aI p0), (2, aI p1), (3, aI p2), (4, aI (x4 + 1))]) [1, 2, 3, 4, 0] rfl h
      · have h := h.2 c1
        refine v_aload_n (pc := 28) dX12_yearIn_28 0 rfl ?_
        refine m_invI (pc := 29) (mi' := mX12_passIt) (rest := []) [] dX12_yearIn_29 at603 (by decide) rfl msX12_passIt mvX12_passIt lkX12_470 rfl (Nat.le_of_ble_eq_true rfl) (fun hn => CI_mono (h) (fun r5 m4 h => ?_))
        refine v_pop (pc := 32) dX12_yearIn_32 rfl ?_
        obtain ⟨o6, h⟩ := h
        refine m_iinc (pc := 33) (al2 := [(4, aI (x4 + 1)), (0, aR 603), (1, aI p0), (2, aI p1), (3, aI p2)]) dX12_yearIn_33 4 rfl (by decide) o6 rfl ?_
        refine v_goto (pc := 36) (tgt := 3) dX12_yearIn_36 (by decide) ?_
        exact VG_sub (al' := [(0, aR 603), (1, aI p0), (2, aI p1), (3, aI p2), (4, aI (x4 + 1))]) [1, 2, 3, 4, 0] rfl h
