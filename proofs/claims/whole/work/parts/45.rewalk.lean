-- reckonAll once more, with a cut behind its opcode and argument; sumOf with its cast that wraps
theorem rjX12_reckonAll_0 {E : EN} (hE : Ep E) {k : Nat} {mem : Mm} {Q : Mm → Prop} {p0 p1 : Int}
    (h : VM E mX12_reckonAll (k + 1) (aUp mem 603 38 0) 10 [(0, aR 603), (2, aI p1), (3, aI 0), (4, aI p0)] [] (retV Q)) :
    VM E mX12_reckonAll (k + 1) mem 0 [(0, aR 603), (1, aI p0), (2, aI p1)] [] (retV Q) := by
  refine v_aload_n (pc := 0) dX12_reckonAll_0 0 rfl ?_
  refine v_iconst (pc := 1) dX12_reckonAll_1 (by decide) ?_
  refine v_putf (pc := 2) dX12_reckonAll_2 flX12_389 ⟨_, _, rfl, Or.inl rfl⟩ rfl (by decide) (fun _ => by decide) (Or.inl fun _ => rfl) at603 ?_
  refine v_iconst (pc := 5) dX12_reckonAll_5 (by decide) ?_
  refine v_istore_n (pc := 6) (al2 := [(3, aI 0), (0, aR 603), (1, aI p0), (2, aI p1)]) dX12_reckonAll_6 (by decide) rfl ?_
  refine v_iload_n (pc := 7) dX12_reckonAll_7 2 rfl ?_
  refine v_istore (pc := 8) (al2 := [(4, aI p0), (3, aI 0), (0, aR 603), (1, aI p0), (2, aI p1)]) dX12_reckonAll_8 (by decide) rfl ?_
  exact VG_sub (al' := [(0, aR 603), (2, aI p1), (3, aI 0), (4, aI p0)]) [2, 4, 1, 0] rfl h
theorem rjX12_reckonAll_10 {E : EN} (hE : Ep E) {k : Nat} {mem : Mm} {Q : Mm → Prop} {p0 p1 x3 x4 : Int}
    (h : ((p1 ≤ x4 → VM E mX12_reckonAll (k + 1) mem 370 [(0, aR 603), (3, aI x3)] [] (retV Q)) ∧ (x4 < p1 → ((¬ (mem 603 38) = 0 → VM E mX12_reckonAll (k + 1) mem 370 [(0, aR 603), (3, aI x3)] [] (retV Q)) ∧ ((mem 603 38) = 0 → (((mem 603 20) = 0 → (R32 ((mem 603 34) + 98)) ∧ (R32 (2 * x4)) ∧ (R32 (((mem 603 34) + 98) + (2 * x4))) ∧ (0 ≤ (((mem 603 34) + 98) + (2 * x4)) ∧ (((mem 603 34) + 98) + (2 * x4)) < 5570) ∧ VM E mX12_reckonAll (k + 1) mem 59 [(0, aR 603), (2, aI p1), (3, aI x3), (4, aI x4), (5, aI (mem 605 (((mem 603 34) + 98) + (2 * x4))))] [] (retV Q)) ∧ (¬ (mem 603 20) = 0 → (0 ≤ x4 ∧ x4 < 400) ∧ VM E mX12_reckonAll (k + 1) mem 59 [(0, aR 603), (2, aI p1), (3, aI x3), (4, aI x4), (5, aI (mem 614 x4))] [] (retV Q)))))))) :
    VM E mX12_reckonAll (k + 1) mem 10 [(0, aR 603), (2, aI p1), (3, aI x3), (4, aI x4)] [] (retV Q) := by
  refine v_iload (pc := 10) dX12_reckonAll_10 3 rfl ?_
  refine v_iload_n (pc := 12) dX12_reckonAll_12 1 rfl ?_
  refine v_icmpge (pc := 13) (tgt := 370) dX12_reckonAll_13 (by decide) (fun c1 => ?_) (fun c1 => ?_)
  · have h := h.1 c1
    exact VG_sub (al' := [(0, aR 603), (3, aI x3)]) [0, 2] rfl h
  · have h := h.2 c1
    refine v_aload_n (pc := 16) dX12_reckonAll_16 0 rfl ?_
    refine m_getf (pc := 17) (t := 0) (v := (mem 603 38)) dX12_reckonAll_17 flX12_389 rfl at603 rfl ?_
    refine v_ifne (pc := 20) (tgt := 370) dX12_reckonAll_20 (by decide) (fun c1 => ?_) (fun c1 => ?_)
    · have h := h.1 c1
      exact VG_sub (al' := [(0, aR 603), (3, aI x3)]) [0, 2] rfl h
    · have h := h.2 c1
      refine v_aload_n (pc := 23) dX12_reckonAll_23 0 rfl ?_
      refine m_getf (pc := 24) (t := 0) (v := (mem 603 20)) dX12_reckonAll_24 flX12_317 rfl at603 rfl ?_
      refine v_ifeq (pc := 27) (tgt := 40) dX12_reckonAll_27 (by decide) (fun c1 => ?_) (fun c1 => ?_)
      · have h := h.1 c1
        refine v_aload_n (pc := 40) dX12_reckonAll_40 0 rfl ?_
        refine m_getfin (pc := 41) (v := 605) hE dX12_reckonAll_41 flX12_13 rfl at603 rfl ?_
        refine v_aload_n (pc := 44) dX12_reckonAll_44 0 rfl ?_
        refine m_getf (pc := 45) (t := 0) (v := (mem 603 34)) dX12_reckonAll_45 flX12_392 rfl at603 rfl ?_
        refine v_bipush (pc := 48) dX12_reckonAll_48 (by decide) ?_
        obtain ⟨o1, h⟩ := h
        refine m_iadd (pc := 50) dX12_reckonAll_50 o1 ?_
        refine v_iconst (pc := 51) dX12_reckonAll_51 (by decide) ?_
        refine v_iload (pc := 52) dX12_reckonAll_52 3 rfl ?_
        obtain ⟨o2, h⟩ := h
        refine m_imul (pc := 54) dX12_reckonAll_54 o2 ?_
        obtain ⟨o3, h⟩ := h
        refine m_iadd (pc := 55) dX12_reckonAll_55 o3 ?_
        obtain ⟨o4, h⟩ := h
        refine m_iald (pc := 56) (v := (mem 605 (((mem 603 34) + 98) + (2 * x4)))) dX12_reckonAll_56 at605 o4.1 o4.2 rfl ?_
        refine v_istore (pc := 57) (al2 := [(5, aI (mem 605 (((mem 603 34) + 98) + (2 * x4)))), (0, aR 603), (2, aI p1), (3, aI x3), (4, aI x4)]) dX12_reckonAll_57 (by decide) rfl ?_
        exact VG_sub (al' := [(0, aR 603), (2, aI p1), (3, aI x3), (4, aI x4), (5, aI (mem 605 (((mem 603 34) + 98) + (2 * x4))))]) [1, 2, 3, 4, 0] rfl h
      · have h := h.2 c1
        refine v_aload_n (pc := 30) dX12_reckonAll_30 0 rfl ?_
        refine m_getfin (pc := 31) (v := 614) hE dX12_reckonAll_31 flX12_45 rfl at603 rfl ?_
        refine v_iload (pc := 34) dX12_reckonAll_34 3 rfl ?_
        obtain ⟨o5, h⟩ := h
        refine m_iald (pc := 36) (v := (mem 614 x4)) dX12_reckonAll_36 at614 o5.1 o5.2 rfl ?_
        refine v_goto (pc := 37) (tgt := 57) dX12_reckonAll_37 (by decide) ?_
        refine v_istore (pc := 57) (al2 := [(5, aI (mem 614 x4)), (0, aR 603), (2, aI p1), (3, aI x3), (4, aI x4)]) dX12_reckonAll_57 (by decide) rfl ?_
        exact VG_sub (al' := [(0, aR 603), (2, aI p1), (3, aI x3), (4, aI x4), (5, aI (mem 614 x4))]) [1, 2, 3, 4, 0] rfl h
set_option maxRecDepth 20000 in
theorem rjX12_reckonAll_370 {E : EN} (hE : Ep E) {k : Nat} {mem : Mm} {Q : Mm → Prop} {p0 p1 x3 : Int}
    (h : ((x3 ≤ 0 → Q (aUp mem 603 39 0)) ∧ (0 < x3 → Q (aUp mem 603 39 (mem 623 0))))) :
    VM E mX12_reckonAll (k + 1) mem 370 [(0, aR 603), (3, aI x3)] [] (retV Q) := by
  refine v_aload_n (pc := 370) dX12_reckonAll_370 0 rfl ?_
  refine v_iload_n (pc := 371) dX12_reckonAll_371 1 rfl ?_
  refine v_ifle (pc := 372) (tgt := 384) dX12_reckonAll_372 (by decide) (fun c1 => ?_) (fun c1 => ?_)
  · have h := h.1 c1
    refine v_lconst0 (pc := 384) dX12_reckonAll_384 ?_
    refine v_putf (pc := 385) dX12_reckonAll_385 flX12_403 ⟨_, _, rfl, Or.inl rfl⟩ rfl (by decide) (fun q => nomatch q) (Or.inl fun _ => rfl) at603 ?_
    exact m_retV (pc := 388) dX12_reckonAll_388 rfl h
  · have h := h.2 c1
    refine v_aload_n (pc := 375) dX12_reckonAll_375 0 rfl ?_
    refine m_getfin (pc := 376) (v := 623) hE dX12_reckonAll_376 flX12_109 rfl at603 rfl ?_
    refine v_iconst (pc := 379) dX12_reckonAll_379 (by decide) ?_
    refine m_lald (pc := 380) (v := (mem 623 0)) dX12_reckonAll_380 at623 (by omega) (by omega) rfl ?_
    refine v_goto (pc := 381) (tgt := 385) dX12_reckonAll_381 (by decide) ?_
    refine v_putf (pc := 385) dX12_reckonAll_385 flX12_403 ⟨_, _, rfl, Or.inl rfl⟩ rfl (by decide) (fun q => nomatch q) (Or.inl fun _ => rfl) at603 ?_
    exact m_retV (pc := 388) dX12_reckonAll_388 rfl h
set_option maxRecDepth 20000 in
theorem rjX12_reckonAll_59 {E : EN} (hE : Ep E) {k : Nat} {mem : Mm} {Q : Mm → Prop} {p0 p1 x3 x4 x5 : Int}
    (h : (((mem 603 20) = 0 → (R32 ((mem 603 34) + 98)) ∧ (R32 (2 * x4)) ∧ (R32 (((mem 603 34) + 98) + (2 * x4))) ∧ (R32 ((((mem 603 34) + 98) + (2 * x4)) + 1)) ∧ (0 ≤ ((((mem 603 34) + 98) + (2 * x4)) + 1) ∧ ((((mem 603 34) + 98) + (2 * x4)) + 1) < 5570) ∧ VM E mX12_reckonAll (k + 1) mem 97 [(0, aR 603), (2, aI p1), (3, aI x3), (4, aI x4), (5, aI x5), (6, aI (mem 605 ((((mem 603 34) + 98) + (2 * x4)) + 1)))] [] (retV Q)) ∧ (¬ (mem 603 20) = 0 → (0 ≤ x4 ∧ x4 < 400) ∧ VM E mX12_reckonAll (k + 1) mem 97 [(0, aR 603), (2, aI p1), (3, aI x3), (4, aI x4), (5, aI x5), (6, aI (mem 615 x4))] [] (retV Q)))) :
    VM E mX12_reckonAll (k + 1) mem 59 [(0, aR 603), (2, aI p1), (3, aI x3), (4, aI x4), (5, aI x5)] [] (retV Q) := by
  refine v_aload_n (pc := 59) dX12_reckonAll_59 0 rfl ?_
  refine m_getf (pc := 60) (t := 0) (v := (mem 603 20)) dX12_reckonAll_60 flX12_317 rfl at603 rfl ?_
  refine v_ifeq (pc := 63) (tgt := 76) dX12_reckonAll_63 (by decide) (fun c1 => ?_) (fun c1 => ?_)
  · have h := h.1 c1
    refine v_aload_n (pc := 76) dX12_reckonAll_76 0 rfl ?_
    refine m_getfin (pc := 77) (v := 605) hE dX12_reckonAll_77 flX12_13 rfl at603 rfl ?_
    refine v_aload_n (pc := 80) dX12_reckonAll_80 0 rfl ?_
    refine m_getf (pc := 81) (t := 0) (v := (mem 603 34)) dX12_reckonAll_81 flX12_392 rfl at603 rfl ?_
    refine v_bipush (pc := 84) dX12_reckonAll_84 (by decide) ?_
    obtain ⟨o1, h⟩ := h
    refine m_iadd (pc := 86) dX12_reckonAll_86 o1 ?_
    refine v_iconst (pc := 87) dX12_reckonAll_87 (by decide) ?_
    refine v_iload (pc := 88) dX12_reckonAll_88 3 rfl ?_
    obtain ⟨o2, h⟩ := h
    refine m_imul (pc := 90) dX12_reckonAll_90 o2 ?_
    obtain ⟨o3, h⟩ := h
    refine m_iadd (pc := 91) dX12_reckonAll_91 o3 ?_
    refine v_iconst (pc := 92) dX12_reckonAll_92 (by decide) ?_
    obtain ⟨o4, h⟩ := h
    refine m_iadd (pc := 93) dX12_reckonAll_93 o4 ?_
    obtain ⟨o5, h⟩ := h
    refine m_iald (pc := 94) (v := (mem 605 ((((mem 603 34) + 98) + (2 * x4)) + 1))) dX12_reckonAll_94 at605 o5.1 o5.2 rfl ?_
    refine v_istore (pc := 95) (al2 := [(6, aI (mem 605 ((((mem 603 34) + 98) + (2 * x4)) + 1))), (0, aR 603), (2, aI p1), (3, aI x3), (4, aI x4), (5, aI x5)]) dX12_reckonAll_95 (by decide) rfl ?_
    exact VG_sub (al' := [(0, aR 603), (2, aI p1), (3, aI x3), (4, aI x4), (5, aI x5), (6, aI (mem 605 ((((mem 603 34) + 98) + (2 * x4)) + 1)))]) [1, 2, 3, 4, 5, 0] rfl h
  · have h := h.2 c1
    refine v_aload_n (pc := 66) dX12_reckonAll_66 0 rfl ?_
    refine m_getfin (pc := 67) (v := 615) hE dX12_reckonAll_67 flX12_48 rfl at603 rfl ?_
    refine v_iload (pc := 70) dX12_reckonAll_70 3 rfl ?_
    obtain ⟨o6, h⟩ := h
    refine m_iald (pc := 72) (v := (mem 615 x4)) dX12_reckonAll_72 at615 o6.1 o6.2 rfl ?_
    refine v_goto (pc := 73) (tgt := 95) dX12_reckonAll_73 (by decide) ?_
    refine v_istore (pc := 95) (al2 := [(6, aI (mem 615 x4)), (0, aR 603), (2, aI p1), (3, aI x3), (4, aI x4), (5, aI x5)]) dX12_reckonAll_95 (by decide) rfl ?_
    exact VG_sub (al' := [(0, aR 603), (2, aI p1), (3, aI x3), (4, aI x4), (5, aI x5), (6, aI (mem 615 x4))]) [1, 2, 3, 4, 5, 0] rfl h
set_option maxRecDepth 20000 in
theorem rjX12_reckonAll_97 {E : EN} (hE : Ep E) {k : Nat} {mem : Mm} {Q : Mm → Prop} {p0 p1 x3 x4 x5 x6 : Int}
    (h : (R32 (x4 + 1)) ∧ ((20 ≤ x5 → ((28 ≤ x5 → ((¬ x5 = 28 → (R32 (x3 - 1)) ∧ (0 ≤ (x3 - 1) ∧ (x3 - 1) < 400) ∧ ((¬ x5 = 29 → ((¬ (mem 623 (x3 - 1)) = 1 → (R32 (x3 + (-1))) ∧ VM E mX12_reckonAll (k + 1) mem 367 [(0, aR 603), (2, aI p1), (3, aI (x3 + (-1))), (4, aI (x4 + 1))] [] (retV Q)) ∧ ((mem 623 (x3 - 1)) = 1 → VM E mX12_reckonAll (k + 1) mem 367 [(0, aR 603), (2, aI p1), (3, aI x3), (4, aI x6)] [] (retV Q)))) ∧ (x5 = 29 → ((¬ (mem 623 (x3 - 1)) = 0 → (R32 (x3 + (-1))) ∧ VM E mX12_reckonAll (k + 1) mem 367 [(0, aR 603), (2, aI p1), (3, aI (x3 + (-1))), (4, aI (x4 + 1))] [] (retV Q)) ∧ ((mem 623 (x3 - 1)) = 0 → VM E mX12_reckonAll (k + 1) mem 367 [(0, aR 603), (2, aI p1), (3, aI x3), (4, aI x6)] [] (retV Q)))))) ∧ (x5 = 28 → (R32 (x3 - 1)) ∧ (0 ≤ (x3 - 1) ∧ (x3 - 1) < 400) ∧ (R64 (1 - (mem 623 (x3 - 1)))) ∧ VM E mX12_reckonAll (k + 1) (aUp mem 623 (x3 - 1) (1 - (mem 623 (x3 - 1)))) 367 [(0, aR 603), (2, aI p1), (3, aI x3), (4, aI (x4 + 1))] [] (retV Q)))) ∧ (x5 < 28 → (R32 (x3 + (-1))) ∧ (R32 ((x3 + (-1)) - 1)) ∧ (0 ≤ ((x3 + (-1)) - 1) ∧ ((x3 + (-1)) - 1) < 400) ∧ (0 ≤ (x3 + (-1)) ∧ (x3 + (-1)) < 400) ∧ (R32 x5 → R64 (mem 623 ((x3 + (-1)) - 1)) → R64 (mem 623 (x3 + (-1))) → CL E mX12_reckon k mem [aR 603, aI x5, aL (mem 623 ((x3 + (-1)) - 1)), aL (mem 623 (x3 + (-1)))] (fun r14 m13 => ((¬ (m13 603 38) = 0 → VM E mX12_reckonAll (k + 1) (aUp (aUp m13 623 ((x3 + (-1)) - 1) r14) 603 38 1) 367 [(0, aR 603), (2, aI p1), (3, aI (x3 + (-1))), (4, aI (x4 + 1))] [] (retV Q)) ∧ ((m13 603 38) = 0 → (R64 r14 → CI E mX12_in k (aUp m13 623 ((x3 + (-1)) - 1) r14) [aL r14, aL (-1000000000), aL 1000000000] (fun r16 m15 => ((¬ r16 = 0 → VM E mX12_reckonAll (k + 1) (aUp m15 603 38 0) 367 [(0, aR 603), (2, aI p1), (3, aI (x3 + (-1))), (4, aI (x4 + 1))] [] (retV Q)) ∧ (r16 = 0 → VM E mX12_reckonAll (k + 1) (aUp m15 603 38 1) 367 [(0, aR 603), (2, aI p1), (3, aI (x3 + (-1))), (4, aI (x4 + 1))] [] (retV Q)))))))))))) ∧ (x5 < 20 → ((¬ x5 = 0 → ((¬ (mem 603 20) = 0 → ((5 ≤ x5 → ((¬ x5 = 5 → ((¬ x5 = 6 → (R32 (48 + x6)) ∧ (0 ≤ (48 + x6) ∧ (48 + x6) < 5570) ∧ (0 ≤ x3 ∧ x3 < 400) ∧ (R32 (x3 + 1)) ∧ VM E mX12_reckonAll (k + 1) (aUp mem 623 x3 (mem 605 (48 + x6))) 367 [(0, aR 603), (2, aI p1), (3, aI (x3 + 1)), (4, aI (x4 + 1))] [] (retV Q)) ∧ (x5 = 6 → (R32 (80 + x6)) ∧ (0 ≤ (80 + x6) ∧ (80 + x6) < 5570) ∧ (0 ≤ x3 ∧ x3 < 400) ∧ (R32 (x3 + 1)) ∧ VM E mX12_reckonAll (k + 1) (aUp mem 623 x3 (mem 605 (80 + x6))) 367 [(0, aR 603), (2, aI p1), (3, aI (x3 + 1)), (4, aI (x4 + 1))] [] (retV Q)))) ∧ (x5 = 5 → (R32 x6 → CI E mX12_isPlot k mem [aR 603, aI x6] (fun r26 m25 => ((r26 = 0 → (0 ≤ x3 ∧ x3 < 400) ∧ (R32 (x3 + 1)) ∧ VM E mX12_reckonAll (k + 1) (aUp m25 623 x3 (-1)) 367 [(0, aR 603), (2, aI p1), (3, aI (x3 + 1)), (4, aI (x4 + 1))] [] (retV Q)) ∧ (¬ r26 = 0 → (R32 (8 + x6)) ∧ (0 ≤ (8 + x6) ∧ (8 + x6) < 5570) ∧ (0 ≤ x3 ∧ x3 < 400) ∧ (R32 (x3 + 1)) ∧ VM E mX12_reckonAll (k + 1) (aUp m25 623 x3 (m25 605 (8 + x6))) 367 [(0, aR 603), (2, aI p1), (3, aI (x3 + 1)), (4, aI (x4 + 1))] [] (retV Q)))))))) ∧ (x5 < 5 → (0 ≤ x5 ∧ x5 < 13) ∧ (0 ≤ x3 ∧ x3 < 400) ∧ (R32 (x3 + 1)) ∧ VM E mX12_reckonAll (k + 1) (aUp mem 623 x3 (mem 622 x5)) 367 [(0, aR 603), (2, aI p1), (3, aI (x3 + 1)), (4, aI (x4 + 1))] [] (retV Q)))) ∧ ((mem 603 20) = 0 → (0 ≤ x5 ∧ x5 < 13) ∧ (0 ≤ x3 ∧ x3 < 400) ∧ (R32 (x3 + 1)) ∧ VM E mX12_reckonAll (k + 1) (aUp mem 623 x3 (mem 621 x5)) 367 [(0, aR 603), (2, aI p1), (3, aI (x3 + 1)), (4, aI (x4 + 1))] [] (retV Q)))) ∧ (x5 = 0 → (0 ≤ x3 ∧ x3 < 400) ∧ (R32 (x3 + 1)) ∧ VM E mX12_reckonAll (k + 1) (aUp mem 623 x3 x6) 367 [(0, aR 603), (2, aI p1), (3, aI (x3 + 1)), (4, aI (x4 + 1))] [] (retV Q)))))) :
    VM E mX12_reckonAll (k + 1) mem 97 [(0, aR 603), (2, aI p1), (3, aI x3), (4, aI x4), (5, aI x5), (6, aI x6)] [] (retV Q) := by
  obtain ⟨o1, h⟩ := h
  refine m_iinc (pc := 97) (al2 := [(4, aI (x4 + 1)), (0, aR 603), (2, aI p1), (3, aI x3), (5, aI x5), (6, aI x6)]) dX12_reckonAll_97 3 rfl (by decide) o1 rfl ?_
  refine v_iload (pc := 100) dX12_reckonAll_100 4 rfl ?_
  refine v_bipush (pc := 102) dX12_reckonAll_102 (by decide) ?_
  refine v_icmpge (pc := 104) (tgt := 228) dX12_reckonAll_104 (by decide) (fun c1 => ?_) (fun c1 => ?_)
  · have h := h.1 c1
    refine v_iload (pc := 228) dX12_reckonAll_228 4 rfl ?_
    refine v_bipush (pc := 230) dX12_reckonAll_230 (by decide) ?_
    refine v_icmpge (pc := 232) (tgt := 305) dX12_reckonAll_232 (by decide) (fun c1 => ?_) (fun c1 => ?_)
    · have h := h.1 c1
      refine v_iload (pc := 305) dX12_reckonAll_305 4 rfl ?_
      refine v_bipush (pc := 307) dX12_reckonAll_307 (by decide) ?_
      refine v_icmpne (pc := 309) (tgt := 333) dX12_reckonAll_309 (by decide) (fun c1 => ?_) (fun c1 => ?_)
      · have h := h.1 c1
        refine v_aload_n (pc := 333) dX12_reckonAll_333 1 rfl ?_
        refine m_getfin (pc := 334) (v := 623) hE dX12_reckonAll_334 flX12_109 rfl at603 rfl ?_
        refine v_iload_n (pc := 337) dX12_reckonAll_337 3 rfl ?_
        refine v_iconst (pc := 338) dX12_reckonAll_338 (by decide) ?_
        obtain ⟨o2, h⟩ := h
        refine m_isub (pc := 339) dX12_reckonAll_339 o2 ?_
        obtain ⟨o3, h⟩ := h
        refine m_lald (pc := 340) (v := (mem 623 (x3 - 1))) dX12_reckonAll_340 at623 o3.1 o3.2 rfl ?_
        refine v_iload (pc := 341) dX12_reckonAll_341 4 rfl ?_
        refine v_bipush (pc := 343) dX12_reckonAll_343 (by decide) ?_
        refine v_icmpne (pc := 345) (tgt := 352) dX12_reckonAll_345 (by decide) (fun c1 => ?_) (fun c1 => ?_)
        · have h := h.1 c1
          refine v_lconst1 (pc := 352) dX12_reckonAll_352 ?_
          refine v_lcmpne (pc := 353) (tgt := 364) dX12_reckonAll_353 dX12_reckonAll_354 (by decide) (fun c1 => ?_) (fun c1 => ?_)
          · have h := h.1 c1
            obtain ⟨o4, h⟩ := h
            refine m_iinc (pc := 364) (al2 := [(3, aI (x3 + (-1))), (4, aI (x4 + 1)), (0, aR 603), (2, aI p1), (5, aI x5), (6, aI x6)]) dX12_reckonAll_364 3 rfl (by decide) o4 rfl ?_
            exact VG_sub (al' := [(0, aR 603), (2, aI p1), (3, aI (x3 + (-1))), (4, aI (x4 + 1))]) [2, 3, 0, 1] rfl h
          · have h := h.2 c1
            refine v_iload (pc := 357) dX12_reckonAll_357 5 rfl ?_
            refine v_istore (pc := 359) (al2 := [(4, aI x6), (0, aR 603), (2, aI p1), (3, aI x3), (5, aI x5), (6, aI x6)]) dX12_reckonAll_359 (by decide) rfl ?_
            refine v_goto (pc := 361) (tgt := 367) dX12_reckonAll_361 (by decide) ?_
            exact VG_sub (al' := [(0, aR 603), (2, aI p1), (3, aI x3), (4, aI x6)]) [1, 2, 3, 0] rfl h
        · have h := h.2 c1
          refine v_lconst0 (pc := 348) dX12_reckonAll_348 ?_
          refine v_goto (pc := 349) (tgt := 353) dX12_reckonAll_349 (by decide) ?_
          refine v_lcmpne (pc := 353) (tgt := 364) dX12_reckonAll_353 dX12_reckonAll_354 (by decide) (fun c1 => ?_) (fun c1 => ?_)
          · have h := h.1 c1
            obtain ⟨o5, h⟩ := h
            refine m_iinc (pc := 364) (al2 := [(3, aI (x3 + (-1))), (4, aI (x4 + 1)), (0, aR 603), (2, aI p1), (5, aI x5), (6, aI x6)]) dX12_reckonAll_364 3 rfl (by decide) o5 rfl ?_
            exact VG_sub (al' := [(0, aR 603), (2, aI p1), (3, aI (x3 + (-1))), (4, aI (x4 + 1))]) [2, 3, 0, 1] rfl h
          · have h := h.2 c1
            refine v_iload (pc := 357) dX12_reckonAll_357 5 rfl ?_
            refine v_istore (pc := 359) (al2 := [(4, aI x6), (0, aR 603), (2, aI p1), (3, aI x3), (5, aI x5), (6, aI x6)]) dX12_reckonAll_359 (by decide) rfl ?_
            refine v_goto (pc := 361) (tgt := 367) dX12_reckonAll_361 (by decide) ?_
            exact VG_sub (al' := [(0, aR 603), (2, aI p1), (3, aI x3), (4, aI x6)]) [1, 2, 3, 0] rfl h
      · have h := h.2 c1
        refine v_aload_n (pc := 312) dX12_reckonAll_312 1 rfl ?_
        refine m_getfin (pc := 313) (v := 623) hE dX12_reckonAll_313 flX12_109 rfl at603 rfl ?_
        refine v_iload_n (pc := 316) dX12_reckonAll_316 3 rfl ?_
        refine v_iconst (pc := 317) dX12_reckonAll_317 (by decide) ?_
        obtain ⟨o6, h⟩ := h
        refine m_isub (pc := 318) dX12_reckonAll_318 o6 ?_
        refine v_lconst1 (pc := 319) dX12_reckonAll_319 ?_
        refine v_aload_n (pc := 320) dX12_reckonAll_320 1 rfl ?_
        refine m_getfin (pc := 321) (v := 623) hE dX12_reckonAll_321 flX12_109 rfl at603 rfl ?_
        refine v_iload_n (pc := 324) dX12_reckonAll_324 3 rfl ?_
        refine v_iconst (pc := 325) dX12_reckonAll_325 (by decide) ?_
        refine m_isub (pc := 326) dX12_reckonAll_326 o6 ?_
        obtain ⟨o7, h⟩ := h
        refine m_lald (pc := 327) (v := (mem 623 (x3 - 1))) dX12_reckonAll_327 at623 o7.1 o7.2 rfl ?_
        obtain ⟨o8, h⟩ := h
        refine m_lsub (pc := 328) dX12_reckonAll_328 o8 ?_
        refine v_last (pc := 329) dX12_reckonAll_329 at623 o7.1 o7.2 ?_
        refine v_goto (pc := 330) (tgt := 367) dX12_reckonAll_330 (by decide) ?_
        exact VG_sub (al' := [(0, aR 603), (2, aI p1), (3, aI x3), (4, aI (x4 + 1))]) [1, 2, 3, 0] rfl h
    · have h := h.2 c1
      obtain ⟨o9, h⟩ := h
      refine m_iinc (pc := 235) (al2 := [(3, aI (x3 + (-1))), (4, aI (x4 + 1)), (0, aR 603), (2, aI p1), (5, aI x5), (6, aI x6)]) dX12_reckonAll_235 3 rfl (by decide) o9 rfl ?_
      refine v_aload_n (pc := 238) dX12_reckonAll_238 2 rfl ?_
      refine m_getfin (pc := 239) (v := 623) hE dX12_reckonAll_239 flX12_109 rfl at603 rfl ?_
      refine v_iload_n (pc := 242) dX12_reckonAll_242 0 rfl ?_
      refine v_iconst (pc := 243) dX12_reckonAll_243 (by decide) ?_
      obtain ⟨o10, h⟩ := h
      refine m_isub (pc := 244) dX12_reckonAll_244 o10 ?_
      refine v_aload_n (pc := 245) dX12_reckonAll_245 2 rfl ?_
      refine v_iload (pc := 246) dX12_reckonAll_246 4 rfl ?_
      refine v_aload_n (pc := 248) dX12_reckonAll_248 2 rfl ?_
      refine m_getfin (pc := 249) (v := 623) hE dX12_reckonAll_249 flX12_109 rfl at603 rfl ?_
      refine v_iload_n (pc := 252) dX12_reckonAll_252 0 rfl ?_
      refine v_iconst (pc := 253) dX12_reckonAll_253 (by decide) ?_
      refine m_isub (pc := 254) dX12_reckonAll_254 o10 ?_
      obtain ⟨o11, h⟩ := h
      refine m_lald (pc := 255) (v := (mem 623 ((x3 + (-1)) - 1))) dX12_reckonAll_255 at623 o11.1 o11.2 rfl ?_
      refine v_aload_n (pc := 256) dX12_reckonAll_256 2 rfl ?_
      refine m_getfin (pc := 257) (v := 623) hE dX12_reckonAll_257 flX12_109 rfl at603 rfl ?_
      refine v_iload_n (pc := 260) dX12_reckonAll_260 0 rfl ?_
      obtain ⟨o12, h⟩ := h
      refine m_lald (pc := 261) (v := (mem 623 (x3 + (-1)))) dX12_reckonAll_261 at623 o12.1 o12.2 rfl ?_
      refine m_invL (pc := 262) (mi' := mX12_reckon) (rest := [aI ((x3 + (-1)) - 1), aR 623]) [aI x5, aL (mem 623 ((x3 + (-1)) - 1)), aL (mem 623 (x3 + (-1)))] dX12_reckonAll_262 at603 (by decide) rfl msX12_reckon mvX12_reckon lkX12_395 rfl (Nat.le_of_ble_eq_true rfl) (fun hn => CL_mono (h (aaI hn 1 rfl) (aaL hn 2 rfl) (aaL hn 3 rfl)) (fun r14 m13 h => ?_))
      refine v_last (pc := 265) dX12_reckonAll_265 at623 o11.1 o11.2 ?_
      refine v_aload_n (pc := 266) dX12_reckonAll_266 2 rfl ?_
      refine v_aload_n (pc := 267) dX12_reckonAll_267 2 rfl ?_
      refine m_getf (pc := 268) (t := 0) (v := (m13 603 38)) dX12_reckonAll_268 flX12_389 rfl at603 (aUp_rn (by omega)) ?_
      refine v_ifne (pc := 271) (tgt := 294) dX12_reckonAll_271 (by decide) (fun c1 => ?_) (fun c1 => ?_)
      · have h := h.1 c1
        refine v_iconst (pc := 294) dX12_reckonAll_294 (by decide) ?_
        refine v_goto (pc := 295) (tgt := 299) dX12_reckonAll_295 (by decide) ?_
        refine v_putf (pc := 299) dX12_reckonAll_299 flX12_389 ⟨_, _, rfl, Or.inl rfl⟩ rfl (by decide) (fun _ => by decide) (Or.inl fun _ => rfl) at603 ?_
        refine v_goto (pc := 302) (tgt := 367) dX12_reckonAll_302 (by decide) ?_
        exact VG_sub (al' := [(0, aR 603), (2, aI p1), (3, aI (x3 + (-1))), (4, aI (x4 + 1))]) [2, 3, 0, 1] rfl h
      · have h := h.2 c1
        refine v_aload_n (pc := 274) dX12_reckonAll_274 2 rfl ?_
        refine m_getfin (pc := 275) (v := 623) hE dX12_reckonAll_275 flX12_109 rfl at603 rfl ?_
        refine v_iload_n (pc := 278) dX12_reckonAll_278 0 rfl ?_
        refine v_iconst (pc := 279) dX12_reckonAll_279 (by decide) ?_
        refine m_isub (pc := 280) dX12_reckonAll_280 o10 ?_
        refine m_lald (pc := 281) (v := r14) dX12_reckonAll_281 at623 o11.1 o11.2 (aUp_re) ?_
        refine v_ldc2 (pc := 282) (n := (-1000000000)) dX12_reckonAll_282 cnX12_399 (by decide) ?_
        refine v_ldc2 (pc := 285) (n := 1000000000) dX12_reckonAll_285 cnX12_401 (by decide) ?_
        refine m_invSI (pc := 288) (mi' := mX12_in) (rest := [aR 603]) [aL r14, aL (-1000000000), aL 1000000000] dX12_reckonAll_288 msX12_in stX12_in lkX12_182 rfl (Nat.le_of_ble_eq_true rfl) (fun hn => CI_mono (h (aaL hn 0 rfl)) (fun r16 m15 h => ?_))
        refine v_ifne (pc := 291) (tgt := 298) dX12_reckonAll_291 (by decide) (fun c1 => ?_) (fun c1 => ?_)
        · have h := h.1 c1
          refine v_iconst (pc := 298) dX12_reckonAll_298 (by decide) ?_
          refine v_putf (pc := 299) dX12_reckonAll_299 flX12_389 ⟨_, _, rfl, Or.inl rfl⟩ rfl (by decide) (fun _ => by decide) (Or.inl fun _ => rfl) at603 ?_
          refine v_goto (pc := 302) (tgt := 367) dX12_reckonAll_302 (by decide) ?_
          exact VG_sub (al' := [(0, aR 603), (2, aI p1), (3, aI (x3 + (-1))), (4, aI (x4 + 1))]) [2, 3, 0, 1] rfl h
        · have h := h.2 c1
          refine v_iconst (pc := 294) dX12_reckonAll_294 (by decide) ?_
          refine v_goto (pc := 295) (tgt := 299) dX12_reckonAll_295 (by decide) ?_
          refine v_putf (pc := 299) dX12_reckonAll_299 flX12_389 ⟨_, _, rfl, Or.inl rfl⟩ rfl (by decide) (fun _ => by decide) (Or.inl fun _ => rfl) at603 ?_
          refine v_goto (pc := 302) (tgt := 367) dX12_reckonAll_302 (by decide) ?_
          exact VG_sub (al' := [(0, aR 603), (2, aI p1), (3, aI (x3 + (-1))), (4, aI (x4 + 1))]) [2, 3, 0, 1] rfl h
  · have h := h.2 c1
    refine v_aload_n (pc := 107) dX12_reckonAll_107 1 rfl ?_
    refine m_getfin (pc := 108) (v := 623) hE dX12_reckonAll_108 flX12_109 rfl at603 rfl ?_
    refine v_iload_n (pc := 111) dX12_reckonAll_111 3 rfl ?_
    refine v_iload (pc := 112) dX12_reckonAll_112 4 rfl ?_
    refine v_ifne (pc := 114) (tgt := 123) dX12_reckonAll_114 (by decide) (fun c1 => ?_) (fun c1 => ?_)
    · have h := h.1 c1
      refine v_aload_n (pc := 123) dX12_reckonAll_123 1 rfl ?_
      refine m_getf (pc := 124) (t := 0) (v := (mem 603 20)) dX12_reckonAll_124 flX12_317 rfl at603 rfl ?_
      refine v_ifne (pc := 127) (tgt := 140) dX12_reckonAll_127 (by decide) (fun c1 => ?_) (fun c1 => ?_)
      · have h := h.1 c1
        refine v_iload (pc := 140) dX12_reckonAll_140 4 rfl ?_
        refine v_iconst (pc := 142) dX12_reckonAll_142 (by decide) ?_
        refine v_icmpge (pc := 143) (tgt := 156) dX12_reckonAll_143 (by decide) (fun c1 => ?_) (fun c1 => ?_)
        · have h := h.1 c1
          refine v_iload (pc := 156) dX12_reckonAll_156 4 rfl ?_
          refine v_iconst (pc := 158) dX12_reckonAll_158 (by decide) ?_
          refine v_icmpne (pc := 159) (tgt := 189) dX12_reckonAll_159 (by decide) (fun c1 => ?_) (fun c1 => ?_)
          · have h := h.1 c1
            refine v_iload (pc := 189) dX12_reckonAll_189 4 rfl ?_
            refine v_bipush (pc := 191) dX12_reckonAll_191 (by decide) ?_
            refine v_icmpne (pc := 193) (tgt := 210) dX12_reckonAll_193 (by decide) (fun c1 => ?_) (fun c1 => ?_)
            · have h := h.1 c1
              refine v_aload_n (pc := 210) dX12_reckonAll_210 1 rfl ?_
              refine m_getfin (pc := 211) (v := 605) hE dX12_reckonAll_211 flX12_13 rfl at603 rfl ?_
              refine v_bipush (pc := 214) dX12_reckonAll_214 (by decide) ?_
              refine v_iload (pc := 216) dX12_reckonAll_216 5 rfl ?_
              obtain ⟨o17, h⟩ := h
              refine m_iadd (pc := 218) dX12_reckonAll_218 o17 ?_
              obtain ⟨o18, h⟩ := h
              refine m_iald (pc := 219) (v := (mem 605 (48 + x6))) dX12_reckonAll_219 at605 o18.1 o18.2 rfl ?_
              refine v_i2l (pc := 220) dX12_reckonAll_220 ?_
              obtain ⟨o19, h⟩ := h
              refine v_last (pc := 221) dX12_reckonAll_221 at623 o19.1 o19.2 ?_
              obtain ⟨o20, h⟩ := h
              refine m_iinc (pc := 222) (al2 := [(3, aI (x3 + 1)), (4, aI (x4 + 1)), (0, aR 603), (2, aI p1), (5, aI x5), (6, aI x6)]) dX12_reckonAll_222 3 rfl (by decide) o20 rfl ?_
              refine v_goto (pc := 225) (tgt := 367) dX12_reckonAll_225 (by decide) ?_
              exact VG_sub (al' := [(0, aR 603), (2, aI p1), (3, aI (x3 + 1)), (4, aI (x4 + 1))]) [2, 3, 0, 1] rfl h
            · have h := h.2 c1
              refine v_aload_n (pc := 196) dX12_reckonAll_196 1 rfl ?_
              refine m_getfin (pc := 197) (v := 605) hE dX12_reckonAll_197 flX12_13 rfl at603 rfl ?_
              refine v_bipush (pc := 200) dX12_reckonAll_200 (by decide) ?_
              refine v_iload (pc := 202) dX12_reckonAll_202 5 rfl ?_
              obtain ⟨o21, h⟩ := h
              refine m_iadd (pc := 204) dX12_reckonAll_204 o21 ?_
              obtain ⟨o22, h⟩ := h
              refine m_iald (pc := 205) (v := (mem 605 (80 + x6))) dX12_reckonAll_205 at605 o22.1 o22.2 rfl ?_
              refine v_i2l (pc := 206) dX12_reckonAll_206 ?_
              refine v_goto (pc := 207) (tgt := 221) dX12_reckonAll_207 (by decide) ?_
              obtain ⟨o23, h⟩ := h
              refine v_last (pc := 221) dX12_reckonAll_221 at623 o23.1 o23.2 ?_
              obtain ⟨o24, h⟩ := h
              refine m_iinc (pc := 222) (al2 := [(3, aI (x3 + 1)), (4, aI (x4 + 1)), (0, aR 603), (2, aI p1), (5, aI x5), (6, aI x6)]) dX12_reckonAll_222 3 rfl (by decide) o24 rfl ?_
              refine v_goto (pc := 225) (tgt := 367) dX12_reckonAll_225 (by decide) ?_
              exact VG_sub (al' := [(0, aR 603), (2, aI p1), (3, aI (x3 + 1)), (4, aI (x4 + 1))]) [2, 3, 0, 1] rfl h
          · have h := h.2 c1
            refine v_aload_n (pc := 162) dX12_reckonAll_162 1 rfl ?_
            refine v_iload (pc := 163) dX12_reckonAll_163 5 rfl ?_
            refine m_invI (pc := 165) (mi' := mX12_isPlot) (rest := [aI x3, aR 623]) [aI x6] dX12_reckonAll_165 at603 (by decide) rfl msX12_isPlot mvX12_isPlot lkX12_214 rfl (Nat.le_of_ble_eq_true rfl) (fun hn => CI_mono (h (aaI hn 1 rfl)) (fun r26 m25 h => ?_))
            refine v_ifeq (pc := 168) (tgt := 184) dX12_reckonAll_168 (by decide) (fun c1 => ?_) (fun c1 => ?_)
            · have h := h.1 c1
              refine v_iconst (pc := 184) dX12_reckonAll_184 (by decide) ?_
              refine v_i2l (pc := 185) dX12_reckonAll_185 ?_
              refine v_goto (pc := 186) (tgt := 221) dX12_reckonAll_186 (by decide) ?_
              obtain ⟨o27, h⟩ := h
              refine v_last (pc := 221) dX12_reckonAll_221 at623 o27.1 o27.2 ?_
              obtain ⟨o28, h⟩ := h
              refine m_iinc (pc := 222) (al2 := [(3, aI (x3 + 1)), (4, aI (x4 + 1)), (0, aR 603), (2, aI p1), (5, aI x5), (6, aI x6)]) dX12_reckonAll_222 3 rfl (by decide) o28 rfl ?_
              refine v_goto (pc := 225) (tgt := 367) dX12_reckonAll_225 (by decide) ?_
              exact VG_sub (al' := [(0, aR 603), (2, aI p1), (3, aI (x3 + 1)), (4, aI (x4 + 1))]) [2, 3, 0, 1] rfl h
            · have h := h.2 c1
              refine v_aload_n (pc := 171) dX12_reckonAll_171 1 rfl ?_
              refine m_getfin (pc := 172) (v := 605) hE dX12_reckonAll_172 flX12_13 rfl at603 rfl ?_
              refine v_bipush (pc := 175) dX12_reckonAll_175 (by decide) ?_
              refine v_iload (pc := 177) dX12_reckonAll_177 5 rfl ?_
              obtain ⟨o29, h⟩ := h
              refine m_iadd (pc := 179) dX12_reckonAll_179 o29 ?_
              obtain ⟨o30, h⟩ := h
              refine m_iald (pc := 180) (v := (m25 605 (8 + x6))) dX12_reckonAll_180 at605 o30.1 o30.2 rfl ?_
              refine v_goto (pc := 181) (tgt := 185) dX12_reckonAll_181 (by decide) ?_
              refine v_i2l (pc := 185) dX12_reckonAll_185 ?_
              refine v_goto (pc := 186) (tgt := 221) dX12_reckonAll_186 (by decide) ?_
              obtain ⟨o31, h⟩ := h
              refine v_last (pc := 221) dX12_reckonAll_221 at623 o31.1 o31.2 ?_
              obtain ⟨o32, h⟩ := h
              refine m_iinc (pc := 222) (al2 := [(3, aI (x3 + 1)), (4, aI (x4 + 1)), (0, aR 603), (2, aI p1), (5, aI x5), (6, aI x6)]) dX12_reckonAll_222 3 rfl (by decide) o32 rfl ?_
              refine v_goto (pc := 225) (tgt := 367) dX12_reckonAll_225 (by decide) ?_
              exact VG_sub (al' := [(0, aR 603), (2, aI p1), (3, aI (x3 + 1)), (4, aI (x4 + 1))]) [2, 3, 0, 1] rfl h
        · have h := h.2 c1
          refine v_aload_n (pc := 146) dX12_reckonAll_146 1 rfl ?_
          refine m_getfin (pc := 147) (v := 622) hE dX12_reckonAll_147 flX12_106 rfl at603 rfl ?_
          refine v_iload (pc := 150) dX12_reckonAll_150 4 rfl ?_
          obtain ⟨o33, h⟩ := h
          refine m_lald (pc := 152) (v := (mem 622 x5)) dX12_reckonAll_152 at622 o33.1 o33.2 rfl ?_
          refine v_goto (pc := 153) (tgt := 221) dX12_reckonAll_153 (by decide) ?_
          obtain ⟨o34, h⟩ := h
          refine v_last (pc := 221) dX12_reckonAll_221 at623 o34.1 o34.2 ?_
          obtain ⟨o35, h⟩ := h
          refine m_iinc (pc := 222) (al2 := [(3, aI (x3 + 1)), (4, aI (x4 + 1)), (0, aR 603), (2, aI p1), (5, aI x5), (6, aI x6)]) dX12_reckonAll_222 3 rfl (by decide) o35 rfl ?_
          refine v_goto (pc := 225) (tgt := 367) dX12_reckonAll_225 (by decide) ?_
          exact VG_sub (al' := [(0, aR 603), (2, aI p1), (3, aI (x3 + 1)), (4, aI (x4 + 1))]) [2, 3, 0, 1] rfl h
      · have h := h.2 c1
        refine v_aload_n (pc := 130) dX12_reckonAll_130 1 rfl ?_
        refine m_getfin (pc := 131) (v := 621) hE dX12_reckonAll_131 flX12_103 rfl at603 rfl ?_
        refine v_iload (pc := 134) dX12_reckonAll_134 4 rfl ?_
        obtain ⟨o36, h⟩ := h
        refine m_lald (pc := 136) (v := (mem 621 x5)) dX12_reckonAll_136 at621 o36.1 o36.2 rfl ?_
        refine v_goto (pc := 137) (tgt := 221) dX12_reckonAll_137 (by decide) ?_
        obtain ⟨o37, h⟩ := h
        refine v_last (pc := 221) dX12_reckonAll_221 at623 o37.1 o37.2 ?_
        obtain ⟨o38, h⟩ := h
        refine m_iinc (pc := 222) (al2 := [(3, aI (x3 + 1)), (4, aI (x4 + 1)), (0, aR 603), (2, aI p1), (5, aI x5), (6, aI x6)]) dX12_reckonAll_222 3 rfl (by decide) o38 rfl ?_
        refine v_goto (pc := 225) (tgt := 367) dX12_reckonAll_225 (by decide) ?_
        exact VG_sub (al' := [(0, aR 603), (2, aI p1), (3, aI (x3 + 1)), (4, aI (x4 + 1))]) [2, 3, 0, 1] rfl h
    · have h := h.2 c1
      refine v_iload (pc := 117) dX12_reckonAll_117 5 rfl ?_
      refine v_i2l (pc := 119) dX12_reckonAll_119 ?_
      refine v_goto (pc := 120) (tgt := 221) dX12_reckonAll_120 (by decide) ?_
      obtain ⟨o39, h⟩ := h
      refine v_last (pc := 221) dX12_reckonAll_221 at623 o39.1 o39.2 ?_
      obtain ⟨o40, h⟩ := h
      refine m_iinc (pc := 222) (al2 := [(3, aI (x3 + 1)), (4, aI (x4 + 1)), (0, aR 603), (2, aI p1), (5, aI x5), (6, aI x6)]) dX12_reckonAll_222 3 rfl (by decide) o40 rfl ?_
      refine v_goto (pc := 225) (tgt := 367) dX12_reckonAll_225 (by decide) ?_
      exact VG_sub (al' := [(0, aR 603), (2, aI p1), (3, aI (x3 + 1)), (4, aI (x4 + 1))]) [2, 3, 0, 1] rfl h
set_option maxRecDepth 20000 in
theorem rjX12_reckonAll_367 {E : EN} (hE : Ep E) {k : Nat} {mem : Mm} {Q : Mm → Prop} {p0 p1 x3 x4 : Int}
    (h : VM E mX12_reckonAll (k + 1) mem 10 [(0, aR 603), (2, aI p1), (3, aI x3), (4, aI x4)] [] (retV Q)) :
    VM E mX12_reckonAll (k + 1) mem 367 [(0, aR 603), (2, aI p1), (3, aI x3), (4, aI x4)] [] (retV Q) := by
  refine v_goto (pc := 367) (tgt := 10) dX12_reckonAll_367 (by decide) ?_
  exact VG_sub (al' := [(0, aR 603), (2, aI p1), (3, aI x3), (4, aI x4)]) [0, 1, 2, 3] rfl h

theorem rjX12_sumOf_0 {E : EN} (hE : Ep E) {k : Nat} {mem : Mm} {Q : Int → Mm → Prop} {p0 : Int}
    (h : ((¬ (mem 603 57) = 0 → Q (-1) mem) ∧ ((mem 603 57) = 0 → (0 ≤ p0 ∧ p0 < 96) ∧ (R32 (p0 + 1)) ∧ (0 ≤ (p0 + 1) ∧ (p0 + 1) < 96) ∧ ((¬ (mem 634 p0) = (mem 634 (p0 + 1)) → (R32 (mem 634 p0) → R32 (mem 634 (p0 + 1)) → CV E mX12_reckonAll k (aUp mem 603 20 1) [aR 603, aI (mem 634 p0), aI (mem 634 (p0 + 1))] (fun m4 => ((m4 603 38) = 0 ∨ (m4 603 38) = 1) ∧ Q (w32 (m4 603 39)) (aUp (aUp m4 603 20 0) 603 57 (m4 603 38))))) ∧ ((mem 634 p0) = (mem 634 (p0 + 1)) → Q (-1) mem))))) :
    VM E mX12_sumOf (k + 1) mem 0 [(0, aR 603), (1, aI p0)] [] (retI Q) := by
  refine v_aload_n (pc := 0) dX12_sumOf_0 0 rfl ?_
  refine m_getf (pc := 1) (t := 0) (v := (mem 603 57)) dX12_sumOf_1 flX12_516 rfl at603 rfl ?_
  refine v_ifne (pc := 4) (tgt := 24) dX12_sumOf_4 (by decide) (fun c1 => ?_) (fun c1 => ?_)
  · have h := h.1 c1
    refine v_iconst (pc := 24) dX12_sumOf_24 (by decide) ?_
    exact m_retI (pc := 25) dX12_sumOf_25 rfl h
  · have h := h.2 c1
    refine v_aload_n (pc := 7) dX12_sumOf_7 0 rfl ?_
    refine m_getfin (pc := 8) (v := 634) hE dX12_sumOf_8 flX12_150 rfl at603 rfl ?_
    refine v_iload_n (pc := 11) dX12_sumOf_11 1 rfl ?_
    obtain ⟨o1, h⟩ := h
    refine m_iald (pc := 12) (v := (mem 634 p0)) dX12_sumOf_12 at634 o1.1 o1.2 rfl ?_
    refine v_aload_n (pc := 13) dX12_sumOf_13 0 rfl ?_
    refine m_getfin (pc := 14) (v := 634) hE dX12_sumOf_14 flX12_150 rfl at603 rfl ?_
    refine v_iload_n (pc := 17) dX12_sumOf_17 1 rfl ?_
    refine v_iconst (pc := 18) dX12_sumOf_18 (by decide) ?_
    obtain ⟨o2, h⟩ := h
    refine m_iadd (pc := 19) dX12_sumOf_19 o2 ?_
    obtain ⟨o3, h⟩ := h
    refine m_iald (pc := 20) (v := (mem 634 (p0 + 1))) dX12_sumOf_20 at634 o3.1 o3.2 rfl ?_
    refine v_icmpne (pc := 21) (tgt := 26) dX12_sumOf_21 (by decide) (fun c1 => ?_) (fun c1 => ?_)
    · have h := h.1 c1
      refine v_aload_n (pc := 26) dX12_sumOf_26 0 rfl ?_
      refine v_iconst (pc := 27) dX12_sumOf_27 (by decide) ?_
      refine v_putf (pc := 28) dX12_sumOf_28 flX12_317 ⟨_, _, rfl, Or.inl rfl⟩ rfl (by decide) (fun _ => by decide) (Or.inl fun _ => rfl) at603 ?_
      refine v_aload_n (pc := 31) dX12_sumOf_31 0 rfl ?_
      refine v_aload_n (pc := 32) dX12_sumOf_32 0 rfl ?_
      refine m_getfin (pc := 33) (v := 634) hE dX12_sumOf_33 flX12_150 rfl at603 rfl ?_
      refine v_iload_n (pc := 36) dX12_sumOf_36 1 rfl ?_
      refine m_iald (pc := 37) (v := (mem 634 p0)) dX12_sumOf_37 at634 o1.1 o1.2 (aUp_rn (by omega)) ?_
      refine v_aload_n (pc := 38) dX12_sumOf_38 0 rfl ?_
      refine m_getfin (pc := 39) (v := 634) hE dX12_sumOf_39 flX12_150 rfl at603 rfl ?_
      refine v_iload_n (pc := 42) dX12_sumOf_42 1 rfl ?_
      refine v_iconst (pc := 43) dX12_sumOf_43 (by decide) ?_
      refine m_iadd (pc := 44) dX12_sumOf_44 o2 ?_
      refine m_iald (pc := 45) (v := (mem 634 (p0 + 1))) dX12_sumOf_45 at634 o3.1 o3.2 (aUp_rn (by omega)) ?_
      refine m_invV (pc := 46) (mi' := mX12_reckonAll) (rest := []) [aI (mem 634 p0), aI (mem 634 (p0 + 1))] dX12_sumOf_46 at603 (by decide) rfl msX12_reckonAll mvX12_reckonAll lkX12_406 rfl (Nat.le_of_ble_eq_true rfl) (fun hn => CV_mono (h (aaI hn 1 rfl) (aaI hn 2 rfl)) (fun m4 h => ?_))
      refine v_aload_n (pc := 49) dX12_sumOf_49 0 rfl ?_
      refine v_iconst (pc := 50) dX12_sumOf_50 (by decide) ?_
      refine v_putf (pc := 51) dX12_sumOf_51 flX12_317 ⟨_, _, rfl, Or.inl rfl⟩ rfl (by decide) (fun _ => by decide) (Or.inl fun _ => rfl) at603 ?_
      refine v_aload_n (pc := 54) dX12_sumOf_54 0 rfl ?_
      refine v_aload_n (pc := 55) dX12_sumOf_55 0 rfl ?_
      refine m_getf (pc := 56) (t := 0) (v := (m4 603 38)) dX12_sumOf_56 flX12_389 rfl at603 (aUp_ri (by decide)) ?_
      obtain ⟨o5, h⟩ := h
      refine v_putf (pc := 59) dX12_sumOf_59 flX12_516 ⟨_, _, rfl, Or.inl rfl⟩ rfl (by decide) (fun _ => o5) (Or.inl fun _ => rfl) at603 ?_
      refine v_aload_n (pc := 62) dX12_sumOf_62 0 rfl ?_
      refine m_getf (pc := 63) (t := 1) (v := (m4 603 39)) dX12_sumOf_63 flX12_403 rfl at603 ((aUp_ri (by decide)).trans (aUp_ri (by decide))) ?_
      refine v_l2i (pc := 66) dX12_sumOf_66 ?_
      exact m_retI (pc := 67) dX12_sumOf_67 rfl h
    · have h := h.2 c1
      refine v_iconst (pc := 24) dX12_sumOf_24 (by decide) ?_
      exact m_retI (pc := 25) dX12_sumOf_25 rfl h
