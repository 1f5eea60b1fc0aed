theorem dX12_hidden_0 : decode cX12_hidden 0 = .ok (.aload_n 0, 1) := by decide +kernel
theorem dX12_hidden_1 : decode cX12_hidden 1 = .ok (.iconst 0, 1) := by decide +kernel
theorem dX12_hidden_2 : decode cX12_hidden 2 = .ok (.putfield 162, 3) := by decide +kernel
theorem dX12_hidden_5 : decode cX12_hidden 5 = .ok (.aload_n 0, 1) := by decide +kernel
theorem dX12_hidden_6 : decode cX12_hidden 6 = .ok (.getfield 13, 3) := by decide +kernel
theorem dX12_hidden_9 : decode cX12_hidden 9 = .ok (.bipush 7, 2) := by decide +kernel
theorem dX12_hidden_11 : decode cX12_hidden 11 = .ok (.iaload, 1) := by decide +kernel
theorem dX12_hidden_12 : decode cX12_hidden 12 = .ok (.bipush 10, 2) := by decide +kernel
theorem dX12_hidden_14 : decode cX12_hidden 14 = .ok (.if_icmp .ne 5, 3) := by decide +kernel
theorem dX12_hidden_17 : decode cX12_hidden 17 = .ok (.iconst (-1), 1) := by decide +kernel
theorem dX12_hidden_18 : decode cX12_hidden 18 = .ok (.ireturn, 1) := by decide +kernel
theorem dX12_hidden_19 : decode cX12_hidden 19 = .ok (.iconst 0, 1) := by decide +kernel
theorem dX12_hidden_20 : decode cX12_hidden 20 = .ok (.istore_n 2, 1) := by decide +kernel
theorem dX12_hidden_21 : decode cX12_hidden 21 = .ok (.iconst (-1), 1) := by decide +kernel
theorem dX12_hidden_22 : decode cX12_hidden 22 = .ok (.istore_n 3, 1) := by decide +kernel
theorem dX12_hidden_23 : decode cX12_hidden 23 = .ok (.iconst 0, 1) := by decide +kernel
theorem dX12_hidden_24 : decode cX12_hidden 24 = .ok (.istore 4, 2) := by decide +kernel
theorem dX12_hidden_26 : decode cX12_hidden 26 = .ok (.iload 4, 2) := by decide +kernel
theorem dX12_hidden_28 : decode cX12_hidden 28 = .ok (.bipush 32, 2) := by decide +kernel
theorem dX12_hidden_30 : decode cX12_hidden 30 = .ok (.if_icmp .ge 33, 3) := by decide +kernel
theorem dX12_hidden_33 : decode cX12_hidden 33 = .ok (.aload_n 0, 1) := by decide +kernel
theorem dX12_hidden_34 : decode cX12_hidden 34 = .ok (.iload 4, 2) := by decide +kernel
theorem dX12_hidden_36 : decode cX12_hidden 36 = .ok (.invokevirtual 508, 3) := by decide +kernel
theorem dX12_hidden_39 : decode cX12_hidden 39 = .ok (.ifCond .eq 18, 3) := by decide +kernel
theorem dX12_hidden_42 : decode cX12_hidden 42 = .ok (.iload_n 2, 1) := by decide +kernel
theorem dX12_hidden_43 : decode cX12_hidden 43 = .ok (.iload_n 1, 1) := by decide +kernel
theorem dX12_hidden_44 : decode cX12_hidden 44 = .ok (.if_icmp .ne 8, 3) := by decide +kernel
theorem dX12_hidden_47 : decode cX12_hidden 47 = .ok (.iload 4, 2) := by decide +kernel
theorem dX12_hidden_49 : decode cX12_hidden 49 = .ok (.goto 4, 3) := by decide +kernel
theorem dX12_hidden_52 : decode cX12_hidden 52 = .ok (.iload_n 3, 1) := by decide +kernel
theorem dX12_hidden_53 : decode cX12_hidden 53 = .ok (.istore_n 3, 1) := by decide +kernel
theorem dX12_hidden_54 : decode cX12_hidden 54 = .ok (.iinc 2 1, 3) := by decide +kernel
theorem dX12_hidden_57 : decode cX12_hidden 57 = .ok (.iinc 4 1, 3) := by decide +kernel
theorem dX12_hidden_60 : decode cX12_hidden 60 = .ok (.goto (-34), 3) := by decide +kernel
theorem dX12_hidden_63 : decode cX12_hidden 63 = .ok (.iload_n 1, 1) := by decide +kernel
theorem dX12_hidden_64 : decode cX12_hidden 64 = .ok (.iconst (-1), 1) := by decide +kernel
theorem dX12_hidden_65 : decode cX12_hidden 65 = .ok (.if_icmp .ne 7, 3) := by decide +kernel
theorem dX12_hidden_68 : decode cX12_hidden 68 = .ok (.iload_n 2, 1) := by decide +kernel
theorem dX12_hidden_69 : decode cX12_hidden 69 = .ok (.goto 4, 3) := by decide +kernel
theorem dX12_hidden_72 : decode cX12_hidden 72 = .ok (.iload_n 3, 1) := by decide +kernel
theorem dX12_hidden_73 : decode cX12_hidden 73 = .ok (.ireturn, 1) := by decide +kernel
set_option maxRecDepth 20000 in
theorem rX12_hidden_0 {E : EN} (hE : Ep E) {k : Nat} {mem : Mm} {Q : Int → Mm → Prop} {p0 : Int}
    (h : ((¬ (mem 605 7) = 10 → VM E mX12_hidden (k + 1) (aUp mem 603 0 0) 26 [(0, aR 603), (1, aI p0), (2, aI 0), (3, aI (-1)), (4, aI 0)] [] (retI Q)) ∧ ((mem 605 7) = 10 → Q (-1) (aUp mem 603 0 0)))) :
    VM E mX12_hidden (k + 1) mem 0 [(0, aR 603), (1, aI p0)] [] (retI Q) := by
  refine v_aload_n (pc := 0) dX12_hidden_0 0 rfl ?_
  refine v_iconst (pc := 1) dX12_hidden_1 (by decide) ?_
  refine v_putf (pc := 2) dX12_hidden_2 flX12_162 ⟨_, _, rfl, Or.inl rfl⟩ rfl (by decide) (fun q => nomatch q) (Or.inl fun _ => rfl) at603 ?_
  refine v_aload_n (pc := 5) dX12_hidden_5 0 rfl ?_
  refine m_getfin (pc := 6) (v := 605) hE dX12_hidden_6 flX12_13 rfl at603 rfl ?_
  refine v_bipush (pc := 9) dX12_hidden_9 (by decide) ?_
  refine m_iald (pc := 11) (v := (mem 605 7)) dX12_hidden_11 at605 (by omega) (by omega) (aUp_rn (by omega)) ?_
  refine v_bipush (pc := 12) dX12_hidden_12 (by decide) ?_
  refine v_icmpne (pc := 14) (tgt := 19) dX12_hidden_14 (by decide) (fun c1 => ?_) (fun c1 => ?_)
  · have h := h.1 c1
    refine v_iconst (pc := 19) dX12_hidden_19 (by decide) ?_
    refine v_istore_n (pc := 20) (al2 := [(2, aI 0), (0, aR 603), (1, aI p0)]) dX12_hidden_20 (by decide) rfl ?_
    refine v_iconst (pc := 21) dX12_hidden_21 (by decide) ?_
    refine v_istore_n (pc := 22) (al2 := [(3, aI (-1)), (2, aI 0), (0, aR 603), (1, aI p0)]) dX12_hidden_22 (by decide) rfl ?_
    refine v_iconst (pc := 23) dX12_hidden_23 (by decide) ?_
    refine v_istore (pc := 24) (al2 := [(4, aI 0), (3, aI (-1)), (2, aI 0), (0, aR 603), (1, aI p0)]) dX12_hidden_24 (by decide) rfl ?_
    exact VG_sub (al' := [(0, aR 603), (1, aI p0), (2, aI 0), (3, aI (-1)), (4, aI 0)]) [3, 4, 2, 1, 0] rfl h
  · have h := h.2 c1
    refine v_iconst (pc := 17) dX12_hidden_17 (by decide) ?_
    exact m_retI (pc := 18) dX12_hidden_18 rfl h
theorem eX12_hidden {E : EN} {k : Nat} {mem : Mm} {Q : Int → Mm → Prop} {p0 : Int} (hr_p0 : R32 p0) (h : VM E mX12_hidden (k + 1) mem 0 [(0, aR 603), (1, aI p0)] [] (retI Q)) : CI E mX12_hidden (k + 1) mem [aR 603, aI p0] Q := CI_of rfl (Nat.le_of_ble_eq_true rfl) h (aNs_c (aNr_R _) (aNs_c (aNr_I hr_p0) (fun _ q => nomatch q)))
set_option maxRecDepth 20000 in
theorem rX12_hidden_26 {E : EN} (hE : Ep E) {k : Nat} {mem : Mm} {Q : Int → Mm → Prop} {p0 x2 x3 x4 : Int}
    (h : ((32 ≤ x4 → ((¬ p0 = (-1) → Q x3 mem) ∧ (p0 = (-1) → Q x2 mem))) ∧ (x4 < 32 → (R32 x4 → CI E mX12_isHidden k mem [aR 603, aI x4] (fun r2 m1 => ((r2 = 0 → (R32 (x4 + 1)) ∧ VM E mX12_hidden (k + 1) m1 26 [(0, aR 603), (1, aI p0), (2, aI x2), (3, aI x3), (4, aI (x4 + 1))] [] (retI Q)) ∧ (¬ r2 = 0 → ((¬ x2 = p0 → (R32 (x2 + 1)) ∧ (R32 (x4 + 1)) ∧ VM E mX12_hidden (k + 1) m1 26 [(0, aR 603), (1, aI p0), (2, aI (x2 + 1)), (3, aI x3), (4, aI (x4 + 1))] [] (retI Q)) ∧ (x2 = p0 → (R32 (x2 + 1)) ∧ (R32 (x4 + 1)) ∧ VM E mX12_hidden (k + 1) m1 26 [(0, aR 603), (1, aI p0), (2, aI (x2 + 1)), (3, aI x4), (4, aI (x4 + 1))] [] (retI Q)))))))))) :
    VM E mX12_hidden (k + 1) mem 26 [(0, aR 603), (1, aI p0), (2, aI x2), (3, aI x3), (4, aI x4)] [] (retI Q) := by
  refine v_iload (pc := 26) dX12_hidden_26 4 rfl ?_
  refine v_bipush (pc := 28) dX12_hidden_28 (by decide) ?_
  refine v_icmpge (pc := 30) (tgt := 63) dX12_hidden_30 (by decide) (fun c1 => ?_) (fun c1 => ?_)
  · have h := h.1 c1
    refine v_iload_n (pc := 63) dX12_hidden_63 1 rfl ?_
    refine v_iconst (pc := 64) dX12_hidden_64 (by decide) ?_
    refine v_icmpne (pc := 65) (tgt := 72) dX12_hidden_65 (by decide) (fun c1 => ?_) (fun c1 => ?_)
    · have h := h.1 c1
      refine v_iload_n (pc := 72) dX12_hidden_72 3 rfl ?_
      exact m_retI (pc := 73) dX12_hidden_73 rfl h
    · have h := h.2 c1
      refine v_iload_n (pc := 68) dX12_hidden_68 2 rfl ?_
      refine v_goto (pc := 69) (tgt := 73) dX12_hidden_69 (by decide) ?_
      exact m_retI (pc := 73) dX12_hidden_73 rfl h
  · have h := h.2 c1
    refine v_aload_n (pc := 33) dX12_hidden_33 0 rfl ?_
    refine v_iload (pc := 34) dX12_hidden_34 4 rfl ?_
    refine m_invI (pc := 36) (mi' := mX12_isHidden) (rest := []) [aI x4] dX12_hidden_36 at603 (by decide) rfl msX12_isHidden mvX12_isHidden lkX12_508 rfl (Nat.le_of_ble_eq_true rfl) (fun hn => CI_mono (h (aaI hn 1 rfl)) (fun r2 m1 h => ?_))
    refine v_ifeq (pc := 39) (tgt := 57) dX12_hidden_39 (by decide) (fun c1 => ?_) (fun c1 => ?_)
    · have h := h.1 c1
      obtain ⟨o3, h⟩ := h
      refine m_iinc (pc := 57) (al2 := [(4, aI (x4 + 1)), (0, aR 603), (1, aI p0), (2, aI x2), (3, aI x3)]) dX12_hidden_57 4 rfl (by decide) o3 rfl ?_
      refine v_goto (pc := 60) (tgt := 26) dX12_hidden_60 (by decide) ?_
      exact VG_sub (al' := [(0, aR 603), (1, aI p0), (2, aI x2), (3, aI x3), (4, aI (x4 + 1))]) [1, 2, 3, 4, 0] rfl h
    · have h := h.2 c1
      refine v_iload_n (pc := 42) dX12_hidden_42 2 rfl ?_
      refine v_iload_n (pc := 43) dX12_hidden_43 1 rfl ?_
      refine v_icmpne (pc := 44) (tgt := 52) dX12_hidden_44 (by decide) (fun c1 => ?_) (fun c1 => ?_)
      · have h := h.1 c1
        refine v_iload_n (pc := 52) dX12_hidden_52 3 rfl ?_
        refine v_istore_n (pc := 53) (al2 := [(3, aI x3), (0, aR 603), (1, aI p0), (2, aI x2), (4, aI x4)]) dX12_hidden_53 (by decide) rfl ?_
        obtain ⟨o4, h⟩ := h
        refine m_iinc (pc := 54) (al2 := [(2, aI (x2 + 1)), (3, aI x3), (0, aR 603), (1, aI p0), (4, aI x4)]) dX12_hidden_54 3 rfl (by decide) o4 rfl ?_
        obtain ⟨o5, h⟩ := h
        refine m_iinc (pc := 57) (al2 := [(4, aI (x4 + 1)), (2, aI (x2 + 1)), (3, aI x3), (0, aR 603), (1, aI p0)]) dX12_hidden_57 4 rfl (by decide) o5 rfl ?_
        refine v_goto (pc := 60) (tgt := 26) dX12_hidden_60 (by decide) ?_
        exact VG_sub (al' := [(0, aR 603), (1, aI p0), (2, aI (x2 + 1)), (3, aI x3), (4, aI (x4 + 1))]) [3, 4, 1, 2, 0] rfl h
      · have h := h.2 c1
        refine v_iload (pc := 47) dX12_hidden_47 4 rfl ?_
        refine v_goto (pc := 49) (tgt := 53) dX12_hidden_49 (by decide) ?_
        refine v_istore_n (pc := 53) (al2 := [(3, aI x4), (0, aR 603), (1, aI p0), (2, aI x2), (4, aI x4)]) dX12_hidden_53 (by decide) rfl ?_
        obtain ⟨o6, h⟩ := h
        refine m_iinc (pc := 54) (al2 := [(2, aI (x2 + 1)), (3, aI x4), (0, aR 603), (1, aI p0), (4, aI x4)]) dX12_hidden_54 3 rfl (by decide) o6 rfl ?_
        obtain ⟨o7, h⟩ := h
        refine m_iinc (pc := 57) (al2 := [(4, aI (x4 + 1)), (2, aI (x2 + 1)), (3, aI x4), (0, aR 603), (1, aI p0)]) dX12_hidden_57 4 rfl (by decide) o7 rfl ?_
        refine v_goto (pc := 60) (tgt := 26) dX12_hidden_60 (by decide) ?_
        exact VG_sub (al' := [(0, aR 603), (1, aI p0), (2, aI (x2 + 1)), (3, aI x4), (4, aI (x4 + 1))]) [3, 4, 1, 2, 0] rfl h

theorem dX12_spade_0 : decode cX12_spade 0 = .ok (.aload_n 0, 1) := by decide +kernel
theorem dX12_spade_1 : decode cX12_spade 1 = .ok (.iconst 0, 1) := by decide +kernel
theorem dX12_spade_2 : decode cX12_spade 2 = .ok (.putfield 162, 3) := by decide +kernel
theorem dX12_spade_5 : decode cX12_spade 5 = .ok (.iload_n 1, 1) := by decide +kernel
theorem dX12_spade_6 : decode cX12_spade 6 = .ok (.i2l, 1) := by decide +kernel
theorem dX12_spade_7 : decode cX12_spade 7 = .ok (.lconst 0, 1) := by decide +kernel
theorem dX12_spade_8 : decode cX12_spade 8 = .ok (.ldc2_w 290, 3) := by decide +kernel
theorem dX12_spade_11 : decode cX12_spade 11 = .ok (.invokestatic 182, 3) := by decide +kernel
theorem dX12_spade_14 : decode cX12_spade 14 = .ok (.ifCond .eq 25, 3) := by decide +kernel
theorem dX12_spade_17 : decode cX12_spade 17 = .ok (.iload_n 2, 1) := by decide +kernel
theorem dX12_spade_18 : decode cX12_spade 18 = .ok (.i2l, 1) := by decide +kernel
theorem dX12_spade_19 : decode cX12_spade 19 = .ok (.lconst 0, 1) := by decide +kernel
theorem dX12_spade_20 : decode cX12_spade 20 = .ok (.lconst 1, 1) := by decide +kernel
theorem dX12_spade_21 : decode cX12_spade 21 = .ok (.invokestatic 182, 3) := by decide +kernel
theorem dX12_spade_24 : decode cX12_spade 24 = .ok (.ifCond .eq 15, 3) := by decide +kernel
theorem dX12_spade_27 : decode cX12_spade 27 = .ok (.aload_n 0, 1) := by decide +kernel
theorem dX12_spade_28 : decode cX12_spade 28 = .ok (.getfield 13, 3) := by decide +kernel
theorem dX12_spade_31 : decode cX12_spade 31 = .ok (.bipush 7, 2) := by decide +kernel
theorem dX12_spade_33 : decode cX12_spade 33 = .ok (.iaload, 1) := by decide +kernel
theorem dX12_spade_34 : decode cX12_spade 34 = .ok (.bipush 10, 2) := by decide +kernel
theorem dX12_spade_36 : decode cX12_spade 36 = .ok (.if_icmp .ne 5, 3) := by decide +kernel
theorem dX12_spade_39 : decode cX12_spade 39 = .ok (.iconst (-1), 1) := by decide +kernel
theorem dX12_spade_40 : decode cX12_spade 40 = .ok (.ireturn, 1) := by decide +kernel
theorem dX12_spade_41 : decode cX12_spade 41 = .ok (.iconst 0, 1) := by decide +kernel
theorem dX12_spade_42 : decode cX12_spade 42 = .ok (.istore_n 3, 1) := by decide +kernel
theorem dX12_spade_43 : decode cX12_spade 43 = .ok (.iconst 0, 1) := by decide +kernel
theorem dX12_spade_44 : decode cX12_spade 44 = .ok (.istore 4, 2) := by decide +kernel
theorem dX12_spade_46 : decode cX12_spade 46 = .ok (.iload 4, 2) := by decide +kernel
theorem dX12_spade_48 : decode cX12_spade 48 = .ok (.bipush 32, 2) := by decide +kernel
theorem dX12_spade_50 : decode cX12_spade 50 = .ok (.if_icmp .ge 17, 3) := by decide +kernel
theorem dX12_spade_53 : decode cX12_spade 53 = .ok (.aload_n 0, 1) := by decide +kernel
theorem dX12_spade_54 : decode cX12_spade 54 = .ok (.getfield 136, 3) := by decide +kernel
theorem dX12_spade_57 : decode cX12_spade 57 = .ok (.iload 4, 2) := by decide +kernel
theorem dX12_spade_59 : decode cX12_spade 59 = .ok (.iconst 0, 1) := by decide +kernel
theorem dX12_spade_60 : decode cX12_spade 60 = .ok (.iastore, 1) := by decide +kernel
theorem dX12_spade_61 : decode cX12_spade 61 = .ok (.iinc 4 1, 3) := by decide +kernel
theorem dX12_spade_64 : decode cX12_spade 64 = .ok (.goto (-18), 3) := by decide +kernel
theorem dX12_spade_67 : decode cX12_spade 67 = .ok (.iconst 0, 1) := by decide +kernel
theorem dX12_spade_68 : decode cX12_spade 68 = .ok (.istore 4, 2) := by decide +kernel
theorem dX12_spade_70 : decode cX12_spade 70 = .ok (.iload 4, 2) := by decide +kernel
theorem dX12_spade_72 : decode cX12_spade 72 = .ok (.bipush 32, 2) := by decide +kernel
theorem dX12_spade_74 : decode cX12_spade 74 = .ok (.if_icmp .ge 101, 3) := by decide +kernel
theorem dX12_spade_77 : decode cX12_spade 77 = .ok (.aload_n 0, 1) := by decide +kernel
theorem dX12_spade_78 : decode cX12_spade 78 = .ok (.iload 4, 2) := by decide +kernel
theorem dX12_spade_80 : decode cX12_spade 80 = .ok (.invokevirtual 508, 3) := by decide +kernel
theorem dX12_spade_83 : decode cX12_spade 83 = .ok (.ifCond .eq 86, 3) := by decide +kernel
theorem dX12_spade_86 : decode cX12_spade 86 = .ok (.iinc 3 1, 3) := by decide +kernel
theorem dX12_spade_89 : decode cX12_spade 89 = .ok (.aload_n 0, 1) := by decide +kernel
theorem dX12_spade_90 : decode cX12_spade 90 = .ok (.bipush 16, 2) := by decide +kernel
theorem dX12_spade_92 : decode cX12_spade 92 = .ok (.invokevirtual 171, 3) := by decide +kernel
theorem dX12_spade_95 : decode cX12_spade 95 = .ok (.aload_n 0, 1) := by decide +kernel
theorem dX12_spade_96 : decode cX12_spade 96 = .ok (.iconst 0, 1) := by decide +kernel
theorem dX12_spade_97 : decode cX12_spade 97 = .ok (.iload 4, 2) := by decide +kernel
theorem dX12_spade_99 : decode cX12_spade 99 = .ok (.iconst 0, 1) := by decide +kernel
theorem dX12_spade_100 : decode cX12_spade 100 = .ok (.invokevirtual 447, 3) := by decide +kernel
theorem dX12_spade_103 : decode cX12_spade 103 = .ok (.iconst 0, 1) := by decide +kernel
theorem dX12_spade_104 : decode cX12_spade 104 = .ok (.istore 5, 2) := by decide +kernel
theorem dX12_spade_106 : decode cX12_spade 106 = .ok (.iload 5, 2) := by decide +kernel
theorem dX12_spade_108 : decode cX12_spade 108 = .ok (.iload_n 1, 1) := by decide +kernel
theorem dX12_spade_109 : decode cX12_spade 109 = .ok (.if_icmp .ge 14, 3) := by decide +kernel
theorem dX12_spade_112 : decode cX12_spade 112 = .ok (.aload_n 0, 1) := by decide +kernel
theorem dX12_spade_113 : decode cX12_spade 113 = .ok (.invokevirtual 470, 3) := by decide +kernel
theorem dX12_spade_116 : decode cX12_spade 116 = .ok (.pop, 1) := by decide +kernel
theorem dX12_spade_117 : decode cX12_spade 117 = .ok (.iinc 5 1, 3) := by decide +kernel
theorem dX12_spade_120 : decode cX12_spade 120 = .ok (.goto (-14), 3) := by decide +kernel
theorem dX12_spade_123 : decode cX12_spade 123 = .ok (.iconst 0, 1) := by decide +kernel
theorem dX12_spade_124 : decode cX12_spade 124 = .ok (.istore 5, 2) := by decide +kernel
theorem dX12_spade_126 : decode cX12_spade 126 = .ok (.iload 5, 2) := by decide +kernel
theorem dX12_spade_128 : decode cX12_spade 128 = .ok (.aload_n 0, 1) := by decide +kernel
theorem dX12_spade_129 : decode cX12_spade 129 = .ok (.getfield 13, 3) := by decide +kernel
theorem dX12_spade_132 : decode cX12_spade 132 = .ok (.bipush 7, 2) := by decide +kernel
theorem dX12_spade_134 : decode cX12_spade 134 = .ok (.iaload, 1) := by decide +kernel
theorem dX12_spade_135 : decode cX12_spade 135 = .ok (.if_icmp .ge 28, 3) := by decide +kernel
theorem dX12_spade_138 : decode cX12_spade 138 = .ok (.aload_n 0, 1) := by decide +kernel
theorem dX12_spade_139 : decode cX12_spade 139 = .ok (.getfield 136, 3) := by decide +kernel
theorem dX12_spade_142 : decode cX12_spade 142 = .ok (.aload_n 0, 1) := by decide +kernel
theorem dX12_spade_143 : decode cX12_spade 143 = .ok (.getfield 13, 3) := by decide +kernel
theorem dX12_spade_146 : decode cX12_spade 146 = .ok (.bipush 8, 2) := by decide +kernel
theorem dX12_spade_148 : decode cX12_spade 148 = .ok (.iload 5, 2) := by decide +kernel
theorem dX12_spade_150 : decode cX12_spade 150 = .ok (.iadd, 1) := by decide +kernel
theorem dX12_spade_151 : decode cX12_spade 151 = .ok (.iaload, 1) := by decide +kernel
theorem dX12_spade_152 : decode cX12_spade 152 = .ok (.dup2, 1) := by decide +kernel
theorem dX12_spade_153 : decode cX12_spade 153 = .ok (.iaload, 1) := by decide +kernel
theorem dX12_spade_154 : decode cX12_spade 154 = .ok (.iconst 1, 1) := by decide +kernel
theorem dX12_spade_155 : decode cX12_spade 155 = .ok (.iadd, 1) := by decide +kernel
theorem dX12_spade_156 : decode cX12_spade 156 = .ok (.iastore, 1) := by decide +kernel
theorem dX12_spade_157 : decode cX12_spade 157 = .ok (.iinc 5 1, 3) := by decide +kernel
theorem dX12_spade_160 : decode cX12_spade 160 = .ok (.goto (-34), 3) := by decide +kernel
theorem dX12_spade_163 : decode cX12_spade 163 = .ok (.aload_n 0, 1) := by decide +kernel
theorem dX12_spade_164 : decode cX12_spade 164 = .ok (.bipush 16, 2) := by decide +kernel
theorem dX12_spade_166 : decode cX12_spade 166 = .ok (.invokevirtual 179, 3) := by decide +kernel
theorem dX12_spade_169 : decode cX12_spade 169 = .ok (.iinc 4 1, 3) := by decide +kernel
theorem dX12_spade_172 : decode cX12_spade 172 = .ok (.goto (-102), 3) := by decide +kernel
theorem dX12_spade_175 : decode cX12_spade 175 = .ok (.ldc_w 484, 3) := by decide +kernel
theorem dX12_spade_178 : decode cX12_spade 178 = .ok (.istore 4, 2) := by decide +kernel
theorem dX12_spade_180 : decode cX12_spade 180 = .ok (.iconst (-1), 1) := by decide +kernel
theorem dX12_spade_181 : decode cX12_spade 181 = .ok (.istore 5, 2) := by decide +kernel
theorem dX12_spade_183 : decode cX12_spade 183 = .ok (.iconst 0, 1) := by decide +kernel
theorem dX12_spade_184 : decode cX12_spade 184 = .ok (.istore 6, 2) := by decide +kernel
theorem dX12_spade_186 : decode cX12_spade 186 = .ok (.iload 6, 2) := by decide +kernel
theorem dX12_spade_188 : decode cX12_spade 188 = .ok (.bipush 32, 2) := by decide +kernel
theorem dX12_spade_190 : decode cX12_spade 190 = .ok (.if_icmp .ge 85, 3) := by decide +kernel
theorem dX12_spade_193 : decode cX12_spade 193 = .ok (.iload_n 3, 1) := by decide +kernel
theorem dX12_spade_194 : decode cX12_spade 194 = .ok (.ifCond .le 81, 3) := by decide +kernel
theorem dX12_spade_197 : decode cX12_spade 197 = .ok (.aload_n 0, 1) := by decide +kernel
theorem dX12_spade_198 : decode cX12_spade 198 = .ok (.getfield 136, 3) := by decide +kernel
theorem dX12_spade_201 : decode cX12_spade 201 = .ok (.iload 6, 2) := by decide +kernel
theorem dX12_spade_203 : decode cX12_spade 203 = .ok (.iaload, 1) := by decide +kernel
theorem dX12_spade_204 : decode cX12_spade 204 = .ok (.iload_n 3, 1) := by decide +kernel
theorem dX12_spade_205 : decode cX12_spade 205 = .ok (.aload_n 0, 1) := by decide +kernel
theorem dX12_spade_206 : decode cX12_spade 206 = .ok (.getfield 136, 3) := by decide +kernel
theorem dX12_spade_209 : decode cX12_spade 209 = .ok (.iload 6, 2) := by decide +kernel
theorem dX12_spade_211 : decode cX12_spade 211 = .ok (.iaload, 1) := by decide +kernel
theorem dX12_spade_212 : decode cX12_spade 212 = .ok (.isub, 1) := by decide +kernel
theorem dX12_spade_213 : decode cX12_spade 213 = .ok (.if_icmp .le 13, 3) := by decide +kernel
theorem dX12_spade_216 : decode cX12_spade 216 = .ok (.aload_n 0, 1) := by decide +kernel
theorem dX12_spade_217 : decode cX12_spade 217 = .ok (.getfield 136, 3) := by decide +kernel
theorem dX12_spade_220 : decode cX12_spade 220 = .ok (.iload 6, 2) := by decide +kernel
theorem dX12_spade_222 : decode cX12_spade 222 = .ok (.iaload, 1) := by decide +kernel
theorem dX12_spade_223 : decode cX12_spade 223 = .ok (.goto 12, 3) := by decide +kernel
theorem dX12_spade_226 : decode cX12_spade 226 = .ok (.iload_n 3, 1) := by decide +kernel
theorem dX12_spade_227 : decode cX12_spade 227 = .ok (.aload_n 0, 1) := by decide +kernel
theorem dX12_spade_228 : decode cX12_spade 228 = .ok (.getfield 136, 3) := by decide +kernel
theorem dX12_spade_231 : decode cX12_spade 231 = .ok (.iload 6, 2) := by decide +kernel
theorem dX12_spade_233 : decode cX12_spade 233 = .ok (.iaload, 1) := by decide +kernel
theorem dX12_spade_234 : decode cX12_spade 234 = .ok (.isub, 1) := by decide +kernel
theorem dX12_spade_235 : decode cX12_spade 235 = .ok (.istore 7, 2) := by decide +kernel
theorem dX12_spade_237 : decode cX12_spade 237 = .ok (.iload 7, 2) := by decide +kernel
theorem dX12_spade_239 : decode cX12_spade 239 = .ok (.iload 4, 2) := by decide +kernel
theorem dX12_spade_241 : decode cX12_spade 241 = .ok (.if_icmp .ge 8, 3) := by decide +kernel
theorem dX12_spade_244 : decode cX12_spade 244 = .ok (.iload 6, 2) := by decide +kernel
theorem dX12_spade_246 : decode cX12_spade 246 = .ok (.goto 5, 3) := by decide +kernel
theorem dX12_spade_249 : decode cX12_spade 249 = .ok (.iload 5, 2) := by decide +kernel
theorem dX12_spade_251 : decode cX12_spade 251 = .ok (.istore 5, 2) := by decide +kernel
theorem dX12_spade_253 : decode cX12_spade 253 = .ok (.iload 7, 2) := by decide +kernel
theorem dX12_spade_255 : decode cX12_spade 255 = .ok (.iload 4, 2) := by decide +kernel
theorem dX12_spade_257 : decode cX12_spade 257 = .ok (.if_icmp .ge 8, 3) := by decide +kernel
theorem dX12_spade_260 : decode cX12_spade 260 = .ok (.iload 7, 2) := by decide +kernel
theorem dX12_spade_262 : decode cX12_spade 262 = .ok (.goto 5, 3) := by decide +kernel
theorem dX12_spade_265 : decode cX12_spade 265 = .ok (.iload 4, 2) := by decide +kernel
theorem dX12_spade_267 : decode cX12_spade 267 = .ok (.istore 4, 2) := by decide +kernel
theorem dX12_spade_269 : decode cX12_spade 269 = .ok (.iinc 6 1, 3) := by decide +kernel
theorem dX12_spade_272 : decode cX12_spade 272 = .ok (.goto (-86), 3) := by decide +kernel
theorem dX12_spade_275 : decode cX12_spade 275 = .ok (.iload 5, 2) := by decide +kernel
theorem dX12_spade_277 : decode cX12_spade 277 = .ok (.iconst (-1), 1) := by decide +kernel
theorem dX12_spade_278 : decode cX12_spade 278 = .ok (.if_icmp .eq 7, 3) := by decide +kernel
theorem dX12_spade_281 : decode cX12_spade 281 = .ok (.iload_n 2, 1) := by decide +kernel
theorem dX12_spade_282 : decode cX12_spade 282 = .ok (.ifCond .ne 8, 3) := by decide +kernel
theorem dX12_spade_285 : decode cX12_spade 285 = .ok (.iload 5, 2) := by decide +kernel
theorem dX12_spade_287 : decode cX12_spade 287 = .ok (.goto 5, 3) := by decide +kernel
theorem dX12_spade_290 : decode cX12_spade 290 = .ok (.iload 4, 2) := by decide +kernel
theorem dX12_spade_292 : decode cX12_spade 292 = .ok (.ireturn, 1) := by decide +kernel
set_option maxRecDepth 20000 in
theorem rX12_spade_0 {E : EN} (hE : Ep E) {k : Nat} {mem : Mm} {Q : Int → Mm → Prop} {p0 p1 : Int}
    (h : (R64 p0 → CI E mX12_in k (aUp mem 603 0 0) [aL p0, aL 0, aL 20] (fun r2 m1 => ((r2 = 0 → Q (-1) m1) ∧ (¬ r2 = 0 → (R64 p1 → CI E mX12_in k m1 [aL p1, aL 0, aL 1] (fun r4 m3 => ((r4 = 0 → Q (-1) m3) ∧ (¬ r4 = 0 → ((¬ (m3 605 7) = 10 → VM E mX12_spade (k + 1) m3 46 [(0, aR 603), (1, aI p0), (2, aI p1), (3, aI 0), (4, aI 0)] [] (retI Q)) ∧ ((m3 605 7) = 10 → Q (-1) m3))))))))))) :
    VM E mX12_spade (k + 1) mem 0 [(0, aR 603), (1, aI p0), (2, aI p1)] [] (retI Q) := by
  refine v_aload_n (pc := 0) dX12_spade_0 0 rfl ?_
  refine v_iconst (pc := 1) dX12_spade_1 (by decide) ?_
  refine v_putf (pc := 2) dX12_spade_2 flX12_162 ⟨_, _, rfl, Or.inl rfl⟩ rfl (by decide) (fun q => nomatch q) (Or.inl fun _ => rfl) at603 ?_
  refine v_iload_n (pc := 5) dX12_spade_5 1 rfl ?_
  refine v_i2l (pc := 6) dX12_spade_6 ?_
  refine v_lconst0 (pc := 7) dX12_spade_7 ?_
  refine v_ldc2 (pc := 8) (n := 20) dX12_spade_8 cnX12_290 (by decide) ?_
  refine m_invSI (pc := 11) (mi' := mX12_in) (rest := []) [aL p0, aL 0, aL 20] dX12_spade_11 msX12_in stX12_in lkX12_182 rfl (Nat.le_of_ble_eq_true rfl) (fun hn => CI_mono (h (aaL hn 0 rfl)) (fun r2 m1 h => ?_))
  refine v_ifeq (pc := 14) (tgt := 39) dX12_spade_14 (by decide) (fun c1 => ?_) (fun c1 => ?_)
  · have h := h.1 c1
    refine v_iconst (pc := 39) dX12_spade_39 (by decide) ?_
    exact m_retI (pc := 40) dX12_spade_40 rfl h
  · have h := h.2 c1
    refine v_iload_n (pc := 17) dX12_spade_17 2 rfl ?_
    refine v_i2l (pc := 18) dX12_spade_18 ?_
    refine v_lconst0 (pc := 19) dX12_spade_19 ?_
    refine v_lconst1 (pc := 20) dX12_spade_20 ?_
    refine m_invSI (pc := 21) (mi' := mX12_in) (rest := []) [aL p1, aL 0, aL 1] dX12_spade_21 msX12_in stX12_in lkX12_182 rfl (Nat.le_of_ble_eq_true rfl) (fun hn => CI_mono (h (aaL hn 0 rfl)) (fun r4 m3 h => ?_))
    refine v_ifeq (pc := 24) (tgt := 39) dX12_spade_24 (by decide) (fun c1 => ?_) (fun c1 => ?_)
    · have h := h.1 c1
      refine v_iconst (pc := 39) dX12_spade_39 (by decide) ?_
      exact m_retI (pc := 40) dX12_spade_40 rfl h
    · have h := h.2 c1
      refine v_aload_n (pc := 27) dX12_spade_27 0 rfl ?_
      refine m_getfin (pc := 28) (v := 605) hE dX12_spade_28 flX12_13 rfl at603 rfl ?_
      refine v_bipush (pc := 31) dX12_spade_31 (by decide) ?_
      refine m_iald (pc := 33) (v := (m3 605 7)) dX12_spade_33 at605 (by omega) (by omega) rfl ?_
      refine v_bipush (pc := 34) dX12_spade_34 (by decide) ?_
      refine v_icmpne (pc := 36) (tgt := 41) dX12_spade_36 (by decide) (fun c1 => ?_) (fun c1 => ?_)
      · have h := h.1 c1
        refine v_iconst (pc := 41) dX12_spade_41 (by decide) ?_
        refine v_istore_n (pc := 42) (al2 := [(3, aI 0), (0, aR 603), (1, aI p0), (2, aI p1)]) dX12_spade_42 (by decide) rfl ?_
        refine v_iconst (pc := 43) dX12_spade_43 (by decide) ?_
        refine v_istore (pc := 44) (al2 := [(4, aI 0), (3, aI 0), (0, aR 603), (1, aI p0), (2, aI p1)]) dX12_spade_44 (by decide) rfl ?_
        exact VG_sub (al' := [(0, aR 603), (1, aI p0), (2, aI p1), (3, aI 0), (4, aI 0)]) [2, 3, 4, 1, 0] rfl h
      · have h := h.2 c1
        refine v_iconst (pc := 39) dX12_spade_39 (by decide) ?_
        exact m_retI (pc := 40) dX12_spade_40 rfl h
theorem eX12_spade {E : EN} {k : Nat} {mem : Mm} {Q : Int → Mm → Prop} {p0 p1 : Int} (hr_p0 : R32 p0) (hr_p1 : R32 p1) (h : VM E mX12_spade (k + 1) mem 0 [(0, aR 603), (1, aI p0), (2, aI p1)] [] (retI Q)) : CI E mX12_spade (k + 1) mem [aR 603, aI p0, aI p1] Q := CI_of rfl (Nat.le_of_ble_eq_true rfl) h (aNs_c (aNr_R _) (aNs_c (aNr_I hr_p0) (aNs_c (aNr_I hr_p1) (fun _ q => nomatch q))))
set_option maxRecDepth 20000 in
theorem rX12_spade_46 {E : EN} (hE : Ep E) {k : Nat} {mem : Mm} {Q : Int → Mm → Prop} {p0 p1 x3 x4 : Int}
    (h : ((32 ≤ x4 → VM E mX12_spade (k + 1) mem 70 [(0, aR 603), (1, aI p0), (2, aI p1), (3, aI x3), (4, aI 0)] [] (retI Q)) ∧ (x4 < 32 → (0 ≤ x4 ∧ x4 < 32) ∧ (R32 (x4 + 1)) ∧ VM E mX12_spade (k + 1) (aUp mem 632 x4 0) 46 [(0, aR 603), (1, aI p0), (2, aI p1), (3, aI x3), (4, aI (x4 + 1))] [] (retI Q)))) :
    VM E mX12_spade (k + 1) mem 46 [(0, aR 603), (1, aI p0), (2, aI p1), (3, aI x3), (4, aI x4)] [] (retI Q) := by
  refine v_iload (pc := 46) dX12_spade_46 4 rfl ?_
  refine v_bipush (pc := 48) dX12_spade_48 (by decide) ?_
  refine v_icmpge (pc := 50) (tgt := 67) dX12_spade_50 (by decide) (fun c1 => ?_) (fun c1 => ?_)
  · have h := h.1 c1
    refine v_iconst (pc := 67) dX12_spade_67 (by decide) ?_
    refine v_istore (pc := 68) (al2 := [(4, aI 0), (0, aR 603), (1, aI p0), (2, aI p1), (3, aI x3)]) dX12_spade_68 (by decide) rfl ?_
    exact VG_sub (al' := [(0, aR 603), (1, aI p0), (2, aI p1), (3, aI x3), (4, aI 0)]) [1, 2, 3, 4, 0] rfl h
  · have h := h.2 c1
    refine v_aload_n (pc := 53) dX12_spade_53 0 rfl ?_
    refine m_getfin (pc := 54) (v := 632) hE dX12_spade_54 flX12_136 rfl at603 rfl ?_
    refine v_iload (pc := 57) dX12_spade_57 4 rfl ?_
    refine v_iconst (pc := 59) dX12_spade_59 (by decide) ?_
    obtain ⟨o1, h⟩ := h
    refine v_iast (pc := 60) dX12_spade_60 at632 o1.1 o1.2 ?_
    obtain ⟨o2, h⟩ := h
    refine m_iinc (pc := 61) (al2 := [(4, aI (x4 + 1)), (0, aR 603), (1, aI p0), (2, aI p1), (3, aI x3)]) dX12_spade_61 4 rfl (by decide) o2 rfl ?_
    refine v_goto (pc := 64) (tgt := 46) dX12_spade_64 (by decide) ?_
    exact VG_sub (al' := [(0, aR 603), (1, aI p0), (2, aI p1), (3, aI x3), (4, aI (x4 + 1))]) [1, 2, 3, 4, 0] rfl h
set_option maxRecDepth 20000 in
theorem rX12_spade_70 {E : EN} (hE : Ep E) {k : Nat} {mem : Mm} {Q : Int → Mm → Prop} {p0 p1 x3 x4 : Int}
    (h : ((32 ≤ x4 → VM E mX12_spade (k + 1) mem 186 [(0, aR 603), (2, aI p1), (3, aI x3), (4, aI 100000000), (5, aI (-1)), (6, aI 0)] [] (retI Q)) ∧ (x4 < 32 → (R32 x4 → CI E mX12_isHidden k mem [aR 603, aI x4] (fun r2 m1 => ((r2 = 0 → (R32 (x4 + 1)) ∧ VM E mX12_spade (k + 1) m1 70 [(0, aR 603), (1, aI p0), (2, aI p1), (3, aI x3), (4, aI (x4 + 1))] [] (retI Q)) ∧ (¬ r2 = 0 → (R32 (x3 + 1)) ∧ (CV E mX12_keepAll k m1 [aR 603, aI 16] (fun m5 => (R32 x4 → CV E mX12_lay k m5 [aR 603, aI 0, aI x4, aI 0] (fun m6 => VM E mX12_spade (k + 1) m6 106 [(0, aR 603), (1, aI p0), (2, aI p1), (3, aI (x3 + 1)), (4, aI x4), (5, aI 0)] [] (retI Q)))))))))))) :
    VM E mX12_spade (k + 1) mem 70 [(0, aR 603), (1, aI p0), (2, aI p1), (3, aI x3), (4, aI x4)] [] (retI Q) := by
  refine v_iload (pc := 70) dX12_spade_70 4 rfl ?_
  refine v_bipush (pc := 72) dX12_spade_72 (by decide) ?_
  refine v_icmpge (pc := 74) (tgt := 175) dX12_spade_74 (by decide) (fun c1 => ?_) (fun c1 => ?_)
  · have h := h.1 c1
    refine v_ldcw (pc := 175) (n := 100000000) dX12_spade_175 cnX12_484 (by decide) ?_
    refine v_istore (pc := 178) (al2 := [(4, aI 100000000), (0, aR 603), (1, aI p0), (2, aI p1), (3, aI x3)]) dX12_spade_178 (by decide) rfl ?_
    refine v_iconst (pc := 180) dX12_spade_180 (by decide) ?_
    refine v_istore (pc := 181) (al2 := [(5, aI (-1)), (4, aI 100000000), (0, aR 603), (1, aI p0), (2, aI p1), (3, aI x3)]) dX12_spade_181 (by decide) rfl ?_
    refine v_iconst (pc := 183) dX12_spade_183 (by decide) ?_
    refine v_istore (pc := 184) (al2 := [(6, aI 0), (5, aI (-1)), (4, aI 100000000), (0, aR 603), (1, aI p0), (2, aI p1), (3, aI x3)]) dX12_spade_184 (by decide) rfl ?_
    exact VG_sub (al' := [(0, aR 603), (2, aI p1), (3, aI x3), (4, aI 100000000), (5, aI (-1)), (6, aI 0)]) [3, 5, 6, 2, 1, 0] rfl h
  · have h := h.2 c1
    refine v_aload_n (pc := 77) dX12_spade_77 0 rfl ?_
    refine v_iload (pc := 78) dX12_spade_78 4 rfl ?_
    refine m_invI (pc := 80) (mi' := mX12_isHidden) (rest := []) [aI x4] dX12_spade_80 at603 (by decide) rfl msX12_isHidden mvX12_isHidden lkX12_508 rfl (Nat.le_of_ble_eq_true rfl) (fun hn => CI_mono (h (aaI hn 1 rfl)) (fun r2 m1 h => ?_))
    refine v_ifeq (pc := 83) (tgt := 169) dX12_spade_83 (by decide) (fun c1 => ?_) (fun c1 => ?_)
    · have h := h.1 c1
      obtain ⟨o3, h⟩ := h
      refine m_iinc (pc := 169) (al2 := [(4, aI (x4 + 1)), (0, aR 603), (1, aI p0), (2, aI p1), (3, aI x3)]) dX12_spade_169 4 rfl (by decide) o3 rfl ?_
      refine v_goto (pc := 172) (tgt := 70) dX12_spade_172 (by decide) ?_
      exact VG_sub (al' := [(0, aR 603), (1, aI p0), (2, aI p1), (3, aI x3), (4, aI (x4 + 1))]) [1, 2, 3, 4, 0] rfl h
    · have h := h.2 c1
      obtain ⟨o4, h⟩ := h
      refine m_iinc (pc := 86) (al2 := [(3, aI (x3 + 1)), (0, aR 603), (1, aI p0), (2, aI p1), (4, aI x4)]) dX12_spade_86 3 rfl (by decide) o4 rfl ?_
      refine v_aload_n (pc := 89) dX12_spade_89 1 rfl ?_
      refine v_bipush (pc := 90) dX12_spade_90 (by decide) ?_
      refine m_invV (pc := 92) (mi' := mX12_keepAll) (rest := []) [aI 16] dX12_spade_92 at603 (by decide) rfl msX12_keepAll mvX12_keepAll lkX12_171 rfl (Nat.le_of_ble_eq_true rfl) (fun hn => CV_mono (h) (fun m5 h => ?_))
      refine v_aload_n (pc := 95) dX12_spade_95 1 rfl ?_
      refine v_iconst (pc := 96) dX12_spade_96 (by decide) ?_
      refine v_iload (pc := 97) dX12_spade_97 4 rfl ?_
      refine v_iconst (pc := 99) dX12_spade_99 (by decide) ?_
      refine m_invV (pc := 100) (mi' := mX12_lay) (rest := []) [aI 0, aI x4, aI 0] dX12_spade_100 at603 (by decide) rfl msX12_lay mvX12_lay lkX12_447 rfl (Nat.le_of_ble_eq_true rfl) (fun hn => CV_mono (h (aaI hn 2 rfl)) (fun m6 h => ?_))
      refine v_iconst (pc := 103) dX12_spade_103 (by decide) ?_
      refine v_istore (pc := 104) (al2 := [(5, aI 0), (3, aI (x3 + 1)), (0, aR 603), (1, aI p0), (2, aI p1), (4, aI x4)]) dX12_spade_104 (by decide) rfl ?_
      exact VG_sub (al' := [(0, aR 603), (1, aI p0), (2, aI p1), (3, aI (x3 + 1)), (4, aI x4), (5, aI 0)]) [2, 3, 4, 1, 5, 0] rfl h
set_option maxRecDepth 20000 in
theorem rX12_spade_186 {E : EN} (hE : Ep E) {k : Nat} {mem : Mm} {Q : Int → Mm → Prop} {p0 p1 x3 x4 x5 x6 : Int}
    (h : ((32 ≤ x6 → ((x5 = (-1) → Q x5 mem) ∧ (¬ x5 = (-1) → ((¬ p1 = 0 → Q x4 mem) ∧ (p1 = 0 → Q x5 mem))))) ∧ (x6 < 32 → ((x3 ≤ 0 → ((x5 = (-1) → Q x5 mem) ∧ (¬ x5 = (-1) → ((¬ p1 = 0 → Q x4 mem) ∧ (p1 = 0 → Q x5 mem))))) ∧ (0 < x3 → (0 ≤ x6 ∧ x6 < 32) ∧ (R32 (x3 - (mem 632 x6))) ∧ (((mem 632 x6) ≤ (x3 - (mem 632 x6)) → ((x4 ≤ (x3 - (mem 632 x6)) → ((x4 ≤ (x3 - (mem 632 x6)) → (R32 (x6 + 1)) ∧ VM E mX12_spade (k + 1) mem 186 [(0, aR 603), (2, aI p1), (3, aI x3), (4, aI x4), (5, aI x5), (6, aI (x6 + 1))] [] (retI Q)) ∧ ((x3 - (mem 632 x6)) < x4 → (R32 (x6 + 1)) ∧ VM E mX12_spade (k + 1) mem 186 [(0, aR 603), (2, aI p1), (3, aI x3), (4, aI (x3 - (mem 632 x6))), (5, aI x5), (6, aI (x6 + 1))] [] (retI Q)))) ∧ ((x3 - (mem 632 x6)) < x4 → ((x4 ≤ (x3 - (mem 632 x6)) → (R32 (x6 + 1)) ∧ VM E mX12_spade (k + 1) mem 186 [(0, aR 603), (2, aI p1), (3, aI x3), (4, aI x4), (5, aI x6), (6, aI (x6 + 1))] [] (retI Q)) ∧ ((x3 - (mem 632 x6)) < x4 → (R32 (x6 + 1)) ∧ VM E mX12_spade (k + 1) mem 186 [(0, aR 603), (2, aI p1), (3, aI x3), (4, aI (x3 - (mem 632 x6))), (5, aI x6), (6, aI (x6 + 1))] [] (retI Q)))))) ∧ ((x3 - (mem 632 x6)) < (mem 632 x6) → ((x4 ≤ (mem 632 x6) → ((x4 ≤ (mem 632 x6) → (R32 (x6 + 1)) ∧ VM E mX12_spade (k + 1) mem 186 [(0, aR 603), (2, aI p1), (3, aI x3), (4, aI x4), (5, aI x5), (6, aI (x6 + 1))] [] (retI Q)) ∧ ((mem 632 x6) < x4 → (R32 (x6 + 1)) ∧ VM E mX12_spade (k + 1) mem 186 [(0, aR 603), (2, aI p1), (3, aI x3), (4, aI (mem 632 x6)), (5, aI x5), (6, aI (x6 + 1))] [] (retI Q)))) ∧ ((mem 632 x6) < x4 → ((x4 ≤ (mem 632 x6) → (R32 (x6 + 1)) ∧ VM E mX12_spade (k + 1) mem 186 [(0, aR 603), (2, aI p1), (3, aI x3), (4, aI x4), (5, aI x6), (6, aI (x6 + 1))] [] (retI Q)) ∧ ((mem 632 x6) < x4 → (R32 (x6 + 1)) ∧ VM E mX12_spade (k + 1) mem 186 [(0, aR 603), (2, aI p1), (3, aI x3), (4, aI (mem 632 x6)), (5, aI x6), (6, aI (x6 + 1))] [] (retI Q)))))))))))) :
    VM E mX12_spade (k + 1) mem 186 [(0, aR 603), (2, aI p1), (3, aI x3), (4, aI x4), (5, aI x5), (6, aI x6)] [] (retI Q) := by
  refine v_iload (pc := 186) dX12_spade_186 5 rfl ?_
  refine v_bipush (pc := 188) dX12_spade_188 (by decide) ?_
  refine v_icmpge (pc := 190) (tgt := 275) dX12_spade_190 (by decide) (fun c1 => ?_) (fun c1 => ?_)
  · have h := h.1 c1
    refine v_iload (pc := 275) dX12_spade_275 4 rfl ?_
    refine v_iconst (pc := 277) dX12_spade_277 (by decide) ?_
    refine v_icmpeq (pc := 278) (tgt := 285) dX12_spade_278 (by decide) (fun c1 => ?_) (fun c1 => ?_)
    · have h := h.1 c1
      refine v_iload (pc := 285) dX12_spade_285 4 rfl ?_
      refine v_goto (pc := 287) (tgt := 292) dX12_spade_287 (by decide) ?_
      exact m_retI (pc := 292) dX12_spade_292 rfl h
    · have h := h.2 c1
      refine v_iload_n (pc := 281) dX12_spade_281 1 rfl ?_
      refine v_ifne (pc := 282) (tgt := 290) dX12_spade_282 (by decide) (fun c1 => ?_) (fun c1 => ?_)
      · have h := h.1 c1
        refine v_iload (pc := 290) dX12_spade_290 3 rfl ?_
        exact m_retI (pc := 292) dX12_spade_292 rfl h
      · have h := h.2 c1
        refine v_iload (pc := 285) dX12_spade_285 4 rfl ?_
        refine v_goto (pc := 287) (tgt := 292) dX12_spade_287 (by decide) ?_
        exact m_retI (pc := 292) dX12_spade_292 rfl h
  · have h := h.2 c1
    refine v_iload_n (pc := 193) dX12_spade_193 2 rfl ?_
    refine v_ifle (pc := 194) (tgt := 275) dX12_spade_194 (by decide) (fun c1 => ?_) (fun c1 => ?_)
    · have h := h.1 c1
      refine v_iload (pc := 275) dX12_spade_275 4 rfl ?_
      refine v_iconst (pc := 277) dX12_spade_277 (by decide) ?_
      refine v_icmpeq (pc := 278) (tgt := 285) dX12_spade_278 (by decide) (fun c1 => ?_) (fun c1 => ?_)
      · have h := h.1 c1
        refine v_iload (pc := 285) dX12_spade_285 4 rfl ?_
        refine v_goto (pc := 287) (tgt := 292) dX12_spade_287 (by decide) ?_
        exact m_retI (pc := 292) dX12_spade_292 rfl h
      · have h := h.2 c1
        refine v_iload_n (pc := 281) dX12_spade_281 1 rfl ?_
        refine v_ifne (pc := 282) (tgt := 290) dX12_spade_282 (by decide) (fun c1 => ?_) (fun c1 => ?_)
        · have h := h.1 c1
          refine v_iload (pc := 290) dX12_spade_290 3 rfl ?_
          exact m_retI (pc := 292) dX12_spade_292 rfl h
        · have h := h.2 c1
          refine v_iload (pc := 285) dX12_spade_285 4 rfl ?_
          refine v_goto (pc := 287) (tgt := 292) dX12_spade_287 (by decide) ?_
          exact m_retI (pc := 292) dX12_spade_292 rfl h
    · have h := h.2 c1
      refine v_aload_n (pc := 197) dX12_spade_197 0 rfl ?_
      refine m_getfin (pc := 198) (v := 632) hE dX12_spade_198 flX12_136 rfl at603 rfl ?_
      refine v_iload (pc := 201) dX12_spade_201 5 rfl ?_
      obtain ⟨o1, h⟩ := h
      refine m_iald (pc := 203) (v := (mem 632 x6)) dX12_spade_203 at632 o1.1 o1.2 rfl ?_
      refine v_iload_n (pc := 204) dX12_spade_204 2 rfl ?_
      refine v_aload_n (pc := 205) dX12_spade_205 0 rfl ?_
      refine m_getfin (pc := 206) (v := 632) hE dX12_spade_206 flX12_136 rfl at603 rfl ?_
      refine v_iload (pc := 209) dX12_spade_209 5 rfl ?_
      refine m_iald (pc := 211) (v := (mem 632 x6)) dX12_spade_211 at632 o1.1 o1.2 rfl ?_
      obtain ⟨o2, h⟩ := h
      refine m_isub (pc := 212) dX12_spade_212 o2 ?_
      refine v_icmple (pc := 213) (tgt := 226) dX12_spade_213 (by decide) (fun c1 => ?_) (fun c1 => ?_)
      · have h := h.1 c1
        refine v_iload_n (pc := 226) dX12_spade_226 2 rfl ?_
        refine v_aload_n (pc := 227) dX12_spade_227 0 rfl ?_
        refine m_getfin (pc := 228) (v := 632) hE dX12_spade_228 flX12_136 rfl at603 rfl ?_
        refine v_iload (pc := 231) dX12_spade_231 5 rfl ?_
        refine m_iald (pc := 233) (v := (mem 632 x6)) dX12_spade_233 at632 o1.1 o1.2 rfl ?_
        refine m_isub (pc := 234) dX12_spade_234 o2 ?_
        refine v_istore (pc := 235) (al2 := [(7, aI (x3 - (mem 632 x6))), (0, aR 603), (2, aI p1), (3, aI x3), (4, aI x4), (5, aI x5), (6, aI x6)]) dX12_spade_235 (by decide) rfl ?_
        refine v_iload (pc := 237) dX12_spade_237 0 rfl ?_
        refine v_iload (pc := 239) dX12_spade_239 4 rfl ?_
        refine v_icmpge (pc := 241) (tgt := 249) dX12_spade_241 (by decide) (fun c1 => ?_) (fun c1 => ?_)
        · have h := h.1 c1
          refine v_iload (pc := 249) dX12_spade_249 5 rfl ?_
          refine v_istore (pc := 251) (al2 := [(5, aI x5), (7, aI (x3 - (mem 632 x6))), (0, aR 603), (2, aI p1), (3, aI x3), (4, aI x4), (6, aI x6)]) dX12_spade_251 (by decide) rfl ?_
          refine v_iload (pc := 253) dX12_spade_253 1 rfl ?_
          refine v_iload (pc := 255) dX12_spade_255 5 rfl ?_
          refine v_icmpge (pc := 257) (tgt := 265) dX12_spade_257 (by decide) (fun c1 => ?_) (fun c1 => ?_)
          · have h := h.1 c1
            refine v_iload (pc := 265) dX12_spade_265 5 rfl ?_
            refine v_istore (pc := 267) (al2 := [(4, aI x4), (5, aI x5), (7, aI (x3 - (mem 632 x6))), (0, aR 603), (2, aI p1), (3, aI x3), (6, aI x6)]) dX12_spade_267 (by decide) rfl ?_
            obtain ⟨o3, h⟩ := h
            refine m_iinc (pc := 269) (al2 := [(6, aI (x6 + 1)), (4, aI x4), (5, aI x5), (7, aI (x3 - (mem 632 x6))), (0, aR 603), (2, aI p1), (3, aI x3)]) dX12_spade_269 6 rfl (by decide) o3 rfl ?_
            refine v_goto (pc := 272) (tgt := 186) dX12_spade_272 (by decide) ?_
            exact VG_sub (al' := [(0, aR 603), (2, aI p1), (3, aI x3), (4, aI x4), (5, aI x5), (6, aI (x6 + 1))]) [4, 5, 6, 1, 2, 0] rfl h
          · have h := h.2 c1
            refine v_iload (pc := 260) dX12_spade_260 1 rfl ?_
            refine v_goto (pc := 262) (tgt := 267) dX12_spade_262 (by decide) ?_
            refine v_istore (pc := 267) (al2 := [(4, aI (x3 - (mem 632 x6))), (5, aI x5), (7, aI (x3 - (mem 632 x6))), (0, aR 603), (2, aI p1), (3, aI x3), (6, aI x6)]) dX12_spade_267 (by decide) rfl ?_
            obtain ⟨o4, h⟩ := h
            refine m_iinc (pc := 269) (al2 := [(6, aI (x6 + 1)), (4, aI (x3 - (mem 632 x6))), (5, aI x5), (7, aI (x3 - (mem 632 x6))), (0, aR 603), (2, aI p1), (3, aI x3)]) dX12_spade_269 6 rfl (by decide) o4 rfl ?_
            refine v_goto (pc := 272) (tgt := 186) dX12_spade_272 (by decide) ?_
            exact VG_sub (al' := [(0, aR 603), (2, aI p1), (3, aI x3), (4, aI (x3 - (mem 632 x6))), (5, aI x5), (6, aI (x6 + 1))]) [4, 5, 6, 1, 2, 0] rfl h
        · have h := h.2 c1
          refine v_iload (pc := 244) dX12_spade_244 6 rfl ?_
          refine v_goto (pc := 246) (tgt := 251) dX12_spade_246 (by decide) ?_
          refine v_istore (pc := 251) (al2 := [(5, aI x6), (7, aI (x3 - (mem 632 x6))), (0, aR 603), (2, aI p1), (3, aI x3), (4, aI x4), (6, aI x6)]) dX12_spade_251 (by decide) rfl ?_
          refine v_iload (pc := 253) dX12_spade_253 1 rfl ?_
          refine v_iload (pc := 255) dX12_spade_255 5 rfl ?_
          refine v_icmpge (pc := 257) (tgt := 265) dX12_spade_257 (by decide) (fun c1 => ?_) (fun c1 => ?_)
          · have h := h.1 c1
            refine v_iload (pc := 265) dX12_spade_265 5 rfl ?_
            refine v_istore (pc := 267) (al2 := [(4, aI x4), (5, aI x6), (7, aI (x3 - (mem 632 x6))), (0, aR 603), (2, aI p1), (3, aI x3), (6, aI x6)]) dX12_spade_267 (by decide) rfl ?_
            obtain ⟨o5, h⟩ := h
            refine m_iinc (pc := 269) (al2 := [(6, aI (x6 + 1)), (4, aI x4), (5, aI x6), (7, aI (x3 - (mem 632 x6))), (0, aR 603), (2, aI p1), (3, aI x3)]) dX12_spade_269 6 rfl (by decide) o5 rfl ?_
            refine v_goto (pc := 272) (tgt := 186) dX12_spade_272 (by decide) ?_
            exact VG_sub (al' := [(0, aR 603), (2, aI p1), (3, aI x3), (4, aI x4), (5, aI x6), (6, aI (x6 + 1))]) [4, 5, 6, 1, 2, 0] rfl h
          · have h := h.2 c1
            refine v_iload (pc := 260) dX12_spade_260 1 rfl ?_
            refine v_goto (pc := 262) (tgt := 267) dX12_spade_262 (by decide) ?_
            refine v_istore (pc := 267) (al2 := [(4, aI (x3 - (mem 632 x6))), (5, aI x6), (7, aI (x3 - (mem 632 x6))), (0, aR 603), (2, aI p1), (3, aI x3), (6, aI x6)]) dX12_spade_267 (by decide) rfl ?_
            obtain ⟨o6, h⟩ := h
            refine m_iinc (pc := 269) (al2 := [(6, aI (x6 + 1)), (4, aI (x3 - (mem 632 x6))), (5, aI x6), (7, aI (x3 - (mem 632 x6))), (0, aR 603), (2, aI p1), (3, aI x3)]) dX12_spade_269 6 rfl (by decide) o6 rfl ?_
            refine v_goto (pc := 272) (tgt := 186) dX12_spade_272 (by decide) ?_
            exact VG_sub (al' := [(0, aR 603), (2, aI p1), (3, aI x3), (4, aI (x3 - (mem 632 x6))), (5, aI x6), (6, aI (x6 + 1))]) [4, 5, 6, 1, 2, 0] rfl h
      · have h := h.2 c1
        refine v_aload_n (pc := 216) dX12_spade_216 0 rfl ?_
        refine m_getfin (pc := 217) (v := 632) hE dX12_spade_217 flX12_136 rfl at603 rfl ?_
        refine v_iload (pc := 220) dX12_spade_220 5 rfl ?_
        refine m_iald (pc := 222) (v := (mem 632 x6)) dX12_spade_222 at632 o1.1 o1.2 rfl ?_
        refine v_goto (pc := 223) (tgt := 235) dX12_spade_223 (by decide) ?_
        refine v_istore (pc := 235) (al2 := [(7, aI (mem 632 x6)), (0, aR 603), (2, aI p1), (3, aI x3), (4, aI x4), (5, aI x5), (6, aI x6)]) dX12_spade_235 (by decide) rfl ?_
        refine v_iload (pc := 237) dX12_spade_237 0 rfl ?_
        refine v_iload (pc := 239) dX12_spade_239 4 rfl ?_
        refine v_icmpge (pc := 241) (tgt := 249) dX12_spade_241 (by decide) (fun c1 => ?_) (fun c1 => ?_)
        · have h := h.1 c1
          refine v_iload (pc := 249) dX12_spade_249 5 rfl ?_
          refine v_istore (pc := 251) (al2 := [(5, aI x5), (7, aI (mem 632 x6)), (0, aR 603), (2, aI p1), (3, aI x3), (4, aI x4), (6, aI x6)]) dX12_spade_251 (by decide) rfl ?_
          refine v_iload (pc := 253) dX12_spade_253 1 rfl ?_
          refine v_iload (pc := 255) dX12_spade_255 5 rfl ?_
          refine v_icmpge (pc := 257) (tgt := 265) dX12_spade_257 (by decide) (fun c1 => ?_) (fun c1 => ?_)
          · have h := h.1 c1
            refine v_iload (pc := 265) dX12_spade_265 5 rfl ?_
            refine v_istore (pc := 267) (al2 := [(4, aI x4), (5, aI x5), (7, aI (mem 632 x6)), (0, aR 603), (2, aI p1), (3, aI x3), (6, aI x6)]) dX12_spade_267 (by decide) rfl ?_
            obtain ⟨o7, h⟩ := h
            refine m_iinc (pc := 269) (al2 := [(6, aI (x6 + 1)), (4, aI x4), (5, aI x5), (7, aI (mem 632 x6)), (0, aR 603), (2, aI p1), (3, aI x3)]) dX12_spade_269 6 rfl (by decide) o7 rfl ?_
            refine v_goto (pc := 272) (tgt := 186) dX12_spade_272 (by decide) ?_
            exact VG_sub (al' := [(0, aR 603), (2, aI p1), (3, aI x3), (4, aI x4), (5, aI x5), (6, aI (x6 + 1))]) [4, 5, 6, 1, 2, 0] rfl h
          · have h := h.2 c1
            refine v_iload (pc := 260) dX12_spade_260 1 rfl ?_
            refine v_goto (pc := 262) (tgt := 267) dX12_spade_262 (by decide) ?_
            refine v_istore (pc := 267) (al2 := [(4, aI (mem 632 x6)), (5, aI x5), (7, aI (mem 632 x6)), (0, aR 603), (2, aI p1), (3, aI x3), (6, aI x6)]) dX12_spade_267 (by decide) rfl ?_
            obtain ⟨o8, h⟩ := h
            refine m_iinc (pc := 269) (al2 := [(6, aI (x6 + 1)), (4, aI (mem 632 x6)), (5, aI x5), (7, aI (mem 632 x6)), (0, aR 603), (2, aI p1), (3, aI x3)]) dX12_spade_269 6 rfl (by decide) o8 rfl ?_
            refine v_goto (pc := 272) (tgt := 186) dX12_spade_272 (by decide) ?_
            exact VG_sub (al' := [(0, aR 603), (2, aI p1), (3, aI x3), (4, aI (mem 632 x6)), (5, aI x5), (6, aI (x6 + 1))]) [4, 5, 6, 1, 2, 0] rfl h
        · have h := h.2 c1
          refine v_iload (pc := 244) dX12_spade_244 6 rfl ?_
          refine v_goto (pc := 246) (tgt := 251) dX12_spade_246 (by decide) ?_
          refine v_istore (pc := 251) (al2 := [(5, aI x6), (7, aI (mem 632 x6)), (0, aR 603), (2, aI p1), (3, aI x3), (4, aI x4), (6, aI x6)]) dX12_spade_251 (by decide) rfl ?_
          refine v_iload (pc := 253) dX12_spade_253 1 rfl ?_
          refine v_iload (pc := 255) dX12_spade_255 5 rfl ?_
          refine v_icmpge (pc := 257) (tgt := 265) dX12_spade_257 (by decide) (fun c1 => ?_) (fun c1 => ?_)
          · have h := h.1 c1
            refine v_iload (pc := 265) dX12_spade_265 5 rfl ?_
            refine v_istore (pc := 267) (al2 := [(4, aI x4), (5, aI x6), (7, aI (mem 632 x6)), (0, aR 603), (2, aI p1), (3, aI x3), (6, aI x6)]) dX12_spade_267 (by decide) rfl ?_
            obtain ⟨o9, h⟩ := h
            refine m_iinc (pc := 269) (al2 := [(6, aI (x6 + 1)), (4, aI x4), (5, aI x6), (7, aI (mem 632 x6)), (0, aR 603), (2, aI p1), (3, aI x3)]) dX12_spade_269 6 rfl (by decide) o9 rfl ?_
            refine v_goto (pc := 272) (tgt := 186) dX12_spade_272 (by decide) ?_
            exact VG_sub (al' := [(0, aR 603), (2, aI p1), (3, aI x3), (4, aI x4), (5, aI x6), (6, aI (x6 + 1))]) [4, 5, 6, 1, 2, 0] rfl h
          · have h := h.2 c1
            refine v_iload (pc := 260) dX12_spade_260 1 rfl ?_
            refine v_goto (pc := 262) (tgt := 267) dX12_spade_262 (by decide) ?_
            refine v_istore (pc := 267) (al2 := [(4, aI (mem 632 x6)), (5, aI x6), (7, aI (mem 632 x6)), (0, aR 603), (2, aI p1), (3, aI x3), (6, aI x6)]) dX12_spade_267 (by decide) rfl ?_
            obtain ⟨o10, h⟩ := h
            refine m_iinc (pc := 269) (al2 := [(6, aI (x6 + 1)), (4, aI (mem 632 x6)), (5, aI x6), (7, aI (mem 632 x6)), (0, aR 603), (2, aI p1), (3, aI x3)]) dX12_spade_269 6 rfl (by decide) o10 rfl ?_
            refine v_goto (pc := 272) (tgt := 186) dX12_spade_272 (by decide) ?_
            exact VG_sub (al' := [(0, aR 603), (2, aI p1), (3, aI x3), (4, aI (mem 632 x6)), (5, aI x6), (6, aI (x6 + 1))]) [4, 5, 6, 1, 2, 0] rfl h
set_option maxRecDepth 20000 in
theorem rX12_spade_106 {E : EN} (hE : Ep E) {k : Nat} {mem : Mm} {Q : Int → Mm → Prop} {p0 p1 x3 x4 x5 : Int}
    (h : ((p0 ≤ x5 → VM E mX12_spade (k + 1) mem 126 [(0, aR 603), (1, aI p0), (2, aI p1), (3, aI x3), (4, aI x4), (5, aI 0)] [] (retI Q)) ∧ (x5 < p0 → (CI E mX12_passIt k mem [aR 603] (fun r2 m1 => (R32 (x5 + 1)) ∧ VM E mX12_spade (k + 1) m1 106 [(0, aR 603), (1, aI p0), (2, aI p1), (3, aI x3), (4, aI x4), (5, aI (x5 + 1))] [] (retI Q)))))) :
    VM E mX12_spade (k + 1) mem 106 [(0, aR 603), (1, aI p0), (2, aI p1), (3, aI x3), (4, aI x4), (5, aI x5)] [] (retI Q) := by
  refine v_iload (pc := 106) dX12_spade_106 5 rfl ?_
  refine v_iload_n (pc := 108) dX12_spade_108 1 rfl ?_
  refine v_icmpge (pc := 109) (tgt := 123) dX12_spade_109 (by decide) (fun c1 => ?_) (fun c1 => ?_)
  · have h := h.1 c1
    refine v_iconst (pc := 123) dX12_spade_123 (by decide) ?_
    refine v_istore (pc := 124) (al2 := [(5, aI 0), (0, aR 603), (1, aI p0), (2, aI p1), (3, aI x3), (4, aI x4)]) dX12_spade_124 (by decide) rfl ?_
    exact VG_sub (al' := [(0, aR 603), (1, aI p0), (2, aI p1), (3, aI x3), (4, aI x4), (5, aI 0)]) [1, 2, 3, 4, 5, 0] rfl h
  · have h := h.2 c1
    refine v_aload_n (pc := 112) dX12_spade_112 0 rfl ?_
    refine m_invI (pc := 113) (mi' := mX12_passIt) (rest := []) [] dX12_spade_113 at603 (by decide) rfl msX12_passIt mvX12_passIt lkX12_470 rfl (Nat.le_of_ble_eq_true rfl) (fun hn => CI_mono (h) (fun r2 m1 h => ?_))
    refine v_pop (pc := 116) dX12_spade_116 rfl ?_
    obtain ⟨o3, h⟩ := h
    refine m_iinc (pc := 117) (al2 := [(5, aI (x5 + 1)), (0, aR 603), (1, aI p0), (2, aI p1), (3, aI x3), (4, aI x4)]) dX12_spade_117 5 rfl (by decide) o3 rfl ?_
    refine v_goto (pc := 120) (tgt := 106) dX12_spade_120 (by decide) ?_
    exact VG_sub (al' := [(0, aR 603), (1, aI p0), (2, aI p1), (3, aI x3), (4, aI x4), (5, aI (x5 + 1))]) [1, 2, 3, 4, 5, 0] rfl h
set_option maxRecDepth 20000 in
theorem rX12_spade_126 {E : EN} (hE : Ep E) {k : Nat} {mem : Mm} {Q : Int → Mm → Prop} {p0 p1 x3 x4 x5 : Int}
    (h : (((mem 605 7) ≤ x5 → (CV E mX12_putBack k mem [aR 603, aI 16] (fun m1 => (R32 (x4 + 1)) ∧ VM E mX12_spade (k + 1) m1 70 [(0, aR 603), (1, aI p0), (2, aI p1), (3, aI x3), (4, aI (x4 + 1))] [] (retI Q)))) ∧ (x5 < (mem 605 7) → (R32 (8 + x5)) ∧ (0 ≤ (8 + x5) ∧ (8 + x5) < 5570) ∧ (0 ≤ (mem 605 (8 + x5)) ∧ (mem 605 (8 + x5)) < 32) ∧ (R32 ((mem 632 (mem 605 (8 + x5))) + 1)) ∧ (R32 (x5 + 1)) ∧ VM E mX12_spade (k + 1) (aUp mem 632 (mem 605 (8 + x5)) ((mem 632 (mem 605 (8 + x5))) + 1)) 126 [(0, aR 603), (1, aI p0), (2, aI p1), (3, aI x3), (4, aI x4), (5, aI (x5 + 1))] [] (retI Q)))) :
    VM E mX12_spade (k + 1) mem 126 [(0, aR 603), (1, aI p0), (2, aI p1), (3, aI x3), (4, aI x4), (5, aI x5)] [] (retI Q) := by
  refine v_iload (pc := 126) dX12_spade_126 5 rfl ?_
  refine v_aload_n (pc := 128) dX12_spade_128 0 rfl ?_
  refine m_getfin (pc := 129) (v := 605) hE dX12_spade_129 flX12_13 rfl at603 rfl ?_
  refine v_bipush (pc := 132) dX12_spade_132 (by decide) ?_
  refine m_iald (pc := 134) (v := (mem 605 7)) dX12_spade_134 at605 (by omega) (by omega) rfl ?_
  refine v_icmpge (pc := 135) (tgt := 163) dX12_spade_135 (by decide) (fun c1 => ?_) (fun c1 => ?_)
  · have h := h.1 c1
    refine v_aload_n (pc := 163) dX12_spade_163 0 rfl ?_
    refine v_bipush (pc := 164) dX12_spade_164 (by decide) ?_
    refine m_invV (pc := 166) (mi' := mX12_putBack) (rest := []) [aI 16] dX12_spade_166 at603 (by decide) rfl msX12_putBack mvX12_putBack lkX12_179 rfl (Nat.le_of_ble_eq_true rfl) (fun hn => CV_mono (h) (fun m1 h => ?_))
    obtain ⟨o2, h⟩ := h
    refine m_iinc (pc := 169) (al2 := [(4, aI (x4 + 1)), (0, aR 603), (1, aI p0), (2, aI p1), (3, aI x3), (5, aI x5)]) dX12_spade_169 4 rfl (by decide) o2 rfl ?_
    refine v_goto (pc := 172) (tgt := 70) dX12_spade_172 (by decide) ?_
    exact VG_sub (al' := [(0, aR 603), (1, aI p0), (2, aI p1), (3, aI x3), (4, aI (x4 + 1))]) [1, 2, 3, 4, 0] rfl h
  · have h := h.2 c1
    refine v_aload_n (pc := 138) dX12_spade_138 0 rfl ?_
    refine m_getfin (pc := 139) (v := 632) hE dX12_spade_139 flX12_136 rfl at603 rfl ?_
    refine v_aload_n (pc := 142) dX12_spade_142 0 rfl ?_
    refine m_getfin (pc := 143) (v := 605) hE dX12_spade_143 flX12_13 rfl at603 rfl ?_
    refine v_bipush (pc := 146) dX12_spade_146 (by decide) ?_
    refine v_iload (pc := 148) dX12_spade_148 5 rfl ?_
    obtain ⟨o3, h⟩ := h
    refine m_iadd (pc := 150) dX12_spade_150 o3 ?_
    obtain ⟨o4, h⟩ := h
    refine m_iald (pc := 151) (v := (mem 605 (8 + x5))) dX12_spade_151 at605 o4.1 o4.2 rfl ?_
    refine v_dup2 (pc := 152) dX12_spade_152 rfl rfl ?_
    obtain ⟨o5, h⟩ := h
    refine m_iald (pc := 153) (v := (mem 632 (mem 605 (8 + x5)))) dX12_spade_153 at632 o5.1 o5.2 rfl ?_
    refine v_iconst (pc := 154) dX12_spade_154 (by decide) ?_
    obtain ⟨o6, h⟩ := h
    refine m_iadd (pc := 155) dX12_spade_155 o6 ?_
    refine v_iast (pc := 156) dX12_spade_156 at632 o5.1 o5.2 ?_
    obtain ⟨o7, h⟩ := h
    refine m_iinc (pc := 157) (al2 := [(5, aI (x5 + 1)), (0, aR 603), (1, aI p0), (2, aI p1), (3, aI x3), (4, aI x4)]) dX12_spade_157 5 rfl (by decide) o7 rfl ?_
    refine v_goto (pc := 160) (tgt := 126) dX12_spade_160 (by decide) ?_
    exact VG_sub (al' := [(0, aR 603), (1, aI p0), (2, aI p1), (3, aI x3), (4, aI x4), (5, aI (x5 + 1))]) [1, 2, 3, 4, 5, 0] rfl h

theorem dX12_readSum_0 : decode cX12_readSum 0 = .ok (.aload_n 0, 1) := by decide +kernel
theorem dX12_readSum_1 : decode cX12_readSum 1 = .ok (.getfield 150, 3) := by decide +kernel
theorem dX12_readSum_4 : decode cX12_readSum 4 = .ok (.iload_n 1, 1) := by decide +kernel
theorem dX12_readSum_5 : decode cX12_readSum 5 = .ok (.aload_n 0, 1) := by decide +kernel
theorem dX12_readSum_6 : decode cX12_readSum 6 = .ok (.getfield 278, 3) := by decide +kernel
theorem dX12_readSum_9 : decode cX12_readSum 9 = .ok (.iastore, 1) := by decide +kernel
theorem dX12_readSum_10 : decode cX12_readSum 10 = .ok (.aload_n 0, 1) := by decide +kernel
theorem dX12_readSum_11 : decode cX12_readSum 11 = .ok (.getfield 241, 3) := by decide +kernel
theorem dX12_readSum_14 : decode cX12_readSum 14 = .ok (.ifCond .ne 8, 3) := by decide +kernel
theorem dX12_readSum_17 : decode cX12_readSum 17 = .ok (.aload_n 0, 1) := by decide +kernel
theorem dX12_readSum_18 : decode cX12_readSum 18 = .ok (.iconst 0, 1) := by decide +kernel
theorem dX12_readSum_19 : decode cX12_readSum 19 = .ok (.invokevirtual 372, 3) := by decide +kernel
theorem dX12_readSum_22 : decode cX12_readSum 22 = .ok (.aload_n 0, 1) := by decide +kernel
theorem dX12_readSum_23 : decode cX12_readSum 23 = .ok (.getfield 150, 3) := by decide +kernel
theorem dX12_readSum_26 : decode cX12_readSum 26 = .ok (.iload_n 1, 1) := by decide +kernel
theorem dX12_readSum_27 : decode cX12_readSum 27 = .ok (.iconst 1, 1) := by decide +kernel
theorem dX12_readSum_28 : decode cX12_readSum 28 = .ok (.iadd, 1) := by decide +kernel
theorem dX12_readSum_29 : decode cX12_readSum 29 = .ok (.aload_n 0, 1) := by decide +kernel
theorem dX12_readSum_30 : decode cX12_readSum 30 = .ok (.getfield 278, 3) := by decide +kernel
theorem dX12_readSum_33 : decode cX12_readSum 33 = .ok (.iastore, 1) := by decide +kernel
theorem dX12_readSum_34 : decode cX12_readSum 34 = .ok (.return_, 1) := by decide +kernel
set_option maxRecDepth 20000 in
theorem rX12_readSum_0 {E : EN} (hE : Ep E) {k : Nat} {mem : Mm} {Q : Mm → Prop} {p0 : Int}
    (h : (0 ≤ p0 ∧ p0 < 96) ∧ ((¬ (mem 603 19) = 0 → (R32 (p0 + 1)) ∧ (0 ≤ (p0 + 1) ∧ (p0 + 1) < 96) ∧ Q (aUp (aUp mem 634 p0 (mem 603 23)) 634 (p0 + 1) (mem 603 23))) ∧ ((mem 603 19) = 0 → (CV E mX12_readExpression k (aUp mem 634 p0 (mem 603 23)) [aR 603, aI 0] (fun m4 => (R32 (p0 + 1)) ∧ (0 ≤ (p0 + 1) ∧ (p0 + 1) < 96) ∧ Q (aUp m4 634 (p0 + 1) (m4 603 23))))))) :
    VM E mX12_readSum (k + 1) mem 0 [(0, aR 603), (1, aI p0)] [] (retV Q) := by
  refine v_aload_n (pc := 0) dX12_readSum_0 0 rfl ?_
  refine m_getfin (pc := 1) (v := 634) hE dX12_readSum_1 flX12_150 rfl at603 rfl ?_
  refine v_iload_n (pc := 4) dX12_readSum_4 1 rfl ?_
  refine v_aload_n (pc := 5) dX12_readSum_5 0 rfl ?_
  refine m_getf (pc := 6) (t := 0) (v := (mem 603 23)) dX12_readSum_6 flX12_278 rfl at603 rfl ?_
  obtain ⟨o1, h⟩ := h
  refine v_iast (pc := 9) dX12_readSum_9 at634 o1.1 o1.2 ?_
  refine v_aload_n (pc := 10) dX12_readSum_10 0 rfl ?_
  refine m_getf (pc := 11) (t := 0) (v := (mem 603 19)) dX12_readSum_11 flX12_241 rfl at603 (aUp_rn (by omega)) ?_
  refine v_ifne (pc := 14) (tgt := 22) dX12_readSum_14 (by decide) (fun c1 => ?_) (fun c1 => ?_)
  · have h := h.1 c1
    refine v_aload_n (pc := 22) dX12_readSum_22 0 rfl ?_
    refine m_getfin (pc := 23) (v := 634) hE dX12_readSum_23 flX12_150 rfl at603 rfl ?_
    refine v_iload_n (pc := 26) dX12_readSum_26 1 rfl ?_
    refine v_iconst (pc := 27) dX12_readSum_27 (by decide) ?_
    obtain ⟨o2, h⟩ := h
    refine m_iadd (pc := 28) dX12_readSum_28 o2 ?_
    refine v_aload_n (pc := 29) dX12_readSum_29 0 rfl ?_
    refine m_getf (pc := 30) (t := 0) (v := (mem 603 23)) dX12_readSum_30 flX12_278 rfl at603 (aUp_rn (by omega)) ?_
    obtain ⟨o3, h⟩ := h
    refine v_iast (pc := 33) dX12_readSum_33 at634 o3.1 o3.2 ?_
    exact m_retV (pc := 34) dX12_readSum_34 rfl h
  · have h := h.2 c1
    refine v_aload_n (pc := 17) dX12_readSum_17 0 rfl ?_
    refine v_iconst (pc := 18) dX12_readSum_18 (by decide) ?_
    refine m_invV (pc := 19) (mi' := mX12_readExpression) (rest := []) [aI 0] dX12_readSum_19 at603 (by decide) rfl msX12_readExpression mvX12_readExpression lkX12_372 rfl (Nat.le_of_ble_eq_true rfl) (fun hn => CV_mono (h) (fun m4 h => ?_))
    refine v_aload_n (pc := 22) dX12_readSum_22 0 rfl ?_
    refine m_getfin (pc := 23) (v := 634) hE dX12_readSum_23 flX12_150 rfl at603 rfl ?_
    refine v_iload_n (pc := 26) dX12_readSum_26 1 rfl ?_
    refine v_iconst (pc := 27) dX12_readSum_27 (by decide) ?_
    obtain ⟨o5, h⟩ := h
    refine m_iadd (pc := 28) dX12_readSum_28 o5 ?_
    refine v_aload_n (pc := 29) dX12_readSum_29 0 rfl ?_
    refine m_getf (pc := 30) (t := 0) (v := (m4 603 23)) dX12_readSum_30 flX12_278 rfl at603 rfl ?_
    obtain ⟨o6, h⟩ := h
    refine v_iast (pc := 33) dX12_readSum_33 at634 o6.1 o6.2 ?_
    exact m_retV (pc := 34) dX12_readSum_34 rfl h
theorem eX12_readSum {E : EN} {k : Nat} {mem : Mm} {Q : Mm → Prop} {p0 : Int} (hr_p0 : R32 p0) (h : VM E mX12_readSum (k + 1) mem 0 [(0, aR 603), (1, aI p0)] [] (retV Q)) : CV E mX12_readSum (k + 1) mem [aR 603, aI p0] Q := CV_of rfl (Nat.le_of_ble_eq_true rfl) h (aNs_c (aNr_R _) (aNs_c (aNr_I hr_p0) (fun _ q => nomatch q)))

theorem dX12_readOrder_0 : decode cX12_readOrder 0 = .ok (.iconst (-1), 1) := by decide +kernel
theorem dX12_readOrder_1 : decode cX12_readOrder 1 = .ok (.istore_n 1, 1) := by decide +kernel
theorem dX12_readOrder_2 : decode cX12_readOrder 2 = .ok (.iconst 0, 1) := by decide +kernel
theorem dX12_readOrder_3 : decode cX12_readOrder 3 = .ok (.istore_n 2, 1) := by decide +kernel
theorem dX12_readOrder_4 : decode cX12_readOrder 4 = .ok (.iload_n 2, 1) := by decide +kernel
theorem dX12_readOrder_5 : decode cX12_readOrder 5 = .ok (.iconst 4, 1) := by decide +kernel
theorem dX12_readOrder_6 : decode cX12_readOrder 6 = .ok (.if_icmp .ge 28, 3) := by decide +kernel
theorem dX12_readOrder_9 : decode cX12_readOrder 9 = .ok (.aload_n 0, 1) := by decide +kernel
theorem dX12_readOrder_10 : decode cX12_readOrder 10 = .ok (.aload_n 0, 1) := by decide +kernel
theorem dX12_readOrder_11 : decode cX12_readOrder 11 = .ok (.getfield 147, 3) := by decide +kernel
theorem dX12_readOrder_14 : decode cX12_readOrder 14 = .ok (.iload_n 2, 1) := by decide +kernel
theorem dX12_readOrder_15 : decode cX12_readOrder 15 = .ok (.laload, 1) := by decide +kernel
theorem dX12_readOrder_16 : decode cX12_readOrder 16 = .ok (.invokevirtual 298, 3) := by decide +kernel
theorem dX12_readOrder_19 : decode cX12_readOrder 19 = .ok (.ifCond .eq 7, 3) := by decide +kernel
theorem dX12_readOrder_22 : decode cX12_readOrder 22 = .ok (.iload_n 2, 1) := by decide +kernel
theorem dX12_readOrder_23 : decode cX12_readOrder 23 = .ok (.goto 4, 3) := by decide +kernel
theorem dX12_readOrder_26 : decode cX12_readOrder 26 = .ok (.iload_n 1, 1) := by decide +kernel
theorem dX12_readOrder_27 : decode cX12_readOrder 27 = .ok (.istore_n 1, 1) := by decide +kernel
theorem dX12_readOrder_28 : decode cX12_readOrder 28 = .ok (.iinc 2 1, 3) := by decide +kernel
theorem dX12_readOrder_31 : decode cX12_readOrder 31 = .ok (.goto (-27), 3) := by decide +kernel
theorem dX12_readOrder_34 : decode cX12_readOrder 34 = .ok (.aload_n 0, 1) := by decide +kernel
theorem dX12_readOrder_35 : decode cX12_readOrder 35 = .ok (.iload_n 1, 1) := by decide +kernel
theorem dX12_readOrder_36 : decode cX12_readOrder 36 = .ok (.iconst (-1), 1) := by decide +kernel
theorem dX12_readOrder_37 : decode cX12_readOrder 37 = .ok (.if_icmp .eq 16, 3) := by decide +kernel
theorem dX12_readOrder_40 : decode cX12_readOrder 40 = .ok (.aload_n 0, 1) := by decide +kernel
theorem dX12_readOrder_41 : decode cX12_readOrder 41 = .ok (.getfield 369, 3) := by decide +kernel
theorem dX12_readOrder_44 : decode cX12_readOrder 44 = .ok (.bipush 12, 2) := by decide +kernel
theorem dX12_readOrder_46 : decode cX12_readOrder 46 = .ok (.if_icmp .ge 7, 3) := by decide +kernel
theorem dX12_readOrder_49 : decode cX12_readOrder 49 = .ok (.iconst 1, 1) := by decide +kernel
theorem dX12_readOrder_50 : decode cX12_readOrder 50 = .ok (.goto 4, 3) := by decide +kernel
theorem dX12_readOrder_53 : decode cX12_readOrder 53 = .ok (.iconst 0, 1) := by decide +kernel
theorem dX12_readOrder_54 : decode cX12_readOrder 54 = .ok (.invokevirtual 274, 3) := by decide +kernel
theorem dX12_readOrder_57 : decode cX12_readOrder 57 = .ok (.aload_n 0, 1) := by decide +kernel
theorem dX12_readOrder_58 : decode cX12_readOrder 58 = .ok (.getfield 241, 3) := by decide +kernel
theorem dX12_readOrder_61 : decode cX12_readOrder 61 = .ok (.ifCond .eq 4, 3) := by decide +kernel
theorem dX12_readOrder_64 : decode cX12_readOrder 64 = .ok (.return_, 1) := by decide +kernel
theorem dX12_readOrder_65 : decode cX12_readOrder 65 = .ok (.bipush 8, 2) := by decide +kernel
theorem dX12_readOrder_67 : decode cX12_readOrder 67 = .ok (.aload_n 0, 1) := by decide +kernel
theorem dX12_readOrder_68 : decode cX12_readOrder 68 = .ok (.getfield 369, 3) := by decide +kernel
theorem dX12_readOrder_71 : decode cX12_readOrder 71 = .ok (.imul, 1) := by decide +kernel
theorem dX12_readOrder_72 : decode cX12_readOrder 72 = .ok (.istore_n 2, 1) := by decide +kernel
theorem dX12_readOrder_73 : decode cX12_readOrder 73 = .ok (.aload_n 0, 1) := by decide +kernel
theorem dX12_readOrder_74 : decode cX12_readOrder 74 = .ok (.dup, 1) := by decide +kernel
theorem dX12_readOrder_75 : decode cX12_readOrder 75 = .ok (.getfield 369, 3) := by decide +kernel
theorem dX12_readOrder_78 : decode cX12_readOrder 78 = .ok (.iconst 1, 1) := by decide +kernel
theorem dX12_readOrder_79 : decode cX12_readOrder 79 = .ok (.iadd, 1) := by decide +kernel
theorem dX12_readOrder_80 : decode cX12_readOrder 80 = .ok (.putfield 369, 3) := by decide +kernel
theorem dX12_readOrder_83 : decode cX12_readOrder 83 = .ok (.iconst 0, 1) := by decide +kernel
theorem dX12_readOrder_84 : decode cX12_readOrder 84 = .ok (.istore_n 3, 1) := by decide +kernel
theorem dX12_readOrder_85 : decode cX12_readOrder 85 = .ok (.iload_n 3, 1) := by decide +kernel
theorem dX12_readOrder_86 : decode cX12_readOrder 86 = .ok (.bipush 8, 2) := by decide +kernel
theorem dX12_readOrder_88 : decode cX12_readOrder 88 = .ok (.if_icmp .ge 18, 3) := by decide +kernel
theorem dX12_readOrder_91 : decode cX12_readOrder 91 = .ok (.aload_n 0, 1) := by decide +kernel
theorem dX12_readOrder_92 : decode cX12_readOrder 92 = .ok (.getfield 150, 3) := by decide +kernel
theorem dX12_readOrder_95 : decode cX12_readOrder 95 = .ok (.iload_n 2, 1) := by decide +kernel
theorem dX12_readOrder_96 : decode cX12_readOrder 96 = .ok (.iload_n 3, 1) := by decide +kernel
theorem dX12_readOrder_97 : decode cX12_readOrder 97 = .ok (.iadd, 1) := by decide +kernel
theorem dX12_readOrder_98 : decode cX12_readOrder 98 = .ok (.iconst 0, 1) := by decide +kernel
theorem dX12_readOrder_99 : decode cX12_readOrder 99 = .ok (.iastore, 1) := by decide +kernel
theorem dX12_readOrder_100 : decode cX12_readOrder 100 = .ok (.iinc 3 1, 3) := by decide +kernel
theorem dX12_readOrder_103 : decode cX12_readOrder 103 = .ok (.goto (-18), 3) := by decide +kernel
theorem dX12_readOrder_106 : decode cX12_readOrder 106 = .ok (.aload_n 0, 1) := by decide +kernel
theorem dX12_readOrder_107 : decode cX12_readOrder 107 = .ok (.getfield 150, 3) := by decide +kernel
theorem dX12_readOrder_110 : decode cX12_readOrder 110 = .ok (.iload_n 2, 1) := by decide +kernel
theorem dX12_readOrder_111 : decode cX12_readOrder 111 = .ok (.iload_n 1, 1) := by decide +kernel
theorem dX12_readOrder_112 : decode cX12_readOrder 112 = .ok (.iastore, 1) := by decide +kernel
theorem dX12_readOrder_113 : decode cX12_readOrder 113 = .ok (.iload_n 1, 1) := by decide +kernel
theorem dX12_readOrder_114 : decode cX12_readOrder 114 = .ok (.iconst 3, 1) := by decide +kernel
theorem dX12_readOrder_115 : decode cX12_readOrder 115 = .ok (.if_icmp .eq 10, 3) := by decide +kernel
theorem dX12_readOrder_118 : decode cX12_readOrder 118 = .ok (.aload_n 0, 1) := by decide +kernel
theorem dX12_readOrder_119 : decode cX12_readOrder 119 = .ok (.iload_n 2, 1) := by decide +kernel
theorem dX12_readOrder_120 : decode cX12_readOrder 120 = .ok (.iconst 1, 1) := by decide +kernel
theorem dX12_readOrder_121 : decode cX12_readOrder 121 = .ok (.iadd, 1) := by decide +kernel
theorem dX12_readOrder_122 : decode cX12_readOrder 122 = .ok (.invokevirtual 511, 3) := by decide +kernel
theorem dX12_readOrder_125 : decode cX12_readOrder 125 = .ok (.iload_n 1, 1) := by decide +kernel
theorem dX12_readOrder_126 : decode cX12_readOrder 126 = .ok (.ifCond .ne 28, 3) := by decide +kernel
theorem dX12_readOrder_129 : decode cX12_readOrder 129 = .ok (.aload_n 0, 1) := by decide +kernel
theorem dX12_readOrder_130 : decode cX12_readOrder 130 = .ok (.getfield 241, 3) := by decide +kernel
theorem dX12_readOrder_133 : decode cX12_readOrder 133 = .ok (.ifCond .ne 14, 3) := by decide +kernel
theorem dX12_readOrder_136 : decode cX12_readOrder 136 = .ok (.aload_n 0, 1) := by decide +kernel
theorem dX12_readOrder_137 : decode cX12_readOrder 137 = .ok (.aload_n 0, 1) := by decide +kernel
theorem dX12_readOrder_138 : decode cX12_readOrder 138 = .ok (.ldc2_w 87, 3) := by decide +kernel
theorem dX12_readOrder_141 : decode cX12_readOrder 141 = .ok (.invokevirtual 298, 3) := by decide +kernel
theorem dX12_readOrder_144 : decode cX12_readOrder 144 = .ok (.invokevirtual 274, 3) := by decide +kernel
theorem dX12_readOrder_147 : decode cX12_readOrder 147 = .ok (.aload_n 0, 1) := by decide +kernel
theorem dX12_readOrder_148 : decode cX12_readOrder 148 = .ok (.iload_n 2, 1) := by decide +kernel
theorem dX12_readOrder_149 : decode cX12_readOrder 149 = .ok (.iconst 3, 1) := by decide +kernel
theorem dX12_readOrder_150 : decode cX12_readOrder 150 = .ok (.iadd, 1) := by decide +kernel
theorem dX12_readOrder_151 : decode cX12_readOrder 151 = .ok (.invokevirtual 511, 3) := by decide +kernel
theorem dX12_readOrder_154 : decode cX12_readOrder 154 = .ok (.aload_n 0, 1) := by decide +kernel
theorem dX12_readOrder_155 : decode cX12_readOrder 155 = .ok (.getfield 150, 3) := by decide +kernel
theorem dX12_readOrder_158 : decode cX12_readOrder 158 = .ok (.iload_n 2, 1) := by decide +kernel
theorem dX12_readOrder_159 : decode cX12_readOrder 159 = .ok (.bipush 7, 2) := by decide +kernel
theorem dX12_readOrder_161 : decode cX12_readOrder 161 = .ok (.iadd, 1) := by decide +kernel
theorem dX12_readOrder_162 : decode cX12_readOrder 162 = .ok (.iconst 1, 1) := by decide +kernel
theorem dX12_readOrder_163 : decode cX12_readOrder 163 = .ok (.iastore, 1) := by decide +kernel
theorem dX12_readOrder_164 : decode cX12_readOrder 164 = .ok (.aload_n 0, 1) := by decide +kernel
theorem dX12_readOrder_165 : decode cX12_readOrder 165 = .ok (.getfield 241, 3) := by decide +kernel
theorem dX12_readOrder_168 : decode cX12_readOrder 168 = .ok (.ifCond .ne 34, 3) := by decide +kernel
theorem dX12_readOrder_171 : decode cX12_readOrder 171 = .ok (.aload_n 0, 1) := by decide +kernel
theorem dX12_readOrder_172 : decode cX12_readOrder 172 = .ok (.ldc2_w 514, 3) := by decide +kernel
theorem dX12_readOrder_175 : decode cX12_readOrder 175 = .ok (.invokevirtual 298, 3) := by decide +kernel
theorem dX12_readOrder_178 : decode cX12_readOrder 178 = .ok (.ifCond .eq 24, 3) := by decide +kernel
theorem dX12_readOrder_181 : decode cX12_readOrder 181 = .ok (.aload_n 0, 1) := by decide +kernel
theorem dX12_readOrder_182 : decode cX12_readOrder 182 = .ok (.invokevirtual 245, 3) := by decide +kernel
theorem dX12_readOrder_185 : decode cX12_readOrder 185 = .ok (.aload_n 0, 1) := by decide +kernel
theorem dX12_readOrder_186 : decode cX12_readOrder 186 = .ok (.getfield 150, 3) := by decide +kernel
theorem dX12_readOrder_189 : decode cX12_readOrder 189 = .ok (.iload_n 2, 1) := by decide +kernel
theorem dX12_readOrder_190 : decode cX12_readOrder 190 = .ok (.bipush 7, 2) := by decide +kernel
theorem dX12_readOrder_192 : decode cX12_readOrder 192 = .ok (.iadd, 1) := by decide +kernel
theorem dX12_readOrder_193 : decode cX12_readOrder 193 = .ok (.aload_n 0, 1) := by decide +kernel
theorem dX12_readOrder_194 : decode cX12_readOrder 194 = .ok (.lconst 1, 1) := by decide +kernel
theorem dX12_readOrder_195 : decode cX12_readOrder 195 = .ok (.ldc2_w 290, 3) := by decide +kernel
theorem dX12_readOrder_198 : decode cX12_readOrder 198 = .ok (.invokevirtual 333, 3) := by decide +kernel
theorem dX12_readOrder_201 : decode cX12_readOrder 201 = .ok (.iastore, 1) := by decide +kernel
theorem dX12_readOrder_202 : decode cX12_readOrder 202 = .ok (.aload_n 0, 1) := by decide +kernel
theorem dX12_readOrder_203 : decode cX12_readOrder 203 = .ok (.getfield 150, 3) := by decide +kernel
theorem dX12_readOrder_206 : decode cX12_readOrder 206 = .ok (.iload_n 2, 1) := by decide +kernel
theorem dX12_readOrder_207 : decode cX12_readOrder 207 = .ok (.iconst 5, 1) := by decide +kernel
theorem dX12_readOrder_208 : decode cX12_readOrder 208 = .ok (.iadd, 1) := by decide +kernel
theorem dX12_readOrder_209 : decode cX12_readOrder 209 = .ok (.aload_n 0, 1) := by decide +kernel
theorem dX12_readOrder_210 : decode cX12_readOrder 210 = .ok (.getfield 278, 3) := by decide +kernel
theorem dX12_readOrder_213 : decode cX12_readOrder 213 = .ok (.iastore, 1) := by decide +kernel
theorem dX12_readOrder_214 : decode cX12_readOrder 214 = .ok (.aload_n 0, 1) := by decide +kernel
theorem dX12_readOrder_215 : decode cX12_readOrder 215 = .ok (.getfield 241, 3) := by decide +kernel
theorem dX12_readOrder_218 : decode cX12_readOrder 218 = .ok (.ifCond .ne 22, 3) := by decide +kernel
theorem dX12_readOrder_221 : decode cX12_readOrder 221 = .ok (.aload_n 0, 1) := by decide +kernel
theorem dX12_readOrder_222 : decode cX12_readOrder 222 = .ok (.ldc2_w 375, 3) := by decide +kernel
theorem dX12_readOrder_225 : decode cX12_readOrder 225 = .ok (.invokevirtual 298, 3) := by decide +kernel
theorem dX12_readOrder_228 : decode cX12_readOrder 228 = .ok (.ifCond .eq 12, 3) := by decide +kernel
theorem dX12_readOrder_231 : decode cX12_readOrder 231 = .ok (.aload_n 0, 1) := by decide +kernel
theorem dX12_readOrder_232 : decode cX12_readOrder 232 = .ok (.invokevirtual 245, 3) := by decide +kernel
theorem dX12_readOrder_235 : decode cX12_readOrder 235 = .ok (.aload_n 0, 1) := by decide +kernel
theorem dX12_readOrder_236 : decode cX12_readOrder 236 = .ok (.iconst 1, 1) := by decide +kernel
theorem dX12_readOrder_237 : decode cX12_readOrder 237 = .ok (.invokevirtual 372, 3) := by decide +kernel
theorem dX12_readOrder_240 : decode cX12_readOrder 240 = .ok (.aload_n 0, 1) := by decide +kernel
theorem dX12_readOrder_241 : decode cX12_readOrder 241 = .ok (.getfield 150, 3) := by decide +kernel
theorem dX12_readOrder_244 : decode cX12_readOrder 244 = .ok (.iload_n 2, 1) := by decide +kernel
theorem dX12_readOrder_245 : decode cX12_readOrder 245 = .ok (.bipush 6, 2) := by decide +kernel
theorem dX12_readOrder_247 : decode cX12_readOrder 247 = .ok (.iadd, 1) := by decide +kernel
theorem dX12_readOrder_248 : decode cX12_readOrder 248 = .ok (.aload_n 0, 1) := by decide +kernel
theorem dX12_readOrder_249 : decode cX12_readOrder 249 = .ok (.getfield 278, 3) := by decide +kernel
theorem dX12_readOrder_252 : decode cX12_readOrder 252 = .ok (.iastore, 1) := by decide +kernel
theorem dX12_readOrder_253 : decode cX12_readOrder 253 = .ok (.return_, 1) := by decide +kernel
set_option maxRecDepth 20000 in
theorem rX12_readOrder_0 {E : EN} (hE : Ep E) {k : Nat} {mem : Mm} {Q : Mm → Prop}
    (h : VM E mX12_readOrder (k + 1) mem 4 [(0, aR 603), (1, aI (-1)), (2, aI 0)] [] (retV Q)) :
    VM E mX12_readOrder (k + 1) mem 0 [(0, aR 603)] [] (retV Q) := by
  refine v_iconst (pc := 0) dX12_readOrder_0 (by decide) ?_
  refine v_istore_n (pc := 1) (al2 := [(1, aI (-1)), (0, aR 603)]) dX12_readOrder_1 (by decide) rfl ?_
  refine v_iconst (pc := 2) dX12_readOrder_2 (by decide) ?_
  refine v_istore_n (pc := 3) (al2 := [(2, aI 0), (1, aI (-1)), (0, aR 603)]) dX12_readOrder_3 (by decide) rfl ?_
  exact VG_sub (al' := [(0, aR 603), (1, aI (-1)), (2, aI 0)]) [2, 1, 0] rfl h
theorem eX12_readOrder {E : EN} {k : Nat} {mem : Mm} {Q : Mm → Prop}  (h : VM E mX12_readOrder (k + 1) mem 0 [(0, aR 603)] [] (retV Q)) : CV E mX12_readOrder (k + 1) mem [aR 603] Q := CV_of rfl (Nat.le_of_ble_eq_true rfl) h (aNs_c (aNr_R _) (fun _ q => nomatch q))
set_option maxRecDepth 20000 in
theorem rX12_readOrder_4 {E : EN} (hE : Ep E) {k : Nat} {mem : Mm} {Q : Mm → Prop} {x1 x2 : Int}
    (h : ((4 ≤ x2 → ((x1 = (-1) → (CV E mX12_must k mem [aR 603, aI 0] (fun m1 => (((m1 603 19) = 0 → (R32 (8 * (m1 603 21))) ∧ (R32 ((m1 603 21) + 1)) ∧ VM E mX12_readOrder (k + 1) (aUp m1 603 21 ((m1 603 21) + 1)) 85 [(0, aR 603), (1, aI x1), (2, aI (8 * (m1 603 21))), (3, aI 0)] [] (retV Q)) ∧ (¬ (m1 603 19) = 0 → Q m1))))) ∧ (¬ x1 = (-1) → ((12 ≤ (mem 603 21) → (CV E mX12_must k mem [aR 603, aI 0] (fun m4 => (((m4 603 19) = 0 → (R32 (8 * (m4 603 21))) ∧ (R32 ((m4 603 21) + 1)) ∧ VM E mX12_readOrder (k + 1) (aUp m4 603 21 ((m4 603 21) + 1)) 85 [(0, aR 603), (1, aI x1), (2, aI (8 * (m4 603 21))), (3, aI 0)] [] (retV Q)) ∧ (¬ (m4 603 19) = 0 → Q m4))))) ∧ ((mem 603 21) < 12 → (CV E mX12_must k mem [aR 603, aI 1] (fun m7 => (((m7 603 19) = 0 → (R32 (8 * (m7 603 21))) ∧ (R32 ((m7 603 21) + 1)) ∧ VM E mX12_readOrder (k + 1) (aUp m7 603 21 ((m7 603 21) + 1)) 85 [(0, aR 603), (1, aI x1), (2, aI (8 * (m7 603 21))), (3, aI 0)] [] (retV Q)) ∧ (¬ (m7 603 19) = 0 → Q m7))))))))) ∧ (x2 < 4 → (0 ≤ x2 ∧ x2 < 4) ∧ (R64 (mem 633 x2) → CI E mX12_isWord k mem [aR 603, aL (mem 633 x2)] (fun r12 m11 => ((r12 = 0 → (R32 (x2 + 1)) ∧ VM E mX12_readOrder (k + 1) m11 4 [(0, aR 603), (1, aI x1), (2, aI (x2 + 1))] [] (retV Q)) ∧ (¬ r12 = 0 → (R32 (x2 + 1)) ∧ VM E mX12_readOrder (k + 1) m11 4 [(0, aR 603), (1, aI x2), (2, aI (x2 + 1))] [] (retV Q)))))))) :
    VM E mX12_readOrder (k + 1) mem 4 [(0, aR 603), (1, aI x1), (2, aI x2)] [] (retV Q) := by
  refine v_iload_n (pc := 4) dX12_readOrder_4 2 rfl ?_
  refine v_iconst (pc := 5) dX12_readOrder_5 (by decide) ?_
  refine v_icmpge (pc := 6) (tgt := 34) dX12_readOrder_6 (by decide) (fun c1 => ?_) (fun c1 => ?_)
  · have h := h.1 c1
    refine v_aload_n (pc := 34) dX12_readOrder_34 0 rfl ?_
    refine v_iload_n (pc := 35) dX12_readOrder_35 1 rfl ?_
    refine v_iconst (pc := 36) dX12_readOrder_36 (by decide) ?_
    refine v_icmpeq (pc := 37) (tgt := 53) dX12_readOrder_37 (by decide) (fun c1 => ?_) (fun c1 => ?_)
    · have h := h.1 c1
      refine v_iconst (pc := 53) dX12_readOrder_53 (by decide) ?_
      refine m_invV (pc := 54) (mi' := mX12_must) (rest := []) [aI 0] dX12_readOrder_54 at603 (by decide) rfl msX12_must mvX12_must lkX12_274 rfl (Nat.le_of_ble_eq_true rfl) (fun hn => CV_mono (h) (fun m1 h => ?_))
      refine v_aload_n (pc := 57) dX12_readOrder_57 0 rfl ?_
      refine m_getf (pc := 58) (t := 0) (v := (m1 603 19)) dX12_readOrder_58 flX12_241 rfl at603 rfl ?_
      refine v_ifeq (pc := 61) (tgt := 65) dX12_readOrder_61 (by decide) (fun c1 => ?_) (fun c1 => ?_)
      · have h := h.1 c1
        refine v_bipush (pc := 65) dX12_readOrder_65 (by decide) ?_
        refine v_aload_n (pc := 67) dX12_readOrder_67 0 rfl ?_
        refine m_getf (pc := 68) (t := 0) (v := (m1 603 21)) dX12_readOrder_68 flX12_369 rfl at603 rfl ?_
        obtain ⟨o2, h⟩ := h
        refine m_imul (pc := 71) dX12_readOrder_71 o2 ?_
        refine v_istore_n (pc := 72) (al2 := [(2, aI (8 * (m1 603 21))), (0, aR 603), (1, aI x1)]) dX12_readOrder_72 (by decide) rfl ?_
        refine v_aload_n (pc := 73) dX12_readOrder_73 1 rfl ?_
        refine v_dup (pc := 74) dX12_readOrder_74 rfl ?_
        refine m_getf (pc := 75) (t := 0) (v := (m1 603 21)) dX12_readOrder_75 flX12_369 rfl at603 rfl ?_
        refine v_iconst (pc := 78) dX12_readOrder_78 (by decide) ?_
        obtain ⟨o3, h⟩ := h
        refine m_iadd (pc := 79) dX12_readOrder_79 o3 ?_
        refine v_putf (pc := 80) dX12_readOrder_80 flX12_369 ⟨_, _, rfl, Or.inl rfl⟩ rfl (by decide) (fun q => nomatch q) (Or.inl fun _ => rfl) at603 ?_
        refine v_iconst (pc := 83) dX12_readOrder_83 (by decide) ?_
        refine v_istore_n (pc := 84) (al2 := [(3, aI 0), (2, aI (8 * (m1 603 21))), (0, aR 603), (1, aI x1)]) dX12_readOrder_84 (by decide) rfl ?_
        exact VG_sub (al' := [(0, aR 603), (1, aI x1), (2, aI (8 * (m1 603 21))), (3, aI 0)]) [2, 3, 1, 0] rfl h
      · have h := h.2 c1
        exact m_retV (pc := 64) dX12_readOrder_64 rfl h
    · have h := h.2 c1
      refine v_aload_n (pc := 40) dX12_readOrder_40 0 rfl ?_
      refine m_getf (pc := 41) (t := 0) (v := (mem 603 21)) dX12_readOrder_41 flX12_369 rfl at603 rfl ?_
      refine v_bipush (pc := 44) dX12_readOrder_44 (by decide) ?_
      refine v_icmpge (pc := 46) (tgt := 53) dX12_readOrder_46 (by decide) (fun c1 => ?_) (fun c1 => ?_)
      · have h := h.1 c1
        refine v_iconst (pc := 53) dX12_readOrder_53 (by decide) ?_
        refine m_invV (pc := 54) (mi' := mX12_must) (rest := []) [aI 0] dX12_readOrder_54 at603 (by decide) rfl msX12_must mvX12_must lkX12_274 rfl (Nat.le_of_ble_eq_true rfl) (fun hn => CV_mono (h) (fun m4 h => ?_))
        refine v_aload_n (pc := 57) dX12_readOrder_57 0 rfl ?_
        refine m_getf (pc := 58) (t := 0) (v := (m4 603 19)) dX12_readOrder_58 flX12_241 rfl at603 rfl ?_
        refine v_ifeq (pc := 61) (tgt := 65) dX12_readOrder_61 (by decide) (fun c1 => ?_) (fun c1 => ?_)
        · have h := h.1 c1
          refine v_bipush (pc := 65) dX12_readOrder_65 (by decide) ?_
          refine v_aload_n (pc := 67) dX12_readOrder_67 0 rfl ?_
          refine m_getf (pc := 68) (t := 0) (v := (m4 603 21)) dX12_readOrder_68 flX12_369 rfl at603 rfl ?_
          obtain ⟨o5, h⟩ := h
          refine m_imul (pc := 71) dX12_readOrder_71 o5 ?_
          refine v_istore_n (pc := 72) (al2 := [(2, aI (8 * (m4 603 21))), (0, aR 603), (1, aI x1)]) dX12_readOrder_72 (by decide) rfl ?_
          refine v_aload_n (pc := 73) dX12_readOrder_73 1 rfl ?_
          refine v_dup (pc := 74) dX12_readOrder_74 rfl ?_
          refine m_getf (pc := 75) (t := 0) (v := (m4 603 21)) dX12_readOrder_75 flX12_369 rfl at603 rfl ?_
          refine v_iconst (pc := 78) dX12_readOrder_78 (by decide) ?_
          obtain ⟨o6, h⟩ := h
          refine m_iadd (pc := 79) dX12_readOrder_79 o6 ?_
          refine v_putf (pc := 80) dX12_readOrder_80 flX12_369 ⟨_, _, rfl, Or.inl rfl⟩ rfl (by decide) (fun q => nomatch q) (Or.inl fun _ => rfl) at603 ?_
          refine v_iconst (pc := 83) dX12_readOrder_83 (by decide) ?_
          refine v_istore_n (pc := 84) (al2 := [(3, aI 0), (2, aI (8 * (m4 603 21))), (0, aR 603), (1, aI x1)]) dX12_readOrder_84 (by decide) rfl ?_
          exact VG_sub (al' := [(0, aR 603), (1, aI x1), (2, aI (8 * (m4 603 21))), (3, aI 0)]) [2, 3, 1, 0] rfl h
        · have h := h.2 c1
          exact m_retV (pc := 64) dX12_readOrder_64 rfl h
      · have h := h.2 c1
        refine v_iconst (pc := 49) dX12_readOrder_49 (by decide) ?_
        refine v_goto (pc := 50) (tgt := 54) dX12_readOrder_50 (by decide) ?_
        refine m_invV (pc := 54) (mi' := mX12_must) (rest := []) [aI 1] dX12_readOrder_54 at603 (by decide) rfl msX12_must mvX12_must lkX12_274 rfl (Nat.le_of_ble_eq_true rfl) (fun hn => CV_mono (h) (fun m7 h => ?_))
        refine v_aload_n (pc := 57) dX12_readOrder_57 0 rfl ?_
        refine m_getf (pc := 58) (t := 0) (v := (m7 603 19)) dX12_readOrder_58 flX12_241 rfl at603 rfl ?_
        refine v_ifeq (pc := 61) (tgt := 65) dX12_readOrder_61 (by decide) (fun c1 => ?_) (fun c1 => ?_)
        · have h := h.1 c1
          refine v_bipush (pc := 65) dX12_readOrder_65 (by decide) ?_
          refine v_aload_n (pc := 67) dX12_readOrder_67 0 rfl ?_
          refine m_getf (pc := 68) (t := 0) (v := (m7 603 21)) dX12_readOrder_68 flX12_369 rfl at603 rfl ?_
          obtain ⟨o8, h⟩ := h
          refine m_imul (pc := 71) dX12_readOrder_71 o8 ?_
          refine v_istore_n (pc := 72) (al2 := [(2, aI (8 * (m7 603 21))), (0, aR 603), (1, aI x1)]) dX12_readOrder_72 (by decide) rfl ?_
          refine v_aload_n (pc := 73) dX12_readOrder_73 1 rfl ?_
          refine v_dup (pc := 74) dX12_readOrder_74 rfl ?_
          refine m_getf (pc := 75) (t := 0) (v := (m7 603 21)) dX12_readOrder_75 flX12_369 rfl at603 rfl ?_
          refine v_iconst (pc := 78) dX12_readOrder_78 (by decide) ?_
          obtain ⟨o9, h⟩ := h
          refine m_iadd (pc := 79) dX12_readOrder_79 o9 ?_
          refine v_putf (pc := 80) dX12_readOrder_80 flX12_369 ⟨_, _, rfl, Or.inl rfl⟩ rfl (by decide) (fun q => nomatch q) (Or.inl fun _ => rfl) at603 ?_
          refine v_iconst (pc := 83) dX12_readOrder_83 (by decide) ?_
          refine v_istore_n (pc := 84) (al2 := [(3, aI 0), (2, aI (8 * (m7 603 21))), (0, aR 603), (1, aI x1)]) dX12_readOrder_84 (by decide) rfl ?_
          exact VG_sub (al' := [(0, aR 603), (1, aI x1), (2, aI (8 * (m7 603 21))), (3, aI 0)]) [2, 3, 1, 0] rfl h
        · have h := h.2 c1
          exact m_retV (pc := 64) dX12_readOrder_64 rfl h
  · have h := h.2 c1
    refine v_aload_n (pc := 9) dX12_readOrder_9 0 rfl ?_
    refine v_aload_n (pc := 10) dX12_readOrder_10 0 rfl ?_
    refine m_getfin (pc := 11) (v := 633) hE dX12_readOrder_11 flX12_147 rfl at603 rfl ?_
    refine v_iload_n (pc := 14) dX12_readOrder_14 2 rfl ?_
    obtain ⟨o10, h⟩ := h
    refine m_lald (pc := 15) (v := (mem 633 x2)) dX12_readOrder_15 at633 o10.1 o10.2 rfl ?_
    refine m_invI (pc := 16) (mi' := mX12_isWord) (rest := []) [aL (mem 633 x2)] dX12_readOrder_16 at603 (by decide) rfl msX12_isWord mvX12_isWord lkX12_298 rfl (Nat.le_of_ble_eq_true rfl) (fun hn => CI_mono (h (aaL hn 1 rfl)) (fun r12 m11 h => ?_))
    refine v_ifeq (pc := 19) (tgt := 26) dX12_readOrder_19 (by decide) (fun c1 => ?_) (fun c1 => ?_)
    · have h := h.1 c1
      refine v_iload_n (pc := 26) dX12_readOrder_26 1 rfl ?_
      refine v_istore_n (pc := 27) (al2 := [(1, aI x1), (0, aR 603), (2, aI x2)]) dX12_readOrder_27 (by decide) rfl ?_
      obtain ⟨o13, h⟩ := h
      refine m_iinc (pc := 28) (al2 := [(2, aI (x2 + 1)), (1, aI x1), (0, aR 603)]) dX12_readOrder_28 2 rfl (by decide) o13 rfl ?_
      refine v_goto (pc := 31) (tgt := 4) dX12_readOrder_31 (by decide) ?_
      exact VG_sub (al' := [(0, aR 603), (1, aI x1), (2, aI (x2 + 1))]) [2, 1, 0] rfl h
    · have h := h.2 c1
      refine v_iload_n (pc := 22) dX12_readOrder_22 2 rfl ?_
      refine v_goto (pc := 23) (tgt := 27) dX12_readOrder_23 (by decide) ?_
      refine v_istore_n (pc := 27) (al2 := [(1, aI x2), (0, aR 603), (2, aI x2)]) dX12_readOrder_27 (by decide) rfl ?_
      obtain ⟨o14, h⟩ := h
      refine m_iinc (pc := 28) (al2 := [(2, aI (x2 + 1)), (1, aI x2), (0, aR 603)]) dX12_readOrder_28 2 rfl (by decide) o14 rfl ?_
      refine v_goto (pc := 31) (tgt := 4) dX12_readOrder_31 (by decide) ?_
      exact VG_sub (al' := [(0, aR 603), (1, aI x2), (2, aI (x2 + 1))]) [2, 1, 0] rfl h
set_option maxRecDepth 20000 in
theorem rX12_readOrder_85 {E : EN} (hE : Ep E) {k : Nat} {mem : Mm} {Q : Mm → Prop} {x1 x2 x3 : Int}
    (h : ((8 ≤ x3 → (0 ≤ x2 ∧ x2 < 96) ∧ ((x1 = 3 → VM E mX12_readOrder (k + 1) (aUp mem 634 x2 x1) 125 [(0, aR 603), (1, aI x1), (2, aI x2)] [] (retV Q)) ∧ (¬ x1 = 3 → (R32 (x2 + 1)) ∧ (R32 (x2 + 1) → CV E mX12_readSum k (aUp mem 634 x2 x1) [aR 603, aI (x2 + 1)] (fun m3 => VM E mX12_readOrder (k + 1) m3 125 [(0, aR 603), (1, aI x1), (2, aI x2)] [] (retV Q)))))) ∧ (x3 < 8 → (R32 (x2 + x3)) ∧ (0 ≤ (x2 + x3) ∧ (x2 + x3) < 96) ∧ (R32 (x3 + 1)) ∧ VM E mX12_readOrder (k + 1) (aUp mem 634 (x2 + x3) 0) 85 [(0, aR 603), (1, aI x1), (2, aI x2), (3, aI (x3 + 1))] [] (retV Q)))) :
    VM E mX12_readOrder (k + 1) mem 85 [(0, aR 603), (1, aI x1), (2, aI x2), (3, aI x3)] [] (retV Q) := by
  refine v_iload_n (pc := 85) dX12_readOrder_85 3 rfl ?_
  refine v_bipush (pc := 86) dX12_readOrder_86 (by decide) ?_
  refine v_icmpge (pc := 88) (tgt := 106) dX12_readOrder_88 (by decide) (fun c1 => ?_) (fun c1 => ?_)
  · have h := h.1 c1
    refine v_aload_n (pc := 106) dX12_readOrder_106 0 rfl ?_
    refine m_getfin (pc := 107) (v := 634) hE dX12_readOrder_107 flX12_150 rfl at603 rfl ?_
    refine v_iload_n (pc := 110) dX12_readOrder_110 2 rfl ?_
    refine v_iload_n (pc := 111) dX12_readOrder_111 1 rfl ?_
    obtain ⟨o1, h⟩ := h
    refine v_iast (pc := 112) dX12_readOrder_112 at634 o1.1 o1.2 ?_
    refine v_iload_n (pc := 113) dX12_readOrder_113 1 rfl ?_
    refine v_iconst (pc := 114) dX12_readOrder_114 (by decide) ?_
    refine v_icmpeq (pc := 115) (tgt := 125) dX12_readOrder_115 (by decide) (fun c1 => ?_) (fun c1 => ?_)
    · have h := h.1 c1
      exact VG_sub (al' := [(0, aR 603), (1, aI x1), (2, aI x2)]) [0, 1, 2] rfl h
    · have h := h.2 c1
      refine v_aload_n (pc := 118) dX12_readOrder_118 0 rfl ?_
      refine v_iload_n (pc := 119) dX12_readOrder_119 2 rfl ?_
      refine v_iconst (pc := 120) dX12_readOrder_120 (by decide) ?_
      obtain ⟨o2, h⟩ := h
      refine m_iadd (pc := 121) dX12_readOrder_121 o2 ?_
      refine m_invV (pc := 122) (mi' := mX12_readSum) (rest := []) [aI (x2 + 1)] dX12_readOrder_122 at603 (by decide) rfl msX12_readSum mvX12_readSum lkX12_511 rfl (Nat.le_of_ble_eq_true rfl) (fun hn => CV_mono (h (aaI hn 1 rfl)) (fun m3 h => ?_))
      exact VG_sub (al' := [(0, aR 603), (1, aI x1), (2, aI x2)]) [0, 1, 2] rfl h
  · have h := h.2 c1
    refine v_aload_n (pc := 91) dX12_readOrder_91 0 rfl ?_
    refine m_getfin (pc := 92) (v := 634) hE dX12_readOrder_92 flX12_150 rfl at603 rfl ?_
    refine v_iload_n (pc := 95) dX12_readOrder_95 2 rfl ?_
    refine v_iload_n (pc := 96) dX12_readOrder_96 3 rfl ?_
    obtain ⟨o4, h⟩ := h
    refine m_iadd (pc := 97) dX12_readOrder_97 o4 ?_
    refine v_iconst (pc := 98) dX12_readOrder_98 (by decide) ?_
    obtain ⟨o5, h⟩ := h
    refine v_iast (pc := 99) dX12_readOrder_99 at634 o5.1 o5.2 ?_
    obtain ⟨o6, h⟩ := h
    refine m_iinc (pc := 100) (al2 := [(3, aI (x3 + 1)), (0, aR 603), (1, aI x1), (2, aI x2)]) dX12_readOrder_100 3 rfl (by decide) o6 rfl ?_
    refine v_goto (pc := 103) (tgt := 85) dX12_readOrder_103 (by decide) ?_
    exact VG_sub (al' := [(0, aR 603), (1, aI x1), (2, aI x2), (3, aI (x3 + 1))]) [1, 2, 3, 0] rfl h
set_option maxRecDepth 20000 in
theorem rX12_readOrder_125 {E : EN} (hE : Ep E) {k : Nat} {mem : Mm} {Q : Mm → Prop} {x1 x2 : Int}
    (h : ((¬ x1 = 0 → VM E mX12_readOrder (k + 1) mem 154 [(0, aR 603), (2, aI x2)] [] (retV Q)) ∧ (x1 = 0 → ((¬ (mem 603 19) = 0 → VM E mX12_readOrder (k + 1) mem 147 [(0, aR 603), (2, aI x2)] [] (retV Q)) ∧ ((mem 603 19) = 0 → (CI E mX12_isWord k mem [aR 603, aL 52] (fun r2 m1 => (R32 r2 → CV E mX12_must k m1 [aR 603, aI r2] (fun m3 => VM E mX12_readOrder (k + 1) m3 147 [(0, aR 603), (2, aI x2)] [] (retV Q)))))))))) :
    VM E mX12_readOrder (k + 1) mem 125 [(0, aR 603), (1, aI x1), (2, aI x2)] [] (retV Q) := by
  refine v_iload_n (pc := 125) dX12_readOrder_125 1 rfl ?_
  refine v_ifne (pc := 126) (tgt := 154) dX12_readOrder_126 (by decide) (fun c1 => ?_) (fun c1 => ?_)
  · have h := h.1 c1
    exact VG_sub (al' := [(0, aR 603), (2, aI x2)]) [0, 2] rfl h
  · have h := h.2 c1
    refine v_aload_n (pc := 129) dX12_readOrder_129 0 rfl ?_
    refine m_getf (pc := 130) (t := 0) (v := (mem 603 19)) dX12_readOrder_130 flX12_241 rfl at603 rfl ?_
    refine v_ifne (pc := 133) (tgt := 147) dX12_readOrder_133 (by decide) (fun c1 => ?_) (fun c1 => ?_)
    · have h := h.1 c1
      exact VG_sub (al' := [(0, aR 603), (2, aI x2)]) [0, 2] rfl h
    · have h := h.2 c1
      refine v_aload_n (pc := 136) dX12_readOrder_136 0 rfl ?_
      refine v_aload_n (pc := 137) dX12_readOrder_137 0 rfl ?_
      refine v_ldc2 (pc := 138) (n := 52) dX12_readOrder_138 cnX12_87 (by decide) ?_
      refine m_invI (pc := 141) (mi' := mX12_isWord) (rest := [aR 603]) [aL 52] dX12_readOrder_141 at603 (by decide) rfl msX12_isWord mvX12_isWord lkX12_298 rfl (Nat.le_of_ble_eq_true rfl) (fun hn => CI_mono (h) (fun r2 m1 h => ?_))
      refine m_invV (pc := 144) (mi' := mX12_must) (rest := []) [aI r2] dX12_readOrder_144 at603 (by decide) rfl msX12_must mvX12_must lkX12_274 rfl (Nat.le_of_ble_eq_true rfl) (fun hn => CV_mono (h (aaI hn 1 rfl)) (fun m3 h => ?_))
      exact VG_sub (al' := [(0, aR 603), (2, aI x2)]) [0, 2] rfl h
set_option maxRecDepth 20000 in
theorem rX12_readOrder_154 {E : EN} (hE : Ep E) {k : Nat} {mem : Mm} {Q : Mm → Prop} {x2 : Int}
    (h : (R32 (x2 + 7)) ∧ (0 ≤ (x2 + 7) ∧ (x2 + 7) < 96) ∧ ((¬ (mem 603 19) = 0 → VM E mX12_readOrder (k + 1) (aUp mem 634 (x2 + 7) 1) 202 [(0, aR 603), (2, aI x2)] [] (retV Q)) ∧ ((mem 603 19) = 0 → (CI E mX12_isWord k (aUp mem 634 (x2 + 7) 1) [aR 603, aL 21279923] (fun r4 m3 => ((r4 = 0 → VM E mX12_readOrder (k + 1) m3 202 [(0, aR 603), (2, aI x2)] [] (retV Q)) ∧ (¬ r4 = 0 → (CV E mX12_next k m3 [aR 603] (fun m5 => (CI E mX12_number k m5 [aR 603, aL 1, aL 20] (fun r7 m6 => VM E mX12_readOrder (k + 1) (aUp m6 634 (x2 + 7) r7) 202 [(0, aR 603), (2, aI x2)] [] (retV Q)))))))))))) :
    VM E mX12_readOrder (k + 1) mem 154 [(0, aR 603), (2, aI x2)] [] (retV Q) := by
  refine v_aload_n (pc := 154) dX12_readOrder_154 0 rfl ?_
  refine m_getfin (pc := 155) (v := 634) hE dX12_readOrder_155 flX12_150 rfl at603 rfl ?_
  refine v_iload_n (pc := 158) dX12_readOrder_158 1 rfl ?_
  refine v_bipush (pc := 159) dX12_readOrder_159 (by decide) ?_
  obtain ⟨o1, h⟩ := h
  refine m_iadd (pc := 161) dX12_readOrder_161 o1 ?_
  refine v_iconst (pc := 162) dX12_readOrder_162 (by decide) ?_
  obtain ⟨o2, h⟩ := h
  refine v_iast (pc := 163) dX12_readOrder_163 at634 o2.1 o2.2 ?_
  refine v_aload_n (pc := 164) dX12_readOrder_164 0 rfl ?_
  refine m_getf (pc := 165) (t := 0) (v := (mem 603 19)) dX12_readOrder_165 flX12_241 rfl at603 (aUp_rn (by omega)) ?_
  refine v_ifne (pc := 168) (tgt := 202) dX12_readOrder_168 (by decide) (fun c1 => ?_) (fun c1 => ?_)
  · have h := h.1 c1
    exact VG_sub (al' := [(0, aR 603), (2, aI x2)]) [0, 1] rfl h
  · have h := h.2 c1
    refine v_aload_n (pc := 171) dX12_readOrder_171 0 rfl ?_
    refine v_ldc2 (pc := 172) (n := 21279923) dX12_readOrder_172 cnX12_514 (by decide) ?_
    refine m_invI (pc := 175) (mi' := mX12_isWord) (rest := []) [aL 21279923] dX12_readOrder_175 at603 (by decide) rfl msX12_isWord mvX12_isWord lkX12_298 rfl (Nat.le_of_ble_eq_true rfl) (fun hn => CI_mono (h) (fun r4 m3 h => ?_))
    refine v_ifeq (pc := 178) (tgt := 202) dX12_readOrder_178 (by decide) (fun c1 => ?_) (fun c1 => ?_)
    · have h := h.1 c1
      exact VG_sub (al' := [(0, aR 603), (2, aI x2)]) [0, 1] rfl h
    · have h := h.2 c1
      refine v_aload_n (pc := 181) dX12_readOrder_181 0 rfl ?_
      refine m_invV (pc := 182) (mi' := mX12_next) (rest := []) [] dX12_readOrder_182 at603 (by decide) rfl msX12_next mvX12_next lkX12_245 rfl (Nat.le_of_ble_eq_true rfl) (fun hn => CV_mono (h) (fun m5 h => ?_))
      refine v_aload_n (pc := 185) dX12_readOrder_185 0 rfl ?_
      refine m_getfin (pc := 186) (v := 634) hE dX12_readOrder_186 flX12_150 rfl at603 rfl ?_
      refine v_iload_n (pc := 189) dX12_readOrder_189 1 rfl ?_
      refine v_bipush (pc := 190) dX12_readOrder_190 (by decide) ?_
      refine m_iadd (pc := 192) dX12_readOrder_192 o1 ?_
      refine v_aload_n (pc := 193) dX12_readOrder_193 0 rfl ?_
      refine v_lconst1 (pc := 194) dX12_readOrder_194 ?_
      refine v_ldc2 (pc := 195) (n := 20) dX12_readOrder_195 cnX12_290 (by decide) ?_
      refine m_invI (pc := 198) (mi' := mX12_number) (rest := [aI (x2 + 7), aR 634]) [aL 1, aL 20] dX12_readOrder_198 at603 (by decide) rfl msX12_number mvX12_number lkX12_333 rfl (Nat.le_of_ble_eq_true rfl) (fun hn => CI_mono (h) (fun r7 m6 h => ?_))
      refine v_iast (pc := 201) dX12_readOrder_201 at634 o2.1 o2.2 ?_
      exact VG_sub (al' := [(0, aR 603), (2, aI x2)]) [0, 1] rfl h
set_option maxRecDepth 20000 in
theorem rX12_readOrder_147 {E : EN} (hE : Ep E) {k : Nat} {mem : Mm} {Q : Mm → Prop} {x2 : Int}
    (h : (R32 (x2 + 3)) ∧ (R32 (x2 + 3) → CV E mX12_readSum k mem [aR 603, aI (x2 + 3)] (fun m2 => VM E mX12_readOrder (k + 1) m2 154 [(0, aR 603), (2, aI x2)] [] (retV Q)))) :
    VM E mX12_readOrder (k + 1) mem 147 [(0, aR 603), (2, aI x2)] [] (retV Q) := by
  refine v_aload_n (pc := 147) dX12_readOrder_147 0 rfl ?_
  refine v_iload_n (pc := 148) dX12_readOrder_148 1 rfl ?_
  refine v_iconst (pc := 149) dX12_readOrder_149 (by decide) ?_
  obtain ⟨o1, h⟩ := h
  refine m_iadd (pc := 150) dX12_readOrder_150 o1 ?_
  refine m_invV (pc := 151) (mi' := mX12_readSum) (rest := []) [aI (x2 + 3)] dX12_readOrder_151 at603 (by decide) rfl msX12_readSum mvX12_readSum lkX12_511 rfl (Nat.le_of_ble_eq_true rfl) (fun hn => CV_mono (h (aaI hn 1 rfl)) (fun m2 h => ?_))
  exact VG_sub (al' := [(0, aR 603), (2, aI x2)]) [0, 1] rfl h
set_option maxRecDepth 20000 in
theorem rX12_readOrder_202 {E : EN} (hE : Ep E) {k : Nat} {mem : Mm} {Q : Mm → Prop} {x2 : Int}
    (h : (R32 (x2 + 5)) ∧ (0 ≤ (x2 + 5) ∧ (x2 + 5) < 96) ∧ ((¬ (mem 603 19) = 0 → VM E mX12_readOrder (k + 1) (aUp mem 634 (x2 + 5) (mem 603 23)) 240 [(0, aR 603), (2, aI x2)] [] (retV Q)) ∧ ((mem 603 19) = 0 → (CI E mX12_isWord k (aUp mem 634 (x2 + 5) (mem 603 23)) [aR 603, aL 294] (fun r4 m3 => ((r4 = 0 → VM E mX12_readOrder (k + 1) m3 240 [(0, aR 603), (2, aI x2)] [] (retV Q)) ∧ (¬ r4 = 0 → (CV E mX12_next k m3 [aR 603] (fun m5 => (CV E mX12_readExpression k m5 [aR 603, aI 1] (fun m6 => VM E mX12_readOrder (k + 1) m6 240 [(0, aR 603), (2, aI x2)] [] (retV Q)))))))))))) :
    VM E mX12_readOrder (k + 1) mem 202 [(0, aR 603), (2, aI x2)] [] (retV Q) := by
  refine v_aload_n (pc := 202) dX12_readOrder_202 0 rfl ?_
  refine m_getfin (pc := 203) (v := 634) hE dX12_readOrder_203 flX12_150 rfl at603 rfl ?_
  refine v_iload_n (pc := 206) dX12_readOrder_206 1 rfl ?_
  refine v_iconst (pc := 207) dX12_readOrder_207 (by decide) ?_
  obtain ⟨o1, h⟩ := h
  refine m_iadd (pc := 208) dX12_readOrder_208 o1 ?_
  refine v_aload_n (pc := 209) dX12_readOrder_209 0 rfl ?_
  refine m_getf (pc := 210) (t := 0) (v := (mem 603 23)) dX12_readOrder_210 flX12_278 rfl at603 rfl ?_
  obtain ⟨o2, h⟩ := h
  refine v_iast (pc := 213) dX12_readOrder_213 at634 o2.1 o2.2 ?_
  refine v_aload_n (pc := 214) dX12_readOrder_214 0 rfl ?_
  refine m_getf (pc := 215) (t := 0) (v := (mem 603 19)) dX12_readOrder_215 flX12_241 rfl at603 (aUp_rn (by omega)) ?_
  refine v_ifne (pc := 218) (tgt := 240) dX12_readOrder_218 (by decide) (fun c1 => ?_) (fun c1 => ?_)
  · have h := h.1 c1
    exact VG_sub (al' := [(0, aR 603), (2, aI x2)]) [0, 1] rfl h
  · have h := h.2 c1
    refine v_aload_n (pc := 221) dX12_readOrder_221 0 rfl ?_
    refine v_ldc2 (pc := 222) (n := 294) dX12_readOrder_222 cnX12_375 (by decide) ?_
    refine m_invI (pc := 225) (mi' := mX12_isWord) (rest := []) [aL 294] dX12_readOrder_225 at603 (by decide) rfl msX12_isWord mvX12_isWord lkX12_298 rfl (Nat.le_of_ble_eq_true rfl) (fun hn => CI_mono (h) (fun r4 m3 h => ?_))
    refine v_ifeq (pc := 228) (tgt := 240) dX12_readOrder_228 (by decide) (fun c1 => ?_) (fun c1 => ?_)
    · have h := h.1 c1
      exact VG_sub (al' := [(0, aR 603), (2, aI x2)]) [0, 1] rfl h
    · have h := h.2 c1
      refine v_aload_n (pc := 231) dX12_readOrder_231 0 rfl ?_
      refine m_invV (pc := 232) (mi' := mX12_next) (rest := []) [] dX12_readOrder_232 at603 (by decide) rfl msX12_next mvX12_next lkX12_245 rfl (Nat.le_of_ble_eq_true rfl) (fun hn => CV_mono (h) (fun m5 h => ?_))
      refine v_aload_n (pc := 235) dX12_readOrder_235 0 rfl ?_
      refine v_iconst (pc := 236) dX12_readOrder_236 (by decide) ?_
      refine m_invV (pc := 237) (mi' := mX12_readExpression) (rest := []) [aI 1] dX12_readOrder_237 at603 (by decide) rfl msX12_readExpression mvX12_readExpression lkX12_372 rfl (Nat.le_of_ble_eq_true rfl) (fun hn => CV_mono (h) (fun m6 h => ?_))
      exact VG_sub (al' := [(0, aR 603), (2, aI x2)]) [0, 1] rfl h
set_option maxRecDepth 20000 in
theorem rX12_readOrder_240 {E : EN} (hE : Ep E) {k : Nat} {mem : Mm} {Q : Mm → Prop} {x2 : Int}
    (h : (R32 (x2 + 6)) ∧ (0 ≤ (x2 + 6) ∧ (x2 + 6) < 96) ∧ Q (aUp mem 634 (x2 + 6) (mem 603 23))) :
    VM E mX12_readOrder (k + 1) mem 240 [(0, aR 603), (2, aI x2)] [] (retV Q) := by
  refine v_aload_n (pc := 240) dX12_readOrder_240 0 rfl ?_
  refine m_getfin (pc := 241) (v := 634) hE dX12_readOrder_241 flX12_150 rfl at603 rfl ?_
  refine v_iload_n (pc := 244) dX12_readOrder_244 1 rfl ?_
  refine v_bipush (pc := 245) dX12_readOrder_245 (by decide) ?_
  obtain ⟨o1, h⟩ := h
  refine m_iadd (pc := 247) dX12_readOrder_247 o1 ?_
  refine v_aload_n (pc := 248) dX12_readOrder_248 0 rfl ?_
  refine m_getf (pc := 249) (t := 0) (v := (mem 603 23)) dX12_readOrder_249 flX12_278 rfl at603 rfl ?_
  obtain ⟨o2, h⟩ := h
  refine v_iast (pc := 252) dX12_readOrder_252 at634 o2.1 o2.2 ?_
  exact m_retV (pc := 253) dX12_readOrder_253 rfl h

theorem dX12_sumOf_0 : decode cX12_sumOf 0 = .ok (.aload_n 0, 1) := by decide +kernel
theorem dX12_sumOf_1 : decode cX12_sumOf 1 = .ok (.getfield 516, 3) := by decide +kernel
theorem dX12_sumOf_4 : decode cX12_sumOf 4 = .ok (.ifCond .ne 20, 3) := by decide +kernel
theorem dX12_sumOf_7 : decode cX12_sumOf 7 = .ok (.aload_n 0, 1) := by decide +kernel
theorem dX12_sumOf_8 : decode cX12_sumOf 8 = .ok (.getfield 150, 3) := by decide +kernel
theorem dX12_sumOf_11 : decode cX12_sumOf 11 = .ok (.iload_n 1, 1) := by decide +kernel
theorem dX12_sumOf_12 : decode cX12_sumOf 12 = .ok (.iaload, 1) := by decide +kernel
theorem dX12_sumOf_13 : decode cX12_sumOf 13 = .ok (.aload_n 0, 1) := by decide +kernel
theorem dX12_sumOf_14 : decode cX12_sumOf 14 = .ok (.getfield 150, 3) := by decide +kernel
theorem dX12_sumOf_17 : decode cX12_sumOf 17 = .ok (.iload_n 1, 1) := by decide +kernel
theorem dX12_sumOf_18 : decode cX12_sumOf 18 = .ok (.iconst 1, 1) := by decide +kernel
theorem dX12_sumOf_19 : decode cX12_sumOf 19 = .ok (.iadd, 1) := by decide +kernel
theorem dX12_sumOf_20 : decode cX12_sumOf 20 = .ok (.iaload, 1) := by decide +kernel
theorem dX12_sumOf_21 : decode cX12_sumOf 21 = .ok (.if_icmp .ne 5, 3) := by decide +kernel
theorem dX12_sumOf_24 : decode cX12_sumOf 24 = .ok (.iconst (-1), 1) := by decide +kernel
theorem dX12_sumOf_25 : decode cX12_sumOf 25 = .ok (.ireturn, 1) := by decide +kernel
theorem dX12_sumOf_26 : decode cX12_sumOf 26 = .ok (.aload_n 0, 1) := by decide +kernel
theorem dX12_sumOf_27 : decode cX12_sumOf 27 = .ok (.iconst 1, 1) := by decide +kernel
theorem dX12_sumOf_28 : decode cX12_sumOf 28 = .ok (.putfield 317, 3) := by decide +kernel
theorem dX12_sumOf_31 : decode cX12_sumOf 31 = .ok (.aload_n 0, 1) := by decide +kernel
theorem dX12_sumOf_32 : decode cX12_sumOf 32 = .ok (.aload_n 0, 1) := by decide +kernel
theorem dX12_sumOf_33 : decode cX12_sumOf 33 = .ok (.getfield 150, 3) := by decide +kernel
theorem dX12_sumOf_36 : decode cX12_sumOf 36 = .ok (.iload_n 1, 1) := by decide +kernel
theorem dX12_sumOf_37 : decode cX12_sumOf 37 = .ok (.iaload, 1) := by decide +kernel
theorem dX12_sumOf_38 : decode cX12_sumOf 38 = .ok (.aload_n 0, 1) := by decide +kernel
theorem dX12_sumOf_39 : decode cX12_sumOf 39 = .ok (.getfield 150, 3) := by decide +kernel
theorem dX12_sumOf_42 : decode cX12_sumOf 42 = .ok (.iload_n 1, 1) := by decide +kernel
theorem dX12_sumOf_43 : decode cX12_sumOf 43 = .ok (.iconst 1, 1) := by decide +kernel
theorem dX12_sumOf_44 : decode cX12_sumOf 44 = .ok (.iadd, 1) := by decide +kernel
theorem dX12_sumOf_45 : decode cX12_sumOf 45 = .ok (.iaload, 1) := by decide +kernel
theorem dX12_sumOf_46 : decode cX12_sumOf 46 = .ok (.invokevirtual 406, 3) := by decide +kernel
theorem dX12_sumOf_49 : decode cX12_sumOf 49 = .ok (.aload_n 0, 1) := by decide +kernel
theorem dX12_sumOf_50 : decode cX12_sumOf 50 = .ok (.iconst 0, 1) := by decide +kernel
theorem dX12_sumOf_51 : decode cX12_sumOf 51 = .ok (.putfield 317, 3) := by decide +kernel
theorem dX12_sumOf_54 : decode cX12_sumOf 54 = .ok (.aload_n 0, 1) := by decide +kernel
theorem dX12_sumOf_55 : decode cX12_sumOf 55 = .ok (.aload_n 0, 1) := by decide +kernel
theorem dX12_sumOf_56 : decode cX12_sumOf 56 = .ok (.getfield 389, 3) := by decide +kernel
theorem dX12_sumOf_59 : decode cX12_sumOf 59 = .ok (.putfield 516, 3) := by decide +kernel
theorem dX12_sumOf_62 : decode cX12_sumOf 62 = .ok (.aload_n 0, 1) := by decide +kernel
theorem dX12_sumOf_63 : decode cX12_sumOf 63 = .ok (.getfield 403, 3) := by decide +kernel
theorem dX12_sumOf_66 : decode cX12_sumOf 66 = .ok (.l2i, 1) := by decide +kernel
theorem dX12_sumOf_67 : decode cX12_sumOf 67 = .ok (.ireturn, 1) := by decide +kernel
set_option maxRecDepth 20000 in
theorem rX12_sumOf_0 {E : EN} (hE : Ep E) {k : Nat} {mem : Mm} {Q : Int → Mm → Prop} {p0 : Int}
    (h : ((¬ (mem 603 57) = 0 → Q (-1) mem) ∧ ((mem 603 57) = 0 → (0 ≤ p0 ∧ p0 < 96) ∧ (R32 (p0 + 1)) ∧ (0 ≤ (p0 + 1) ∧ (p0 + 1) < 96) ∧ ((¬ (mem 634 p0) = (mem 634 (p0 + 1)) → (R32 (mem 634 p0) → R32 (mem 634 (p0 + 1)) → CV E mX12_reckonAll k (aUp mem 603 20 1) [aR 603, aI (mem 634 p0), aI (mem 634 (p0 + 1))] (fun m4 => ((m4 603 38) = 0 ∨ (m4 603 38) = 1) ∧ (R32 (m4 603 39)) ∧ Q (m4 603 39) (aUp (aUp m4 603 20 0) 603 57 (m4 603 38))))) ∧ ((mem 634 p0) = (mem 634 (p0 + 1)) → Q (-1) mem))))) :
    VM E mX12_sumOf (k + 1) mem 0 [(0, aR 603), (1, aI p0)] [] (retI Q) := by
  refine v_aload_n (pc := 0) dX12_sumOf_0 0 rfl ?_
  refine m_getf (pc := 1) (t := 0) (v := (mem 603 57)) dX12_sumOf_1 flX12_516 rfl at603 rfl ?_
  refine v_ifne (pc := 4) (tgt := 24) dX12_sumOf_4 (by decide) (fun c1 => ?_) (fun c1 => ?_)
  · have h := h.1 c1
    refine v_iconst (pc := 24) dX12_sumOf_24 (by decide) ?_
    exact m_retI (pc := 25) dX12_sumOf_25 rfl h
  · have h := h.2 c1
    refine v_aload_n (pc := 7) dX12_sumOf_7 0 rfl ?_
    refine m_getfin (pc := 8) (v := 634) hE dX12_sumOf_8 flX12_150 rfl at603 rfl ?_
    refine v_iload_n (pc := 11) dX12_sumOf_11 1 rfl ?_
    obtain ⟨o1, h⟩ := h
    refine m_iald (pc := 12) (v := (mem 634 p0)) dX12_sumOf_12 at634 o1.1 o1.2 rfl ?_
    refine v_aload_n (pc := 13) dX12_sumOf_13 0 rfl ?_
    refine m_getfin (pc := 14) (v := 634) hE dX12_sumOf_14 flX12_150 rfl at603 rfl ?_
    refine v_iload_n (pc := 17) dX12_sumOf_17 1 rfl ?_
    refine v_iconst (pc := 18) dX12_sumOf_18 (by decide) ?_
    obtain ⟨o2, h⟩ := h
    refine m_iadd (pc := 19) dX12_sumOf_19 o2 ?_
    obtain ⟨o3, h⟩ := h
    refine m_iald (pc := 20) (v := (mem 634 (p0 + 1))) dX12_sumOf_20 at634 o3.1 o3.2 rfl ?_
    refine v_icmpne (pc := 21) (tgt := 26) dX12_sumOf_21 (by decide) (fun c1 => ?_) (fun c1 => ?_)
    · have h := h.1 c1
      refine v_aload_n (pc := 26) dX12_sumOf_26 0 rfl ?_
      refine v_iconst (pc := 27) dX12_sumOf_27 (by decide) ?_
      refine v_putf (pc := 28) dX12_sumOf_28 flX12_317 ⟨_, _, rfl, Or.inl rfl⟩ rfl (by decide) (fun _ => by decide) (Or.inl fun _ => rfl) at603 ?_
      refine v_aload_n (pc := 31) dX12_sumOf_31 0 rfl ?_
      refine v_aload_n (pc := 32) dX12_sumOf_32 0 rfl ?_
      refine m_getfin (pc := 33) (v := 634) hE dX12_sumOf_33 flX12_150 rfl at603 rfl ?_
      refine v_iload_n (pc := 36) dX12_sumOf_36 1 rfl ?_
      refine m_iald (pc := 37) (v := (mem 634 p0)) dX12_sumOf_37 at634 o1.1 o1.2 (aUp_rn (by omega)) ?_
      refine v_aload_n (pc := 38) dX12_sumOf_38 0 rfl ?_
      refine m_getfin (pc := 39) (v := 634) hE dX12_sumOf_39 flX12_150 rfl at603 rfl ?_
      refine v_iload_n (pc := 42) dX12_sumOf_42 1 rfl ?_
      refine v_iconst (pc := 43) dX12_sumOf_43 (by decide) ?_
      refine m_iadd (pc := 44) dX12_sumOf_44 o2 ?_
      refine m_iald (pc := 45) (v := (mem 634 (p0 + 1))) dX12_sumOf_45 at634 o3.1 o3.2 (aUp_rn (by omega)) ?_
      refine m_invV (pc := 46) (mi' := mX12_reckonAll) (rest := []) [aI (mem 634 p0), aI (mem 634 (p0 + 1))] dX12_sumOf_46 at603 (by decide) rfl msX12_reckonAll mvX12_reckonAll lkX12_406 rfl (Nat.le_of_ble_eq_true rfl) (fun hn => CV_mono (h (aaI hn 1 rfl) (aaI hn 2 rfl)) (fun m4 h => ?_))
      refine v_aload_n (pc := 49) dX12_sumOf_49 0 rfl ?_
      refine v_iconst (pc := 50) dX12_sumOf_50 (by decide) ?_
      refine v_putf (pc := 51) dX12_sumOf_51 flX12_317 ⟨_, _, rfl, Or.inl rfl⟩ rfl (by decide) (fun _ => by decide) (Or.inl fun _ => rfl) at603 ?_
      refine v_aload_n (pc := 54) dX12_sumOf_54 0 rfl ?_
      refine v_aload_n (pc := 55) dX12_sumOf_55 0 rfl ?_
      refine m_getf (pc := 56) (t := 0) (v := (m4 603 38)) dX12_sumOf_56 flX12_389 rfl at603 (aUp_ri (by decide)) ?_
      obtain ⟨o5, h⟩ := h
      refine v_putf (pc := 59) dX12_sumOf_59 flX12_516 ⟨_, _, rfl, Or.inl rfl⟩ rfl (by decide) (fun _ => o5) (Or.inl fun _ => rfl) at603 ?_
      refine v_aload_n (pc := 62) dX12_sumOf_62 0 rfl ?_
      refine m_getf (pc := 63) (t := 1) (v := (m4 603 39)) dX12_sumOf_63 flX12_403 rfl at603 ((aUp_ri (by decide)).trans (aUp_ri (by decide))) ?_
      obtain ⟨o6, h⟩ := h
      refine m_l2i (pc := 66) dX12_sumOf_66 o6 ?_
      exact m_retI (pc := 67) dX12_sumOf_67 rfl h
    · have h := h.2 c1
      refine v_iconst (pc := 24) dX12_sumOf_24 (by decide) ?_
      exact m_retI (pc := 25) dX12_sumOf_25 rfl h
theorem eX12_sumOf {E : EN} {k : Nat} {mem : Mm} {Q : Int → Mm → Prop} {p0 : Int} (hr_p0 : R32 p0) (h : VM E mX12_sumOf (k + 1) mem 0 [(0, aR 603), (1, aI p0)] [] (retI Q)) : CI E mX12_sumOf (k + 1) mem [aR 603, aI p0] Q := CI_of rfl (Nat.le_of_ble_eq_true rfl) h (aNs_c (aNr_R _) (aNs_c (aNr_I hr_p0) (fun _ q => nomatch q)))

theorem dX12_act_0 : decode cX12_act 0 = .ok (.iload_n 1, 1) := by decide +kernel
theorem dX12_act_1 : decode cX12_act 1 = .ok (.tableswitch 47 0 2 #[27, 35, 41], 27) := by decide +kernel
theorem dX12_act_28 : decode cX12_act 28 = .ok (.aload_n 0, 1) := by decide +kernel
theorem dX12_act_29 : decode cX12_act 29 = .ok (.iload_n 2, 1) := by decide +kernel
theorem dX12_act_30 : decode cX12_act 30 = .ok (.iload_n 3, 1) := by decide +kernel
theorem dX12_act_31 : decode cX12_act 31 = .ok (.iconst 0, 1) := by decide +kernel
theorem dX12_act_32 : decode cX12_act 32 = .ok (.invokevirtual 451, 3) := by decide +kernel
theorem dX12_act_35 : decode cX12_act 35 = .ok (.ireturn, 1) := by decide +kernel
theorem dX12_act_36 : decode cX12_act 36 = .ok (.aload_n 0, 1) := by decide +kernel
theorem dX12_act_37 : decode cX12_act 37 = .ok (.iload_n 2, 1) := by decide +kernel
theorem dX12_act_38 : decode cX12_act 38 = .ok (.invokevirtual 455, 3) := by decide +kernel
theorem dX12_act_41 : decode cX12_act 41 = .ok (.ireturn, 1) := by decide +kernel
theorem dX12_act_42 : decode cX12_act 42 = .ok (.aload_n 0, 1) := by decide +kernel
theorem dX12_act_43 : decode cX12_act 43 = .ok (.iload_n 2, 1) := by decide +kernel
theorem dX12_act_44 : decode cX12_act 44 = .ok (.invokevirtual 458, 3) := by decide +kernel
theorem dX12_act_47 : decode cX12_act 47 = .ok (.ireturn, 1) := by decide +kernel
theorem dX12_act_48 : decode cX12_act 48 = .ok (.aload_n 0, 1) := by decide +kernel
theorem dX12_act_49 : decode cX12_act 49 = .ok (.invokevirtual 476, 3) := by decide +kernel
theorem dX12_act_52 : decode cX12_act 52 = .ok (.ireturn, 1) := by decide +kernel
set_option maxRecDepth 20000 in
theorem rX12_act_0 {E : EN} (hE : Ep E) {k : Nat} {mem : Mm} {Q : Int → Mm → Prop} {p0 p1 p2 : Int}
    (h : ((p0 = 0 → (R32 p1 → R32 p2 → CI E mX12_buryNow k mem [aR 603, aI p1, aI p2, aI 0] (fun r2 m1 => Q r2 m1))) ∧ (p0 = 1 → (R32 p1 → CI E mX12_buyNow k mem [aR 603, aI p1] (fun r4 m3 => Q r4 m3))) ∧ (p0 = 2 → (R32 p1 → CI E mX12_raiseNow k mem [aR 603, aI p1] (fun r6 m5 => Q r6 m5))) ∧ (p0 < 0 ∨ 2 < p0 → (CI E mX12_passNow k mem [aR 603] (fun r8 m7 => Q r8 m7))))) :
    VM E mX12_act (k + 1) mem 0 [(0, aR 603), (1, aI p0), (2, aI p1), (3, aI p2)] [] (retI Q) := by
  refine v_iload_n (pc := 0) dX12_act_0 1 rfl ?_
  rcases (show p0 = 0 ∨ p0 = 1 ∨ p0 = 2 ∨ (p0 < 0 ∨ 2 < p0) by omega) with c1 | c1 | c1 | c1
  · have h := h.1 c1
    refine v_tabIn (pc := 1) (tgt := 28) dX12_act_1 (by omega) (by omega) (by rw [c1] <;> rfl) (by decide) ?_
    refine v_aload_n (pc := 28) dX12_act_28 0 rfl ?_
    refine v_iload_n (pc := 29) dX12_act_29 2 rfl ?_
    refine v_iload_n (pc := 30) dX12_act_30 3 rfl ?_
    refine v_iconst (pc := 31) dX12_act_31 (by decide) ?_
    refine m_invI (pc := 32) (mi' := mX12_buryNow) (rest := []) [aI p1, aI p2, aI 0] dX12_act_32 at603 (by decide) rfl msX12_buryNow mvX12_buryNow lkX12_451 rfl (Nat.le_of_ble_eq_true rfl) (fun hn => CI_mono (h (aaI hn 1 rfl) (aaI hn 2 rfl)) (fun r2 m1 h => ?_))
    exact m_retI (pc := 35) dX12_act_35 rfl h
  · have h := h.2.1 c1
    refine v_tabIn (pc := 1) (tgt := 36) dX12_act_1 (by omega) (by omega) (by rw [c1] <;> rfl) (by decide) ?_
    refine v_aload_n (pc := 36) dX12_act_36 0 rfl ?_
    refine v_iload_n (pc := 37) dX12_act_37 2 rfl ?_
    refine m_invI (pc := 38) (mi' := mX12_buyNow) (rest := []) [aI p1] dX12_act_38 at603 (by decide) rfl msX12_buyNow mvX12_buyNow lkX12_455 rfl (Nat.le_of_ble_eq_true rfl) (fun hn => CI_mono (h (aaI hn 1 rfl)) (fun r4 m3 h => ?_))
    exact m_retI (pc := 41) dX12_act_41 rfl h
  · have h := h.2.2.1 c1
    refine v_tabIn (pc := 1) (tgt := 42) dX12_act_1 (by omega) (by omega) (by rw [c1] <;> rfl) (by decide) ?_
    refine v_aload_n (pc := 42) dX12_act_42 0 rfl ?_
    refine v_iload_n (pc := 43) dX12_act_43 2 rfl ?_
    refine m_invI (pc := 44) (mi' := mX12_raiseNow) (rest := []) [aI p1] dX12_act_44 at603 (by decide) rfl msX12_raiseNow mvX12_raiseNow lkX12_458 rfl (Nat.le_of_ble_eq_true rfl) (fun hn => CI_mono (h (aaI hn 1 rfl)) (fun r6 m5 h => ?_))
    exact m_retI (pc := 47) dX12_act_47 rfl h
  · have h := h.2.2.2 c1
    refine v_tabOut (pc := 1) (tgt := 48) dX12_act_1 c1 (by decide) ?_
    refine v_aload_n (pc := 48) dX12_act_48 0 rfl ?_
    refine m_invI (pc := 49) (mi' := mX12_passNow) (rest := []) [] dX12_act_49 at603 (by decide) rfl msX12_passNow mvX12_passNow lkX12_476 rfl (Nat.le_of_ble_eq_true rfl) (fun hn => CI_mono (h) (fun r8 m7 h => ?_))
    exact m_retI (pc := 52) dX12_act_52 rfl h
theorem eX12_act {E : EN} {k : Nat} {mem : Mm} {Q : Int → Mm → Prop} {p0 p1 p2 : Int} (hr_p0 : R32 p0) (hr_p1 : R32 p1) (hr_p2 : R32 p2) (h : VM E mX12_act (k + 1) mem 0 [(0, aR 603), (1, aI p0), (2, aI p1), (3, aI p2)] [] (retI Q)) : CI E mX12_act (k + 1) mem [aR 603, aI p0, aI p1, aI p2] Q := CI_of rfl (Nat.le_of_ble_eq_true rfl) h (aNs_c (aNr_R _) (aNs_c (aNr_I hr_p0) (aNs_c (aNr_I hr_p1) (aNs_c (aNr_I hr_p2) (fun _ q => nomatch q)))))

theorem dX12_run_0 : decode cX12_run 0 = .ok (.aload_n 0, 1) := by decide +kernel
theorem dX12_run_1 : decode cX12_run 1 = .ok (.getfield 106, 3) := by decide +kernel
theorem dX12_run_4 : decode cX12_run 4 = .ok (.iconst 1, 1) := by decide +kernel
theorem dX12_run_5 : decode cX12_run 5 = .ok (.aload_n 0, 1) := by decide +kernel
theorem dX12_run_6 : decode cX12_run 6 = .ok (.iconst 0, 1) := by decide +kernel
theorem dX12_run_7 : decode cX12_run 7 = .ok (.invokevirtual 412, 3) := by decide +kernel
theorem dX12_run_10 : decode cX12_run 10 = .ok (.i2l, 1) := by decide +kernel
theorem dX12_run_11 : decode cX12_run 11 = .ok (.lastore, 1) := by decide +kernel
theorem dX12_run_12 : decode cX12_run 12 = .ok (.aload_n 0, 1) := by decide +kernel
theorem dX12_run_13 : decode cX12_run 13 = .ok (.getfield 106, 3) := by decide +kernel
theorem dX12_run_16 : decode cX12_run 16 = .ok (.iconst 2, 1) := by decide +kernel
theorem dX12_run_17 : decode cX12_run 17 = .ok (.aload_n 0, 1) := by decide +kernel
theorem dX12_run_18 : decode cX12_run 18 = .ok (.getfield 13, 3) := by decide +kernel
theorem dX12_run_21 : decode cX12_run 21 = .ok (.bipush 7, 2) := by decide +kernel
theorem dX12_run_23 : decode cX12_run 23 = .ok (.iaload, 1) := by decide +kernel
theorem dX12_run_24 : decode cX12_run 24 = .ok (.i2l, 1) := by decide +kernel
theorem dX12_run_25 : decode cX12_run 25 = .ok (.lastore, 1) := by decide +kernel
theorem dX12_run_26 : decode cX12_run 26 = .ok (.aload_n 0, 1) := by decide +kernel
theorem dX12_run_27 : decode cX12_run 27 = .ok (.getfield 106, 3) := by decide +kernel
theorem dX12_run_30 : decode cX12_run 30 = .ok (.iconst 3, 1) := by decide +kernel
theorem dX12_run_31 : decode cX12_run 31 = .ok (.aload_n 0, 1) := by decide +kernel
theorem dX12_run_32 : decode cX12_run 32 = .ok (.getfield 519, 3) := by decide +kernel
theorem dX12_run_35 : decode cX12_run 35 = .ok (.i2l, 1) := by decide +kernel
theorem dX12_run_36 : decode cX12_run 36 = .ok (.lastore, 1) := by decide +kernel
theorem dX12_run_37 : decode cX12_run 37 = .ok (.aload_n 0, 1) := by decide +kernel
theorem dX12_run_38 : decode cX12_run 38 = .ok (.getfield 106, 3) := by decide +kernel
theorem dX12_run_41 : decode cX12_run 41 = .ok (.iconst 4, 1) := by decide +kernel
theorem dX12_run_42 : decode cX12_run 42 = .ok (.aload_n 0, 1) := by decide +kernel
theorem dX12_run_43 : decode cX12_run 43 = .ok (.getfield 522, 3) := by decide +kernel
theorem dX12_run_46 : decode cX12_run 46 = .ok (.i2l, 1) := by decide +kernel
theorem dX12_run_47 : decode cX12_run 47 = .ok (.lastore, 1) := by decide +kernel
theorem dX12_run_48 : decode cX12_run 48 = .ok (.aload_n 0, 1) := by decide +kernel
theorem dX12_run_49 : decode cX12_run 49 = .ok (.iconst 0, 1) := by decide +kernel
theorem dX12_run_50 : decode cX12_run 50 = .ok (.putfield 516, 3) := by decide +kernel
theorem dX12_run_53 : decode cX12_run 53 = .ok (.aload_n 0, 1) := by decide +kernel
theorem dX12_run_54 : decode cX12_run 54 = .ok (.getfield 150, 3) := by decide +kernel
theorem dX12_run_57 : decode cX12_run 57 = .ok (.iload_n 1, 1) := by decide +kernel
theorem dX12_run_58 : decode cX12_run 58 = .ok (.iconst 5, 1) := by decide +kernel
theorem dX12_run_59 : decode cX12_run 59 = .ok (.iadd, 1) := by decide +kernel
theorem dX12_run_60 : decode cX12_run 60 = .ok (.iaload, 1) := by decide +kernel
theorem dX12_run_61 : decode cX12_run 61 = .ok (.aload_n 0, 1) := by decide +kernel
theorem dX12_run_62 : decode cX12_run 62 = .ok (.getfield 150, 3) := by decide +kernel
theorem dX12_run_65 : decode cX12_run 65 = .ok (.iload_n 1, 1) := by decide +kernel
theorem dX12_run_66 : decode cX12_run 66 = .ok (.bipush 6, 2) := by decide +kernel
theorem dX12_run_68 : decode cX12_run 68 = .ok (.iadd, 1) := by decide +kernel
theorem dX12_run_69 : decode cX12_run 69 = .ok (.iaload, 1) := by decide +kernel
theorem dX12_run_70 : decode cX12_run 70 = .ok (.if_icmp .ge 24, 3) := by decide +kernel
theorem dX12_run_73 : decode cX12_run 73 = .ok (.aload_n 0, 1) := by decide +kernel
theorem dX12_run_74 : decode cX12_run 74 = .ok (.iload_n 1, 1) := by decide +kernel
theorem dX12_run_75 : decode cX12_run 75 = .ok (.iconst 5, 1) := by decide +kernel
theorem dX12_run_76 : decode cX12_run 76 = .ok (.iadd, 1) := by decide +kernel
theorem dX12_run_77 : decode cX12_run 77 = .ok (.invokevirtual 525, 3) := by decide +kernel
theorem dX12_run_80 : decode cX12_run 80 = .ok (.istore_n 2, 1) := by decide +kernel
theorem dX12_run_81 : decode cX12_run 81 = .ok (.aload_n 0, 1) := by decide +kernel
theorem dX12_run_82 : decode cX12_run 82 = .ok (.getfield 516, 3) := by decide +kernel
theorem dX12_run_85 : decode cX12_run 85 = .ok (.ifCond .ne 7, 3) := by decide +kernel
theorem dX12_run_88 : decode cX12_run 88 = .ok (.iload_n 2, 1) := by decide +kernel
theorem dX12_run_89 : decode cX12_run 89 = .ok (.ifCond .ne 5, 3) := by decide +kernel
theorem dX12_run_92 : decode cX12_run 92 = .ok (.iconst 0, 1) := by decide +kernel
theorem dX12_run_93 : decode cX12_run 93 = .ok (.ireturn, 1) := by decide +kernel
theorem dX12_run_94 : decode cX12_run 94 = .ok (.aload_n 0, 1) := by decide +kernel
theorem dX12_run_95 : decode cX12_run 95 = .ok (.iload_n 1, 1) := by decide +kernel
theorem dX12_run_96 : decode cX12_run 96 = .ok (.iconst 1, 1) := by decide +kernel
theorem dX12_run_97 : decode cX12_run 97 = .ok (.iadd, 1) := by decide +kernel
theorem dX12_run_98 : decode cX12_run 98 = .ok (.invokevirtual 525, 3) := by decide +kernel
theorem dX12_run_101 : decode cX12_run 101 = .ok (.istore_n 2, 1) := by decide +kernel
theorem dX12_run_102 : decode cX12_run 102 = .ok (.aload_n 0, 1) := by decide +kernel
theorem dX12_run_103 : decode cX12_run 103 = .ok (.iload_n 1, 1) := by decide +kernel
theorem dX12_run_104 : decode cX12_run 104 = .ok (.iconst 3, 1) := by decide +kernel
theorem dX12_run_105 : decode cX12_run 105 = .ok (.iadd, 1) := by decide +kernel
theorem dX12_run_106 : decode cX12_run 106 = .ok (.invokevirtual 525, 3) := by decide +kernel
theorem dX12_run_109 : decode cX12_run 109 = .ok (.istore_n 3, 1) := by decide +kernel
theorem dX12_run_110 : decode cX12_run 110 = .ok (.aload_n 0, 1) := by decide +kernel
theorem dX12_run_111 : decode cX12_run 111 = .ok (.getfield 516, 3) := by decide +kernel
theorem dX12_run_114 : decode cX12_run 114 = .ok (.ifCond .eq 6, 3) := by decide +kernel
theorem dX12_run_117 : decode cX12_run 117 = .ok (.bipush (-3), 2) := by decide +kernel
theorem dX12_run_119 : decode cX12_run 119 = .ok (.ireturn, 1) := by decide +kernel
theorem dX12_run_120 : decode cX12_run 120 = .ok (.aload_n 0, 1) := by decide +kernel
theorem dX12_run_121 : decode cX12_run 121 = .ok (.aload_n 0, 1) := by decide +kernel
theorem dX12_run_122 : decode cX12_run 122 = .ok (.getfield 150, 3) := by decide +kernel
theorem dX12_run_125 : decode cX12_run 125 = .ok (.iload_n 1, 1) := by decide +kernel
theorem dX12_run_126 : decode cX12_run 126 = .ok (.iaload, 1) := by decide +kernel
theorem dX12_run_127 : decode cX12_run 127 = .ok (.iload_n 2, 1) := by decide +kernel
theorem dX12_run_128 : decode cX12_run 128 = .ok (.iload_n 3, 1) := by decide +kernel
theorem dX12_run_129 : decode cX12_run 129 = .ok (.invokevirtual 528, 3) := by decide +kernel
theorem dX12_run_132 : decode cX12_run 132 = .ok (.istore 4, 2) := by decide +kernel
theorem dX12_run_134 : decode cX12_run 134 = .ok (.iload 4, 2) := by decide +kernel
theorem dX12_run_136 : decode cX12_run 136 = .ok (.ifCond .ge 18, 3) := by decide +kernel
theorem dX12_run_139 : decode cX12_run 139 = .ok (.iload 4, 2) := by decide +kernel
theorem dX12_run_141 : decode cX12_run 141 = .ok (.bipush (-5), 2) := by decide +kernel
theorem dX12_run_143 : decode cX12_run 143 = .ok (.if_icmp .ne 8, 3) := by decide +kernel
theorem dX12_run_146 : decode cX12_run 146 = .ok (.bipush (-5), 2) := by decide +kernel
theorem dX12_run_148 : decode cX12_run 148 = .ok (.goto 5, 3) := by decide +kernel
theorem dX12_run_151 : decode cX12_run 151 = .ok (.bipush (-3), 2) := by decide +kernel
theorem dX12_run_153 : decode cX12_run 153 = .ok (.ireturn, 1) := by decide +kernel
theorem dX12_run_154 : decode cX12_run 154 = .ok (.aload_n 0, 1) := by decide +kernel
theorem dX12_run_155 : decode cX12_run 155 = .ok (.aload_n 0, 1) := by decide +kernel
theorem dX12_run_156 : decode cX12_run 156 = .ok (.getfield 150, 3) := by decide +kernel
theorem dX12_run_159 : decode cX12_run 159 = .ok (.iload_n 1, 1) := by decide +kernel
theorem dX12_run_160 : decode cX12_run 160 = .ok (.iaload, 1) := by decide +kernel
theorem dX12_run_161 : decode cX12_run 161 = .ok (.iconst 3, 1) := by decide +kernel
theorem dX12_run_162 : decode cX12_run 162 = .ok (.if_icmp .ne 8, 3) := by decide +kernel
theorem dX12_run_165 : decode cX12_run 165 = .ok (.iload 4, 2) := by decide +kernel
theorem dX12_run_167 : decode cX12_run 167 = .ok (.goto 7, 3) := by decide +kernel
theorem dX12_run_170 : decode cX12_run 170 = .ok (.aload_n 0, 1) := by decide +kernel
theorem dX12_run_171 : decode cX12_run 171 = .ok (.getfield 522, 3) := by decide +kernel
theorem dX12_run_174 : decode cX12_run 174 = .ok (.putfield 522, 3) := by decide +kernel
theorem dX12_run_177 : decode cX12_run 177 = .ok (.aload_n 0, 1) := by decide +kernel
theorem dX12_run_178 : decode cX12_run 178 = .ok (.dup, 1) := by decide +kernel
theorem dX12_run_179 : decode cX12_run 179 = .ok (.getfield 519, 3) := by decide +kernel
theorem dX12_run_182 : decode cX12_run 182 = .ok (.iconst 1, 1) := by decide +kernel
theorem dX12_run_183 : decode cX12_run 183 = .ok (.iadd, 1) := by decide +kernel
theorem dX12_run_184 : decode cX12_run 184 = .ok (.putfield 519, 3) := by decide +kernel
theorem dX12_run_187 : decode cX12_run 187 = .ok (.iconst 0, 1) := by decide +kernel
theorem dX12_run_188 : decode cX12_run 188 = .ok (.ireturn, 1) := by decide +kernel
set_option maxRecDepth 20000 in
theorem rX12_run_0 {E : EN} (hE : Ep E) {k : Nat} {mem : Mm} {Q : Int → Mm → Prop} {p0 : Int}
    (h : (CI E mX12_term k mem [aR 603, aI 0] (fun r2 m1 => (R32 (p0 + 5)) ∧ (0 ≤ (p0 + 5) ∧ (p0 + 5) < 96) ∧ (R32 (p0 + 6)) ∧ (0 ≤ (p0 + 6) ∧ (p0 + 6) < 96) ∧ (((m1 634 (p0 + 6)) ≤ (m1 634 (p0 + 5)) → (R32 (p0 + 1)) ∧ (R32 (p0 + 1) → CI E mX12_sumOf k (aUp (aUp (aUp (aUp (aUp m1 622 1 r2) 622 2 (m1 605 7)) 622 3 (m1 603 54)) 622 4 (m1 603 55)) 603 57 0) [aR 603, aI (p0 + 1)] (fun r9 m8 => (R32 (p0 + 3)) ∧ (R32 (p0 + 3) → CI E mX12_sumOf k m8 [aR 603, aI (p0 + 3)] (fun r12 m11 => (((m11 603 57) = 0 → (0 ≤ p0 ∧ p0 < 96) ∧ (R32 (m11 634 p0) → R32 r9 → R32 r12 → CI E mX12_act k m11 [aR 603, aI (m11 634 p0), aI r9, aI r12] (fun r15 m14 => ((0 ≤ r15 → ((¬ (m14 634 p0) = 3 → (R32 ((m14 603 54) + 1)) ∧ Q 0 (aUp (aUp m14 603 55 (m14 603 55)) 603 54 ((m14 603 54) + 1))) ∧ ((m14 634 p0) = 3 → (R32 ((m14 603 54) + 1)) ∧ Q 0 (aUp (aUp m14 603 55 r15) 603 54 ((m14 603 54) + 1))))) ∧ (r15 < 0 → ((¬ r15 = (-5) → Q (-3) m14) ∧ (r15 = (-5) → Q (-5) m14))))))) ∧ (¬ (m11 603 57) = 0 → Q (-3) m11))))))) ∧ ((m1 634 (p0 + 5)) < (m1 634 (p0 + 6)) → (R32 (p0 + 5) → CI E mX12_sumOf k (aUp (aUp (aUp (aUp (aUp m1 622 1 r2) 622 2 (m1 605 7)) 622 3 (m1 603 54)) 622 4 (m1 603 55)) 603 57 0) [aR 603, aI (p0 + 5)] (fun r19 m18 => ((¬ (m18 603 57) = 0 → Q 0 m18) ∧ ((m18 603 57) = 0 → ((¬ r19 = 0 → (R32 (p0 + 1)) ∧ (R32 (p0 + 1) → CI E mX12_sumOf k m18 [aR 603, aI (p0 + 1)] (fun r22 m21 => (R32 (p0 + 3)) ∧ (R32 (p0 + 3) → CI E mX12_sumOf k m21 [aR 603, aI (p0 + 3)] (fun r25 m24 => (((m24 603 57) = 0 → (0 ≤ p0 ∧ p0 < 96) ∧ (R32 (m24 634 p0) → R32 r22 → R32 r25 → CI E mX12_act k m24 [aR 603, aI (m24 634 p0), aI r22, aI r25] (fun r28 m27 => ((0 ≤ r28 → ((¬ (m27 634 p0) = 3 → (R32 ((m27 603 54) + 1)) ∧ Q 0 (aUp (aUp m27 603 55 (m27 603 55)) 603 54 ((m27 603 54) + 1))) ∧ ((m27 634 p0) = 3 → (R32 ((m27 603 54) + 1)) ∧ Q 0 (aUp (aUp m27 603 55 r28) 603 54 ((m27 603 54) + 1))))) ∧ (r28 < 0 → ((¬ r28 = (-5) → Q (-3) m27) ∧ (r28 = (-5) → Q (-5) m27))))))) ∧ (¬ (m24 603 57) = 0 → Q (-3) m24))))))) ∧ (r19 = 0 → Q 0 m18))))))))))) :
    VM E mX12_run (k + 1) mem 0 [(0, aR 603), (1, aI p0)] [] (retI Q) := by
  refine v_aload_n (pc := 0) dX12_run_0 0 rfl ?_
  refine m_getfin (pc := 1) (v := 622) hE dX12_run_1 flX12_106 rfl at603 rfl ?_
  refine v_iconst (pc := 4) dX12_run_4 (by decide) ?_
  refine v_aload_n (pc := 5) dX12_run_5 0 rfl ?_
  refine v_iconst (pc := 6) dX12_run_6 (by decide) ?_
  refine m_invI (pc := 7) (mi' := mX12_term) (rest := [aI 1, aR 622]) [aI 0] dX12_run_7 at603 (by decide) rfl msX12_term mvX12_term lkX12_412 rfl (Nat.le_of_ble_eq_true rfl) (fun hn => CI_mono (h) (fun r2 m1 h => ?_))
  refine v_i2l (pc := 10) dX12_run_10 ?_
  refine v_last (pc := 11) dX12_run_11 at622 (by omega) (by omega) ?_
  refine v_aload_n (pc := 12) dX12_run_12 0 rfl ?_
  refine m_getfin (pc := 13) (v := 622) hE dX12_run_13 flX12_106 rfl at603 rfl ?_
  refine v_iconst (pc := 16) dX12_run_16 (by decide) ?_
  refine v_aload_n (pc := 17) dX12_run_17 0 rfl ?_
  refine m_getfin (pc := 18) (v := 605) hE dX12_run_18 flX12_13 rfl at603 rfl ?_
  refine v_bipush (pc := 21) dX12_run_21 (by decide) ?_
  refine m_iald (pc := 23) (v := (m1 605 7)) dX12_run_23 at605 (by omega) (by omega) (aUp_rn (by omega)) ?_
  refine v_i2l (pc := 24) dX12_run_24 ?_
  refine v_last (pc := 25) dX12_run_25 at622 (by omega) (by omega) ?_
  refine v_aload_n (pc := 26) dX12_run_26 0 rfl ?_
  refine m_getfin (pc := 27) (v := 622) hE dX12_run_27 flX12_106 rfl at603 rfl ?_
  refine v_iconst (pc := 30) dX12_run_30 (by decide) ?_
  refine v_aload_n (pc := 31) dX12_run_31 0 rfl ?_
  refine m_getf (pc := 32) (t := 0) (v := (m1 603 54)) dX12_run_32 flX12_519 rfl at603 ((aUp_rn (by omega)).trans (aUp_rn (by omega))) ?_
  refine v_i2l (pc := 35) dX12_run_35 ?_
  refine v_last (pc := 36) dX12_run_36 at622 (by omega) (by omega) ?_
  refine v_aload_n (pc := 37) dX12_run_37 0 rfl ?_
  refine m_getfin (pc := 38) (v := 622) hE dX12_run_38 flX12_106 rfl at603 rfl ?_
  refine v_iconst (pc := 41) dX12_run_41 (by decide) ?_
  refine v_aload_n (pc := 42) dX12_run_42 0 rfl ?_
  refine m_getf (pc := 43) (t := 0) (v := (m1 603 55)) dX12_run_43 flX12_522 rfl at603 ((aUp_rn (by omega)).trans ((aUp_rn (by omega)).trans (aUp_rn (by omega)))) ?_
  refine v_i2l (pc := 46) dX12_run_46 ?_
  refine v_last (pc := 47) dX12_run_47 at622 (by omega) (by omega) ?_
  refine v_aload_n (pc := 48) dX12_run_48 0 rfl ?_
  refine v_iconst (pc := 49) dX12_run_49 (by decide) ?_
  refine v_putf (pc := 50) dX12_run_50 flX12_516 ⟨_, _, rfl, Or.inl rfl⟩ rfl (by decide) (fun _ => by decide) (Or.inl fun _ => rfl) at603 ?_
  refine v_aload_n (pc := 53) dX12_run_53 0 rfl ?_
  refine m_getfin (pc := 54) (v := 634) hE dX12_run_54 flX12_150 rfl at603 rfl ?_
  refine v_iload_n (pc := 57) dX12_run_57 1 rfl ?_
  refine v_iconst (pc := 58) dX12_run_58 (by decide) ?_
  obtain ⟨o3, h⟩ := h
  refine m_iadd (pc := 59) dX12_run_59 o3 ?_
  obtain ⟨o4, h⟩ := h
  refine m_iald (pc := 60) (v := (m1 634 (p0 + 5))) dX12_run_60 at634 o4.1 o4.2 ((aUp_rn (by omega)).trans ((aUp_rn (by omega)).trans ((aUp_rn (by omega)).trans ((aUp_rn (by omega)).trans (aUp_rn (by omega)))))) ?_
  refine v_aload_n (pc := 61) dX12_run_61 0 rfl ?_
  refine m_getfin (pc := 62) (v := 634) hE dX12_run_62 flX12_150 rfl at603 rfl ?_
  refine v_iload_n (pc := 65) dX12_run_65 1 rfl ?_
  refine v_bipush (pc := 66) dX12_run_66 (by decide) ?_
  obtain ⟨o5, h⟩ := h
  refine m_iadd (pc := 68) dX12_run_68 o5 ?_
  obtain ⟨o6, h⟩ := h
  refine m_iald (pc := 69) (v := (m1 634 (p0 + 6))) dX12_run_69 at634 o6.1 o6.2 ((aUp_rn (by omega)).trans ((aUp_rn (by omega)).trans ((aUp_rn (by omega)).trans ((aUp_rn (by omega)).trans (aUp_rn (by omega)))))) ?_
  refine v_icmpge (pc := 70) (tgt := 94) dX12_run_70 (by decide) (fun c1 => ?_) (fun c1 => ?_)
  · have h := h.1 c1
    refine v_aload_n (pc := 94) dX12_run_94 0 rfl ?_
    refine v_iload_n (pc := 95) dX12_run_95 1 rfl ?_
    refine v_iconst (pc := 96) dX12_run_96 (by decide) ?_
    obtain ⟨o7, h⟩ := h
    refine m_iadd (pc := 97) dX12_run_97 o7 ?_
    refine m_invI (pc := 98) (mi' := mX12_sumOf) (rest := []) [aI (p0 + 1)] dX12_run_98 at603 (by decide) rfl msX12_sumOf mvX12_sumOf lkX12_525 rfl (Nat.le_of_ble_eq_true rfl) (fun hn => CI_mono (h (aaI hn 1 rfl)) (fun r9 m8 h => ?_))
    refine v_istore_n (pc := 101) (al2 := [(2, aI r9), (0, aR 603), (1, aI p0)]) dX12_run_101 (by decide) rfl ?_
    refine v_aload_n (pc := 102) dX12_run_102 1 rfl ?_
    refine v_iload_n (pc := 103) dX12_run_103 2 rfl ?_
    refine v_iconst (pc := 104) dX12_run_104 (by decide) ?_
    obtain ⟨o10, h⟩ := h
    refine m_iadd (pc := 105) dX12_run_105 o10 ?_
    refine m_invI (pc := 106) (mi' := mX12_sumOf) (rest := []) [aI (p0 + 3)] dX12_run_106 at603 (by decide) rfl msX12_sumOf mvX12_sumOf lkX12_525 rfl (Nat.le_of_ble_eq_true rfl) (fun hn => CI_mono (h (aaI hn 1 rfl)) (fun r12 m11 h => ?_))
    refine v_istore_n (pc := 109) (al2 := [(3, aI r12), (2, aI r9), (0, aR 603), (1, aI p0)]) dX12_run_109 (by decide) rfl ?_
    refine v_aload_n (pc := 110) dX12_run_110 2 rfl ?_
    refine m_getf (pc := 111) (t := 0) (v := (m11 603 57)) dX12_run_111 flX12_516 rfl at603 rfl ?_
    refine v_ifeq (pc := 114) (tgt := 120) dX12_run_114 (by decide) (fun c1 => ?_) (fun c1 => ?_)
    · have h := h.1 c1
      refine v_aload_n (pc := 120) dX12_run_120 2 rfl ?_
      refine v_aload_n (pc := 121) dX12_run_121 2 rfl ?_
      refine m_getfin (pc := 122) (v := 634) hE dX12_run_122 flX12_150 rfl at603 rfl ?_
      refine v_iload_n (pc := 125) dX12_run_125 3 rfl ?_
      obtain ⟨o13, h⟩ := h
      refine m_iald (pc := 126) (v := (m11 634 p0)) dX12_run_126 at634 o13.1 o13.2 rfl ?_
      refine v_iload_n (pc := 127) dX12_run_127 1 rfl ?_
      refine v_iload_n (pc := 128) dX12_run_128 0 rfl ?_
      refine m_invI (pc := 129) (mi' := mX12_act) (rest := []) [aI (m11 634 p0), aI r9, aI r12] dX12_run_129 at603 (by decide) rfl msX12_act mvX12_act lkX12_528 rfl (Nat.le_of_ble_eq_true rfl) (fun hn => CI_mono (h (aaI hn 1 rfl) (aaI hn 2 rfl) (aaI hn 3 rfl)) (fun r15 m14 h => ?_))
      refine v_istore (pc := 132) (al2 := [(4, aI r15), (3, aI r12), (2, aI r9), (0, aR 603), (1, aI p0)]) dX12_run_132 (by decide) rfl ?_
      refine v_iload (pc := 134) dX12_run_134 0 rfl ?_
      refine v_ifge (pc := 136) (tgt := 154) dX12_run_136 (by decide) (fun c1 => ?_) (fun c1 => ?_)
      · have h := h.1 c1
        refine v_aload_n (pc := 154) dX12_run_154 3 rfl ?_
        refine v_aload_n (pc := 155) dX12_run_155 3 rfl ?_
        refine m_getfin (pc := 156) (v := 634) hE dX12_run_156 flX12_150 rfl at603 rfl ?_
        refine v_iload_n (pc := 159) dX12_run_159 4 rfl ?_
        refine m_iald (pc := 160) (v := (m14 634 p0)) dX12_run_160 at634 o13.1 o13.2 rfl ?_
        refine v_iconst (pc := 161) dX12_run_161 (by decide) ?_
        refine v_icmpne (pc := 162) (tgt := 170) dX12_run_162 (by decide) (fun c1 => ?_) (fun c1 => ?_)
        · have h := h.1 c1
          refine v_aload_n (pc := 170) dX12_run_170 3 rfl ?_
          refine m_getf (pc := 171) (t := 0) (v := (m14 603 55)) dX12_run_171 flX12_522 rfl at603 rfl ?_
          refine v_putf (pc := 174) dX12_run_174 flX12_522 ⟨_, _, rfl, Or.inl rfl⟩ rfl (by decide) (fun q => nomatch q) (Or.inl fun _ => rfl) at603 ?_
          refine v_aload_n (pc := 177) dX12_run_177 3 rfl ?_
          refine v_dup (pc := 178) dX12_run_178 rfl ?_
          refine m_getf (pc := 179) (t := 0) (v := (m14 603 54)) dX12_run_179 flX12_519 rfl at603 (aUp_ri (by decide)) ?_
          refine v_iconst (pc := 182) dX12_run_182 (by decide) ?_
          obtain ⟨o16, h⟩ := h
          refine m_iadd (pc := 183) dX12_run_183 o16 ?_
          refine v_putf (pc := 184) dX12_run_184 flX12_519 ⟨_, _, rfl, Or.inl rfl⟩ rfl (by decide) (fun q => nomatch q) (Or.inl fun _ => rfl) at603 ?_
          refine v_iconst (pc := 187) dX12_run_187 (by decide) ?_
          exact m_retI (pc := 188) dX12_run_188 rfl h
        · have h := h.2 c1
          refine v_iload (pc := 165) dX12_run_165 0 rfl ?_
          refine v_goto (pc := 167) (tgt := 174) dX12_run_167 (by decide) ?_
          refine v_putf (pc := 174) dX12_run_174 flX12_522 ⟨_, _, rfl, Or.inl rfl⟩ rfl (by decide) (fun q => nomatch q) (Or.inl fun _ => rfl) at603 ?_
          refine v_aload_n (pc := 177) dX12_run_177 3 rfl ?_
          refine v_dup (pc := 178) dX12_run_178 rfl ?_
          refine m_getf (pc := 179) (t := 0) (v := (m14 603 54)) dX12_run_179 flX12_519 rfl at603 (aUp_ri (by decide)) ?_
          refine v_iconst (pc := 182) dX12_run_182 (by decide) ?_
          obtain ⟨o17, h⟩ := h
          refine m_iadd (pc := 183) dX12_run_183 o17 ?_
          refine v_putf (pc := 184) dX12_run_184 flX12_519 ⟨_, _, rfl, Or.inl rfl⟩ rfl (by decide) (fun q => nomatch q) (Or.inl fun _ => rfl) at603 ?_
          refine v_iconst (pc := 187) dX12_run_187 (by decide) ?_
          exact m_retI (pc := 188) dX12_run_188 rfl h
      · have h := h.2 c1
        refine v_iload (pc := 139) dX12_run_139 0 rfl ?_
        refine v_bipush (pc := 141) dX12_run_141 (by decide) ?_
        refine v_icmpne (pc := 143) (tgt := 151) dX12_run_143 (by decide) (fun c1 => ?_) (fun c1 => ?_)
        · have h := h.1 c1
          refine v_bipush (pc := 151) dX12_run_151 (by decide) ?_
          exact m_retI (pc := 153) dX12_run_153 rfl h
        · have h := h.2 c1
          refine v_bipush (pc := 146) dX12_run_146 (by decide) ?_
          refine v_goto (pc := 148) (tgt := 153) dX12_run_148 (by decide) ?_
          exact m_retI (pc := 153) dX12_run_153 rfl h
    · have h := h.2 c1
      refine v_bipush (pc := 117) dX12_run_117 (by decide) ?_
      exact m_retI (pc := 119) dX12_run_119 rfl h
  · have h := h.2 c1
    refine v_aload_n (pc := 73) dX12_run_73 0 rfl ?_
    refine v_iload_n (pc := 74) dX12_run_74 1 rfl ?_
    refine v_iconst (pc := 75) dX12_run_75 (by decide) ?_
    refine m_iadd (pc := 76) dX12_run_76 o3 ?_
    refine m_invI (pc := 77) (mi' := mX12_sumOf) (rest := []) [aI (p0 + 5)] dX12_run_77 at603 (by decide) rfl msX12_sumOf mvX12_sumOf lkX12_525 rfl (Nat.le_of_ble_eq_true rfl) (fun hn => CI_mono (h (aaI hn 1 rfl)) (fun r19 m18 h => ?_))
    refine v_istore_n (pc := 80) (al2 := [(2, aI r19), (0, aR 603), (1, aI p0)]) dX12_run_80 (by decide) rfl ?_
    refine v_aload_n (pc := 81) dX12_run_81 1 rfl ?_
    refine m_getf (pc := 82) (t := 0) (v := (m18 603 57)) dX12_run_82 flX12_516 rfl at603 rfl ?_
    refine v_ifne (pc := 85) (tgt := 92) dX12_run_85 (by decide) (fun c1 => ?_) (fun c1 => ?_)
    · have h := h.1 c1
      refine v_iconst (pc := 92) dX12_run_92 (by decide) ?_
      exact m_retI (pc := 93) dX12_run_93 rfl h
    · have h := h.2 c1
      refine v_iload_n (pc := 88) dX12_run_88 0 rfl ?_
      refine v_ifne (pc := 89) (tgt := 94) dX12_run_89 (by decide) (fun c1 => ?_) (fun c1 => ?_)
      · have h := h.1 c1
        refine v_aload_n (pc := 94) dX12_run_94 1 rfl ?_
        refine v_iload_n (pc := 95) dX12_run_95 2 rfl ?_
        refine v_iconst (pc := 96) dX12_run_96 (by decide) ?_
        obtain ⟨o20, h⟩ := h
        refine m_iadd (pc := 97) dX12_run_97 o20 ?_
        refine m_invI (pc := 98) (mi' := mX12_sumOf) (rest := []) [aI (p0 + 1)] dX12_run_98 at603 (by decide) rfl msX12_sumOf mvX12_sumOf lkX12_525 rfl (Nat.le_of_ble_eq_true rfl) (fun hn => CI_mono (h (aaI hn 1 rfl)) (fun r22 m21 h => ?_))
        refine v_istore_n (pc := 101) (al2 := [(2, aI r22), (0, aR 603), (1, aI p0)]) dX12_run_101 (by decide) rfl ?_
        refine v_aload_n (pc := 102) dX12_run_102 1 rfl ?_
        refine v_iload_n (pc := 103) dX12_run_103 2 rfl ?_
        refine v_iconst (pc := 104) dX12_run_104 (by decide) ?_
        obtain ⟨o23, h⟩ := h
        refine m_iadd (pc := 105) dX12_run_105 o23 ?_
        refine m_invI (pc := 106) (mi' := mX12_sumOf) (rest := []) [aI (p0 + 3)] dX12_run_106 at603 (by decide) rfl msX12_sumOf mvX12_sumOf lkX12_525 rfl (Nat.le_of_ble_eq_true rfl) (fun hn => CI_mono (h (aaI hn 1 rfl)) (fun r25 m24 h => ?_))
        refine v_istore_n (pc := 109) (al2 := [(3, aI r25), (2, aI r22), (0, aR 603), (1, aI p0)]) dX12_run_109 (by decide) rfl ?_
        refine v_aload_n (pc := 110) dX12_run_110 2 rfl ?_
        refine m_getf (pc := 111) (t := 0) (v := (m24 603 57)) dX12_run_111 flX12_516 rfl at603 rfl ?_
        refine v_ifeq (pc := 114) (tgt := 120) dX12_run_114 (by decide) (fun c1 => ?_) (fun c1 => ?_)
        · have h := h.1 c1
          refine v_aload_n (pc := 120) dX12_run_120 2 rfl ?_
          refine v_aload_n (pc := 121) dX12_run_121 2 rfl ?_
          refine m_getfin (pc := 122) (v := 634) hE dX12_run_122 flX12_150 rfl at603 rfl ?_
          refine v_iload_n (pc := 125) dX12_run_125 3 rfl ?_
          obtain ⟨o26, h⟩ := h
          refine m_iald (pc := 126) (v := (m24 634 p0)) dX12_run_126 at634 o26.1 o26.2 rfl ?_
          refine v_iload_n (pc := 127) dX12_run_127 1 rfl ?_
          refine v_iload_n (pc := 128) dX12_run_128 0 rfl ?_
          refine m_invI (pc := 129) (mi' := mX12_act) (rest := []) [aI (m24 634 p0), aI r22, aI r25] dX12_run_129 at603 (by decide) rfl msX12_act mvX12_act lkX12_528 rfl (Nat.le_of_ble_eq_true rfl) (fun hn => CI_mono (h (aaI hn 1 rfl) (aaI hn 2 rfl) (aaI hn 3 rfl)) (fun r28 m27 h => ?_))
          refine v_istore (pc := 132) (al2 := [(4, aI r28), (3, aI r25), (2, aI r22), (0, aR 603), (1, aI p0)]) dX12_run_132 (by decide) rfl ?_
          refine v_iload (pc := 134) dX12_run_134 0 rfl ?_
          refine v_ifge (pc := 136) (tgt := 154) dX12_run_136 (by decide) (fun c1 => ?_) (fun c1 => ?_)
          · have h := h.1 c1
            refine v_aload_n (pc := 154) dX12_run_154 3 rfl ?_
            refine v_aload_n (pc := 155) dX12_run_155 3 rfl ?_
            refine m_getfin (pc := 156) (v := 634) hE dX12_run_156 flX12_150 rfl at603 rfl ?_
            refine v_iload_n (pc := 159) dX12_run_159 4 rfl ?_
            refine m_iald (pc := 160) (v := (m27 634 p0)) dX12_run_160 at634 o26.1 o26.2 rfl ?_
            refine v_iconst (pc := 161) dX12_run_161 (by decide) ?_
            refine v_icmpne (pc := 162) (tgt := 170) dX12_run_162 (by decide) (fun c1 => ?_) (fun c1 => ?_)
            · have h := h.1 c1
              refine v_aload_n (pc := 170) dX12_run_170 3 rfl ?_
              refine m_getf (pc := 171) (t := 0) (v := (m27 603 55)) dX12_run_171 flX12_522 rfl at603 rfl ?_
              refine v_putf (pc := 174) dX12_run_174 flX12_522 ⟨_, _, rfl, Or.inl rfl⟩ rfl (by decide) (fun q => nomatch q) (Or.inl fun _ => rfl) at603 ?_
              refine v_aload_n (pc := 177) dX12_run_177 3 rfl ?_
              refine v_dup (pc := 178) dX12_run_178 rfl ?_
              refine m_getf (pc := 179) (t := 0) (v := (m27 603 54)) dX12_run_179 flX12_519 rfl at603 (aUp_ri (by decide)) ?_
              refine v_iconst (pc := 182) dX12_run_182 (by decide) ?_
              obtain ⟨o29, h⟩ := h
              refine m_iadd (pc := 183) dX12_run_183 o29 ?_
              refine v_putf (pc := 184) dX12_run_184 flX12_519 ⟨_, _, rfl, Or.inl rfl⟩ rfl (by decide) (fun q => nomatch q) (Or.inl fun _ => rfl) at603 ?_
              refine v_iconst (pc := 187) dX12_run_187 (by decide) ?_
              exact m_retI (pc := 188) dX12_run_188 rfl h
            · have h := h.2 c1
              refine v_iload (pc := 165) dX12_run_165 0 rfl ?_
              refine v_goto (pc := 167) (tgt := 174) dX12_run_167 (by decide) ?_
              refine v_putf (pc := 174) dX12_run_174 flX12_522 ⟨_, _, rfl, Or.inl rfl⟩ rfl (by decide) (fun q => nomatch q) (Or.inl fun _ => rfl) at603 ?_
              refine v_aload_n (pc := 177) dX12_run_177 3 rfl ?_
              refine v_dup (pc := 178) dX12_run_178 rfl ?_
              refine m_getf (pc := 179) (t := 0) (v := (m27 603 54)) dX12_run_179 flX12_519 rfl at603 (aUp_ri (by decide)) ?_
              refine v_iconst (pc := 182) dX12_run_182 (by decide) ?_
              obtain ⟨o30, h⟩ := h
              refine m_iadd (pc := 183) dX12_run_183 o30 ?_
              refine v_putf (pc := 184) dX12_run_184 flX12_519 ⟨_, _, rfl, Or.inl rfl⟩ rfl (by decide) (fun q => nomatch q) (Or.inl fun _ => rfl) at603 ?_
              refine v_iconst (pc := 187) dX12_run_187 (by decide) ?_
              exact m_retI (pc := 188) dX12_run_188 rfl h
          · have h := h.2 c1
            refine v_iload (pc := 139) dX12_run_139 0 rfl ?_
            refine v_bipush (pc := 141) dX12_run_141 (by decide) ?_
            refine v_icmpne (pc := 143) (tgt := 151) dX12_run_143 (by decide) (fun c1 => ?_) (fun c1 => ?_)
            · have h := h.1 c1
              refine v_bipush (pc := 151) dX12_run_151 (by decide) ?_
              exact m_retI (pc := 153) dX12_run_153 rfl h
            · have h := h.2 c1
              refine v_bipush (pc := 146) dX12_run_146 (by decide) ?_
              refine v_goto (pc := 148) (tgt := 153) dX12_run_148 (by decide) ?_
              exact m_retI (pc := 153) dX12_run_153 rfl h
        · have h := h.2 c1
          refine v_bipush (pc := 117) dX12_run_117 (by decide) ?_
          exact m_retI (pc := 119) dX12_run_119 rfl h
      · have h := h.2 c1
        refine v_iconst (pc := 92) dX12_run_92 (by decide) ?_
        exact m_retI (pc := 93) dX12_run_93 rfl h
theorem eX12_run {E : EN} {k : Nat} {mem : Mm} {Q : Int → Mm → Prop} {p0 : Int} (hr_p0 : R32 p0) (h : VM E mX12_run (k + 1) mem 0 [(0, aR 603), (1, aI p0)] [] (retI Q)) : CI E mX12_run (k + 1) mem [aR 603, aI p0] Q := CI_of rfl (Nat.le_of_ble_eq_true rfl) h (aNs_c (aNr_R _) (aNs_c (aNr_I hr_p0) (fun _ q => nomatch q)))

theorem dX12_orders_0 : decode cX12_orders 0 = .ok (.aload_n 0, 1) := by decide +kernel
theorem dX12_orders_1 : decode cX12_orders 1 = .ok (.iconst 0, 1) := by decide +kernel
theorem dX12_orders_2 : decode cX12_orders 2 = .ok (.putfield 162, 3) := by decide +kernel
theorem dX12_orders_5 : decode cX12_orders 5 = .ok (.aload_n 0, 1) := by decide +kernel
theorem dX12_orders_6 : decode cX12_orders 6 = .ok (.iconst (-1), 1) := by decide +kernel
theorem dX12_orders_7 : decode cX12_orders 7 = .ok (.putfield 153, 3) := by decide +kernel
theorem dX12_orders_10 : decode cX12_orders 10 = .ok (.aload_n 0, 1) := by decide +kernel
theorem dX12_orders_11 : decode cX12_orders 11 = .ok (.iconst 1, 1) := by decide +kernel
theorem dX12_orders_12 : decode cX12_orders 12 = .ok (.invokevirtual 377, 3) := by decide +kernel
theorem dX12_orders_15 : decode cX12_orders 15 = .ok (.aload_n 0, 1) := by decide +kernel
theorem dX12_orders_16 : decode cX12_orders 16 = .ok (.invokevirtual 531, 3) := by decide +kernel
theorem dX12_orders_19 : decode cX12_orders 19 = .ok (.aload_n 0, 1) := by decide +kernel
theorem dX12_orders_20 : decode cX12_orders 20 = .ok (.getfield 241, 3) := by decide +kernel
theorem dX12_orders_23 : decode cX12_orders 23 = .ok (.ifCond .ne 23, 3) := by decide +kernel
theorem dX12_orders_26 : decode cX12_orders 26 = .ok (.aload_n 0, 1) := by decide +kernel
theorem dX12_orders_27 : decode cX12_orders 27 = .ok (.bipush 59, 2) := by decide +kernel
theorem dX12_orders_29 : decode cX12_orders 29 = .ok (.invokevirtual 311, 3) := by decide +kernel
theorem dX12_orders_32 : decode cX12_orders 32 = .ok (.ifCond .eq 14, 3) := by decide +kernel
theorem dX12_orders_35 : decode cX12_orders 35 = .ok (.aload_n 0, 1) := by decide +kernel
theorem dX12_orders_36 : decode cX12_orders 36 = .ok (.invokevirtual 245, 3) := by decide +kernel
theorem dX12_orders_39 : decode cX12_orders 39 = .ok (.aload_n 0, 1) := by decide +kernel
theorem dX12_orders_40 : decode cX12_orders 40 = .ok (.invokevirtual 531, 3) := by decide +kernel
theorem dX12_orders_43 : decode cX12_orders 43 = .ok (.goto (-24), 3) := by decide +kernel
theorem dX12_orders_46 : decode cX12_orders 46 = .ok (.aload_n 0, 1) := by decide +kernel
theorem dX12_orders_47 : decode cX12_orders 47 = .ok (.invokevirtual 383, 3) := by decide +kernel
theorem dX12_orders_50 : decode cX12_orders 50 = .ok (.aload_n 0, 1) := by decide +kernel
theorem dX12_orders_51 : decode cX12_orders 51 = .ok (.getfield 241, 3) := by decide +kernel
theorem dX12_orders_54 : decode cX12_orders 54 = .ok (.ifCond .eq 10, 3) := by decide +kernel
theorem dX12_orders_57 : decode cX12_orders 57 = .ok (.aload_n 0, 1) := by decide +kernel
theorem dX12_orders_58 : decode cX12_orders 58 = .ok (.bipush (-6), 2) := by decide +kernel
theorem dX12_orders_60 : decode cX12_orders 60 = .ok (.invokevirtual 175, 3) := by decide +kernel
theorem dX12_orders_63 : decode cX12_orders 63 = .ok (.ireturn, 1) := by decide +kernel
theorem dX12_orders_64 : decode cX12_orders 64 = .ok (.aload_n 0, 1) := by decide +kernel
theorem dX12_orders_65 : decode cX12_orders 65 = .ok (.bipush 17, 2) := by decide +kernel
theorem dX12_orders_67 : decode cX12_orders 67 = .ok (.invokevirtual 171, 3) := by decide +kernel
theorem dX12_orders_70 : decode cX12_orders 70 = .ok (.aload_n 0, 1) := by decide +kernel
theorem dX12_orders_71 : decode cX12_orders 71 = .ok (.getfield 168, 3) := by decide +kernel
theorem dX12_orders_74 : decode cX12_orders 74 = .ok (.istore_n 1, 1) := by decide +kernel
theorem dX12_orders_75 : decode cX12_orders 75 = .ok (.aload_n 0, 1) := by decide +kernel
theorem dX12_orders_76 : decode cX12_orders 76 = .ok (.getfield 473, 3) := by decide +kernel
theorem dX12_orders_79 : decode cX12_orders 79 = .ok (.istore_n 2, 1) := by decide +kernel
theorem dX12_orders_80 : decode cX12_orders 80 = .ok (.iconst 0, 1) := by decide +kernel
theorem dX12_orders_81 : decode cX12_orders 81 = .ok (.istore_n 3, 1) := by decide +kernel
theorem dX12_orders_82 : decode cX12_orders 82 = .ok (.iload_n 3, 1) := by decide +kernel
theorem dX12_orders_83 : decode cX12_orders 83 = .ok (.sipush 1232, 3) := by decide +kernel
theorem dX12_orders_86 : decode cX12_orders 86 = .ok (.if_icmp .ge 21, 3) := by decide +kernel
theorem dX12_orders_89 : decode cX12_orders 89 = .ok (.aload_n 0, 1) := by decide +kernel
theorem dX12_orders_90 : decode cX12_orders 90 = .ok (.getfield 29, 3) := by decide +kernel
theorem dX12_orders_93 : decode cX12_orders 93 = .ok (.iload_n 3, 1) := by decide +kernel
theorem dX12_orders_94 : decode cX12_orders 94 = .ok (.aload_n 0, 1) := by decide +kernel
theorem dX12_orders_95 : decode cX12_orders 95 = .ok (.getfield 23, 3) := by decide +kernel
theorem dX12_orders_98 : decode cX12_orders 98 = .ok (.iload_n 3, 1) := by decide +kernel
theorem dX12_orders_99 : decode cX12_orders 99 = .ok (.iaload, 1) := by decide +kernel
theorem dX12_orders_100 : decode cX12_orders 100 = .ok (.iastore, 1) := by decide +kernel
theorem dX12_orders_101 : decode cX12_orders 101 = .ok (.iinc 3 1, 3) := by decide +kernel
theorem dX12_orders_104 : decode cX12_orders 104 = .ok (.goto (-22), 3) := by decide +kernel
theorem dX12_orders_107 : decode cX12_orders 107 = .ok (.iconst 0, 1) := by decide +kernel
theorem dX12_orders_108 : decode cX12_orders 108 = .ok (.istore_n 3, 1) := by decide +kernel
theorem dX12_orders_109 : decode cX12_orders 109 = .ok (.iload_n 3, 1) := by decide +kernel
theorem dX12_orders_110 : decode cX12_orders 110 = .ok (.bipush 16, 2) := by decide +kernel
theorem dX12_orders_112 : decode cX12_orders 112 = .ok (.if_icmp .ge 21, 3) := by decide +kernel
theorem dX12_orders_115 : decode cX12_orders 115 = .ok (.aload_n 0, 1) := by decide +kernel
theorem dX12_orders_116 : decode cX12_orders 116 = .ok (.getfield 32, 3) := by decide +kernel
theorem dX12_orders_119 : decode cX12_orders 119 = .ok (.iload_n 3, 1) := by decide +kernel
theorem dX12_orders_120 : decode cX12_orders 120 = .ok (.aload_n 0, 1) := by decide +kernel
theorem dX12_orders_121 : decode cX12_orders 121 = .ok (.getfield 26, 3) := by decide +kernel
theorem dX12_orders_124 : decode cX12_orders 124 = .ok (.iload_n 3, 1) := by decide +kernel
theorem dX12_orders_125 : decode cX12_orders 125 = .ok (.iaload, 1) := by decide +kernel
theorem dX12_orders_126 : decode cX12_orders 126 = .ok (.iastore, 1) := by decide +kernel
theorem dX12_orders_127 : decode cX12_orders 127 = .ok (.iinc 3 1, 3) := by decide +kernel
theorem dX12_orders_130 : decode cX12_orders 130 = .ok (.goto (-21), 3) := by decide +kernel
theorem dX12_orders_133 : decode cX12_orders 133 = .ok (.aload_n 0, 1) := by decide +kernel
theorem dX12_orders_134 : decode cX12_orders 134 = .ok (.iconst 0, 1) := by decide +kernel
theorem dX12_orders_135 : decode cX12_orders 135 = .ok (.putfield 519, 3) := by decide +kernel
theorem dX12_orders_138 : decode cX12_orders 138 = .ok (.aload_n 0, 1) := by decide +kernel
theorem dX12_orders_139 : decode cX12_orders 139 = .ok (.iconst (-1), 1) := by decide +kernel
theorem dX12_orders_140 : decode cX12_orders 140 = .ok (.putfield 522, 3) := by decide +kernel
theorem dX12_orders_143 : decode cX12_orders 143 = .ok (.iconst 0, 1) := by decide +kernel
theorem dX12_orders_144 : decode cX12_orders 144 = .ok (.istore_n 3, 1) := by decide +kernel
theorem dX12_orders_145 : decode cX12_orders 145 = .ok (.iload_n 3, 1) := by decide +kernel
theorem dX12_orders_146 : decode cX12_orders 146 = .ok (.aload_n 0, 1) := by decide +kernel
theorem dX12_orders_147 : decode cX12_orders 147 = .ok (.getfield 369, 3) := by decide +kernel
theorem dX12_orders_150 : decode cX12_orders 150 = .ok (.if_icmp .ge 72, 3) := by decide +kernel
theorem dX12_orders_153 : decode cX12_orders 153 = .ok (.iconst 0, 1) := by decide +kernel
theorem dX12_orders_154 : decode cX12_orders 154 = .ok (.istore 4, 2) := by decide +kernel
theorem dX12_orders_156 : decode cX12_orders 156 = .ok (.iload 4, 2) := by decide +kernel
theorem dX12_orders_158 : decode cX12_orders 158 = .ok (.aload_n 0, 1) := by decide +kernel
theorem dX12_orders_159 : decode cX12_orders 159 = .ok (.getfield 150, 3) := by decide +kernel
theorem dX12_orders_162 : decode cX12_orders 162 = .ok (.bipush 8, 2) := by decide +kernel
theorem dX12_orders_164 : decode cX12_orders 164 = .ok (.iload_n 3, 1) := by decide +kernel
theorem dX12_orders_165 : decode cX12_orders 165 = .ok (.imul, 1) := by decide +kernel
theorem dX12_orders_166 : decode cX12_orders 166 = .ok (.bipush 7, 2) := by decide +kernel
theorem dX12_orders_168 : decode cX12_orders 168 = .ok (.iadd, 1) := by decide +kernel
theorem dX12_orders_169 : decode cX12_orders 169 = .ok (.iaload, 1) := by decide +kernel
theorem dX12_orders_170 : decode cX12_orders 170 = .ok (.if_icmp .ge 46, 3) := by decide +kernel
theorem dX12_orders_173 : decode cX12_orders 173 = .ok (.aload_n 0, 1) := by decide +kernel
theorem dX12_orders_174 : decode cX12_orders 174 = .ok (.bipush 8, 2) := by decide +kernel
theorem dX12_orders_176 : decode cX12_orders 176 = .ok (.iload_n 3, 1) := by decide +kernel
theorem dX12_orders_177 : decode cX12_orders 177 = .ok (.imul, 1) := by decide +kernel
theorem dX12_orders_178 : decode cX12_orders 178 = .ok (.invokevirtual 534, 3) := by decide +kernel
theorem dX12_orders_181 : decode cX12_orders 181 = .ok (.istore 5, 2) := by decide +kernel
theorem dX12_orders_183 : decode cX12_orders 183 = .ok (.iload 5, 2) := by decide +kernel
theorem dX12_orders_185 : decode cX12_orders 185 = .ok (.ifCond .ge 25, 3) := by decide +kernel
theorem dX12_orders_188 : decode cX12_orders 188 = .ok (.aload_n 0, 1) := by decide +kernel
theorem dX12_orders_189 : decode cX12_orders 189 = .ok (.iload_n 1, 1) := by decide +kernel
theorem dX12_orders_190 : decode cX12_orders 190 = .ok (.invokevirtual 537, 3) := by decide +kernel
theorem dX12_orders_193 : decode cX12_orders 193 = .ok (.aload_n 0, 1) := by decide +kernel
theorem dX12_orders_194 : decode cX12_orders 194 = .ok (.iload_n 2, 1) := by decide +kernel
theorem dX12_orders_195 : decode cX12_orders 195 = .ok (.putfield 473, 3) := by decide +kernel
theorem dX12_orders_198 : decode cX12_orders 198 = .ok (.aload_n 0, 1) := by decide +kernel
theorem dX12_orders_199 : decode cX12_orders 199 = .ok (.iload_n 3, 1) := by decide +kernel
theorem dX12_orders_200 : decode cX12_orders 200 = .ok (.putfield 153, 3) := by decide +kernel
theorem dX12_orders_203 : decode cX12_orders 203 = .ok (.aload_n 0, 1) := by decide +kernel
theorem dX12_orders_204 : decode cX12_orders 204 = .ok (.iload 5, 2) := by decide +kernel
theorem dX12_orders_206 : decode cX12_orders 206 = .ok (.invokevirtual 175, 3) := by decide +kernel
theorem dX12_orders_209 : decode cX12_orders 209 = .ok (.ireturn, 1) := by decide +kernel
theorem dX12_orders_210 : decode cX12_orders 210 = .ok (.iinc 4 1, 3) := by decide +kernel
theorem dX12_orders_213 : decode cX12_orders 213 = .ok (.goto (-57), 3) := by decide +kernel
theorem dX12_orders_216 : decode cX12_orders 216 = .ok (.iinc 3 1, 3) := by decide +kernel
theorem dX12_orders_219 : decode cX12_orders 219 = .ok (.goto (-74), 3) := by decide +kernel
theorem dX12_orders_222 : decode cX12_orders 222 = .ok (.aload_n 0, 1) := by decide +kernel
theorem dX12_orders_223 : decode cX12_orders 223 = .ok (.aload_n 0, 1) := by decide +kernel
theorem dX12_orders_224 : decode cX12_orders 224 = .ok (.getfield 519, 3) := by decide +kernel
theorem dX12_orders_227 : decode cX12_orders 227 = .ok (.invokevirtual 175, 3) := by decide +kernel
theorem dX12_orders_230 : decode cX12_orders 230 = .ok (.ireturn, 1) := by decide +kernel
set_option maxRecDepth 20000 in
theorem rX12_orders_0 {E : EN} (hE : Ep E) {k : Nat} {mem : Mm} {Q : Int → Mm → Prop}
    (h : (CV E mX12_beginText k (aUp (aUp mem 603 0 0) 603 56 (-1)) [aR 603, aI 1] (fun m1 => (CV E mX12_readOrder k m1 [aR 603] (fun m2 => VM E mX12_orders (k + 1) m2 19 [(0, aR 603)] [] (retI Q)))))) :
    VM E mX12_orders (k + 1) mem 0 [(0, aR 603)] [] (retI Q) := by
  refine v_aload_n (pc := 0) dX12_orders_0 0 rfl ?_
  refine v_iconst (pc := 1) dX12_orders_1 (by decide) ?_
  refine v_putf (pc := 2) dX12_orders_2 flX12_162 ⟨_, _, rfl, Or.inl rfl⟩ rfl (by decide) (fun q => nomatch q) (Or.inl fun _ => rfl) at603 ?_
  refine v_aload_n (pc := 5) dX12_orders_5 0 rfl ?_
  refine v_iconst (pc := 6) dX12_orders_6 (by decide) ?_
  refine v_putf (pc := 7) dX12_orders_7 flX12_153 ⟨_, _, rfl, Or.inl rfl⟩ rfl (by decide) (fun q => nomatch q) (Or.inl fun _ => rfl) at603 ?_
  refine v_aload_n (pc := 10) dX12_orders_10 0 rfl ?_
  refine v_iconst (pc := 11) dX12_orders_11 (by decide) ?_
  refine m_invV (pc := 12) (mi' := mX12_beginText) (rest := []) [aI 1] dX12_orders_12 at603 (by decide) rfl msX12_beginText mvX12_beginText lkX12_377 rfl (Nat.le_of_ble_eq_true rfl) (fun hn => CV_mono (h) (fun m1 h => ?_))
  refine v_aload_n (pc := 15) dX12_orders_15 0 rfl ?_
  refine m_invV (pc := 16) (mi' := mX12_readOrder) (rest := []) [] dX12_orders_16 at603 (by decide) rfl msX12_readOrder mvX12_readOrder lkX12_531 rfl (Nat.le_of_ble_eq_true rfl) (fun hn => CV_mono (h) (fun m2 h => ?_))
  exact VG_sub (al' := [(0, aR 603)]) [0] rfl h
theorem eX12_orders {E : EN} {k : Nat} {mem : Mm} {Q : Int → Mm → Prop}  (h : VM E mX12_orders (k + 1) mem 0 [(0, aR 603)] [] (retI Q)) : CI E mX12_orders (k + 1) mem [aR 603] Q := CI_of rfl (Nat.le_of_ble_eq_true rfl) h (aNs_c (aNr_R _) (fun _ q => nomatch q))
set_option maxRecDepth 20000 in
theorem rX12_orders_19 {E : EN} (hE : Ep E) {k : Nat} {mem : Mm} {Q : Int → Mm → Prop}
    (h : ((¬ (mem 603 19) = 0 → (CV E mX12_endText k mem [aR 603] (fun m1 => (((m1 603 19) = 0 → (CV E mX12_keepAll k m1 [aR 603, aI 17] (fun m2 => VM E mX12_orders (k + 1) m2 82 [(0, aR 603), (1, aI (m2 603 8)), (2, aI (m2 603 43)), (3, aI 0)] [] (retI Q)))) ∧ (¬ (m1 603 19) = 0 → (CI E mX12_tell k m1 [aR 603, aI (-6)] (fun r4 m3 => Q r4 m3))))))) ∧ ((mem 603 19) = 0 → (CI E mX12_isSign k mem [aR 603, aI 59] (fun r6 m5 => ((r6 = 0 → (CV E mX12_endText k m5 [aR 603] (fun m7 => (((m7 603 19) = 0 → (CV E mX12_keepAll k m7 [aR 603, aI 17] (fun m8 => VM E mX12_orders (k + 1) m8 82 [(0, aR 603), (1, aI (m8 603 8)), (2, aI (m8 603 43)), (3, aI 0)] [] (retI Q)))) ∧ (¬ (m7 603 19) = 0 → (CI E mX12_tell k m7 [aR 603, aI (-6)] (fun r10 m9 => Q r10 m9))))))) ∧ (¬ r6 = 0 → (CV E mX12_next k m5 [aR 603] (fun m11 => (CV E mX12_readOrder k m11 [aR 603] (fun m12 => VM E mX12_orders (k + 1) m12 19 [(0, aR 603)] [] (retI Q)))))))))))) :
    VM E mX12_orders (k + 1) mem 19 [(0, aR 603)] [] (retI Q) := by
  refine v_aload_n (pc := 19) dX12_orders_19 0 rfl ?_
  refine m_getf (pc := 20) (t := 0) (v := (mem 603 19)) dX12_orders_20 flX12_241 rfl at603 rfl ?_
  refine v_ifne (pc := 23) (tgt := 46) dX12_orders_23 (by decide) (fun c1 => ?_) (fun c1 => ?_)
  · have h := h.1 c1
    refine v_aload_n (pc := 46) dX12_orders_46 0 rfl ?_
    refine m_invV (pc := 47) (mi' := mX12_endText) (rest := []) [] dX12_orders_47 at603 (by decide) rfl msX12_endText mvX12_endText lkX12_383 rfl (Nat.le_of_ble_eq_true rfl) (fun hn => CV_mono (h) (fun m1 h => ?_))
    refine v_aload_n (pc := 50) dX12_orders_50 0 rfl ?_
    refine m_getf (pc := 51) (t := 0) (v := (m1 603 19)) dX12_orders_51 flX12_241 rfl at603 rfl ?_
    refine v_ifeq (pc := 54) (tgt := 64) dX12_orders_54 (by decide) (fun c1 => ?_) (fun c1 => ?_)
    · have h := h.1 c1
      refine v_aload_n (pc := 64) dX12_orders_64 0 rfl ?_
      refine v_bipush (pc := 65) dX12_orders_65 (by decide) ?_
      refine m_invV (pc := 67) (mi' := mX12_keepAll) (rest := []) [aI 17] dX12_orders_67 at603 (by decide) rfl msX12_keepAll mvX12_keepAll lkX12_171 rfl (Nat.le_of_ble_eq_true rfl) (fun hn => CV_mono (h) (fun m2 h => ?_))
      refine v_aload_n (pc := 70) dX12_orders_70 0 rfl ?_
      refine m_getf (pc := 71) (t := 0) (v := (m2 603 8)) dX12_orders_71 flX12_168 rfl at603 rfl ?_
      refine v_istore_n (pc := 74) (al2 := [(1, aI (m2 603 8)), (0, aR 603)]) dX12_orders_74 (by decide) rfl ?_
      refine v_aload_n (pc := 75) dX12_orders_75 1 rfl ?_
      refine m_getf (pc := 76) (t := 0) (v := (m2 603 43)) dX12_orders_76 flX12_473 rfl at603 rfl ?_
      refine v_istore_n (pc := 79) (al2 := [(2, aI (m2 603 43)), (1, aI (m2 603 8)), (0, aR 603)]) dX12_orders_79 (by decide) rfl ?_
      refine v_iconst (pc := 80) dX12_orders_80 (by decide) ?_
      refine v_istore_n (pc := 81) (al2 := [(3, aI 0), (2, aI (m2 603 43)), (1, aI (m2 603 8)), (0, aR 603)]) dX12_orders_81 (by decide) rfl ?_
      exact VG_sub (al' := [(0, aR 603), (1, aI (m2 603 8)), (2, aI (m2 603 43)), (3, aI 0)]) [3, 2, 1, 0] rfl h
    · have h := h.2 c1
      refine v_aload_n (pc := 57) dX12_orders_57 0 rfl ?_
      refine v_bipush (pc := 58) dX12_orders_58 (by decide) ?_
      refine m_invI (pc := 60) (mi' := mX12_tell) (rest := []) [aI (-6)] dX12_orders_60 at603 (by decide) rfl msX12_tell mvX12_tell lkX12_175 rfl (Nat.le_of_ble_eq_true rfl) (fun hn => CI_mono (h) (fun r4 m3 h => ?_))
      exact m_retI (pc := 63) dX12_orders_63 rfl h
  · have h := h.2 c1
    refine v_aload_n (pc := 26) dX12_orders_26 0 rfl ?_
    refine v_bipush (pc := 27) dX12_orders_27 (by decide) ?_
    refine m_invI (pc := 29) (mi' := mX12_isSign) (rest := []) [aI 59] dX12_orders_29 at603 (by decide) rfl msX12_isSign mvX12_isSign lkX12_311 rfl (Nat.le_of_ble_eq_true rfl) (fun hn => CI_mono (h) (fun r6 m5 h => ?_))
    refine v_ifeq (pc := 32) (tgt := 46) dX12_orders_32 (by decide) (fun c1 => ?_) (fun c1 => ?_)
    · have h := h.1 c1
      refine v_aload_n (pc := 46) dX12_orders_46 0 rfl ?_
      refine m_invV (pc := 47) (mi' := mX12_endText) (rest := []) [] dX12_orders_47 at603 (by decide) rfl msX12_endText mvX12_endText lkX12_383 rfl (Nat.le_of_ble_eq_true rfl) (fun hn => CV_mono (h) (fun m7 h => ?_))
      refine v_aload_n (pc := 50) dX12_orders_50 0 rfl ?_
      refine m_getf (pc := 51) (t := 0) (v := (m7 603 19)) dX12_orders_51 flX12_241 rfl at603 rfl ?_
      refine v_ifeq (pc := 54) (tgt := 64) dX12_orders_54 (by decide) (fun c1 => ?_) (fun c1 => ?_)
      · have h := h.1 c1
        refine v_aload_n (pc := 64) dX12_orders_64 0 rfl ?_
        refine v_bipush (pc := 65) dX12_orders_65 (by decide) ?_
        refine m_invV (pc := 67) (mi' := mX12_keepAll) (rest := []) [aI 17] dX12_orders_67 at603 (by decide) rfl msX12_keepAll mvX12_keepAll lkX12_171 rfl (Nat.le_of_ble_eq_true rfl) (fun hn => CV_mono (h) (fun m8 h => ?_))
        refine v_aload_n (pc := 70) dX12_orders_70 0 rfl ?_
        refine m_getf (pc := 71) (t := 0) (v := (m8 603 8)) dX12_orders_71 flX12_168 rfl at603 rfl ?_
        refine v_istore_n (pc := 74) (al2 := [(1, aI (m8 603 8)), (0, aR 603)]) dX12_orders_74 (by decide) rfl ?_
        refine v_aload_n (pc := 75) dX12_orders_75 1 rfl ?_
        refine m_getf (pc := 76) (t := 0) (v := (m8 603 43)) dX12_orders_76 flX12_473 rfl at603 rfl ?_
        refine v_istore_n (pc := 79) (al2 := [(2, aI (m8 603 43)), (1, aI (m8 603 8)), (0, aR 603)]) dX12_orders_79 (by decide) rfl ?_
        refine v_iconst (pc := 80) dX12_orders_80 (by decide) ?_
        refine v_istore_n (pc := 81) (al2 := [(3, aI 0), (2, aI (m8 603 43)), (1, aI (m8 603 8)), (0, aR 603)]) dX12_orders_81 (by decide) rfl ?_
        exact VG_sub (al' := [(0, aR 603), (1, aI (m8 603 8)), (2, aI (m8 603 43)), (3, aI 0)]) [3, 2, 1, 0] rfl h
      · have h := h.2 c1
        refine v_aload_n (pc := 57) dX12_orders_57 0 rfl ?_
        refine v_bipush (pc := 58) dX12_orders_58 (by decide) ?_
        refine m_invI (pc := 60) (mi' := mX12_tell) (rest := []) [aI (-6)] dX12_orders_60 at603 (by decide) rfl msX12_tell mvX12_tell lkX12_175 rfl (Nat.le_of_ble_eq_true rfl) (fun hn => CI_mono (h) (fun r10 m9 h => ?_))
        exact m_retI (pc := 63) dX12_orders_63 rfl h
    · have h := h.2 c1
      refine v_aload_n (pc := 35) dX12_orders_35 0 rfl ?_
      refine m_invV (pc := 36) (mi' := mX12_next) (rest := []) [] dX12_orders_36 at603 (by decide) rfl msX12_next mvX12_next lkX12_245 rfl (Nat.le_of_ble_eq_true rfl) (fun hn => CV_mono (h) (fun m11 h => ?_))
      refine v_aload_n (pc := 39) dX12_orders_39 0 rfl ?_
      refine m_invV (pc := 40) (mi' := mX12_readOrder) (rest := []) [] dX12_orders_40 at603 (by decide) rfl msX12_readOrder mvX12_readOrder lkX12_531 rfl (Nat.le_of_ble_eq_true rfl) (fun hn => CV_mono (h) (fun m12 h => ?_))
      refine v_goto (pc := 43) (tgt := 19) dX12_orders_43 (by decide) ?_
      exact VG_sub (al' := [(0, aR 603)]) [0] rfl h
set_option maxRecDepth 20000 in
theorem rX12_orders_82 {E : EN} (hE : Ep E) {k : Nat} {mem : Mm} {Q : Int → Mm → Prop} {x1 x2 x3 : Int}
    (h : ((1232 ≤ x3 → VM E mX12_orders (k + 1) mem 109 [(0, aR 603), (1, aI x1), (2, aI x2), (3, aI 0)] [] (retI Q)) ∧ (x3 < 1232 → (0 ≤ x3 ∧ x3 < 1386) ∧ (0 ≤ x3 ∧ x3 < 1232) ∧ (R32 (x3 + 1)) ∧ VM E mX12_orders (k + 1) (aUp mem 610 x3 (mem 608 x3)) 82 [(0, aR 603), (1, aI x1), (2, aI x2), (3, aI (x3 + 1))] [] (retI Q)))) :
    VM E mX12_orders (k + 1) mem 82 [(0, aR 603), (1, aI x1), (2, aI x2), (3, aI x3)] [] (retI Q) := by
  refine v_iload_n (pc := 82) dX12_orders_82 3 rfl ?_
  refine v_sipush (pc := 83) dX12_orders_83 (by decide) ?_
  refine v_icmpge (pc := 86) (tgt := 107) dX12_orders_86 (by decide) (fun c1 => ?_) (fun c1 => ?_)
  · have h := h.1 c1
    refine v_iconst (pc := 107) dX12_orders_107 (by decide) ?_
    refine v_istore_n (pc := 108) (al2 := [(3, aI 0), (0, aR 603), (1, aI x1), (2, aI x2)]) dX12_orders_108 (by decide) rfl ?_
    exact VG_sub (al' := [(0, aR 603), (1, aI x1), (2, aI x2), (3, aI 0)]) [1, 2, 3, 0] rfl h
  · have h := h.2 c1
    refine v_aload_n (pc := 89) dX12_orders_89 0 rfl ?_
    refine m_getfin (pc := 90) (v := 610) hE dX12_orders_90 flX12_29 rfl at603 rfl ?_
    refine v_iload_n (pc := 93) dX12_orders_93 3 rfl ?_
    refine v_aload_n (pc := 94) dX12_orders_94 0 rfl ?_
    refine m_getfin (pc := 95) (v := 608) hE dX12_orders_95 flX12_23 rfl at603 rfl ?_
    refine v_iload_n (pc := 98) dX12_orders_98 3 rfl ?_
    obtain ⟨o1, h⟩ := h
    refine m_iald (pc := 99) (v := (mem 608 x3)) dX12_orders_99 at608 o1.1 o1.2 rfl ?_
    obtain ⟨o2, h⟩ := h
    refine v_iast (pc := 100) dX12_orders_100 at610 o2.1 o2.2 ?_
    obtain ⟨o3, h⟩ := h
    refine m_iinc (pc := 101) (al2 := [(3, aI (x3 + 1)), (0, aR 603), (1, aI x1), (2, aI x2)]) dX12_orders_101 3 rfl (by decide) o3 rfl ?_
    refine v_goto (pc := 104) (tgt := 82) dX12_orders_104 (by decide) ?_
    exact VG_sub (al' := [(0, aR 603), (1, aI x1), (2, aI x2), (3, aI (x3 + 1))]) [1, 2, 3, 0] rfl h
set_option maxRecDepth 20000 in
theorem rX12_orders_109 {E : EN} (hE : Ep E) {k : Nat} {mem : Mm} {Q : Int → Mm → Prop} {x1 x2 x3 : Int}
    (h : ((16 ≤ x3 → VM E mX12_orders (k + 1) (aUp (aUp mem 603 54 0) 603 55 (-1)) 145 [(0, aR 603), (1, aI x1), (2, aI x2), (3, aI 0)] [] (retI Q)) ∧ (x3 < 16 → (0 ≤ x3 ∧ x3 < 16) ∧ (R32 (x3 + 1)) ∧ VM E mX12_orders (k + 1) (aUp mem 611 x3 (mem 609 x3)) 109 [(0, aR 603), (1, aI x1), (2, aI x2), (3, aI (x3 + 1))] [] (retI Q)))) :
    VM E mX12_orders (k + 1) mem 109 [(0, aR 603), (1, aI x1), (2, aI x2), (3, aI x3)] [] (retI Q) := by
  refine v_iload_n (pc := 109) dX12_orders_109 3 rfl ?_
  refine v_bipush (pc := 110) dX12_orders_110 (by decide) ?_
  refine v_icmpge (pc := 112) (tgt := 133) dX12_orders_112 (by decide) (fun c1 => ?_) (fun c1 => ?_)
  · have h := h.1 c1
    refine v_aload_n (pc := 133) dX12_orders_133 0 rfl ?_
    refine v_iconst (pc := 134) dX12_orders_134 (by decide) ?_
    refine v_putf (pc := 135) dX12_orders_135 flX12_519 ⟨_, _, rfl, Or.inl rfl⟩ rfl (by decide) (fun q => nomatch q) (Or.inl fun _ => rfl) at603 ?_
    refine v_aload_n (pc := 138) dX12_orders_138 0 rfl ?_
    refine v_iconst (pc := 139) dX12_orders_139 (by decide) ?_
    refine v_putf (pc := 140) dX12_orders_140 flX12_522 ⟨_, _, rfl, Or.inl rfl⟩ rfl (by decide) (fun q => nomatch q) (Or.inl fun _ => rfl) at603 ?_
    refine v_iconst (pc := 143) dX12_orders_143 (by decide) ?_
    refine v_istore_n (pc := 144) (al2 := [(3, aI 0), (0, aR 603), (1, aI x1), (2, aI x2)]) dX12_orders_144 (by decide) rfl ?_
    exact VG_sub (al' := [(0, aR 603), (1, aI x1), (2, aI x2), (3, aI 0)]) [1, 2, 3, 0] rfl h
  · have h := h.2 c1
    refine v_aload_n (pc := 115) dX12_orders_115 0 rfl ?_
    refine m_getfin (pc := 116) (v := 611) hE dX12_orders_116 flX12_32 rfl at603 rfl ?_
    refine v_iload_n (pc := 119) dX12_orders_119 3 rfl ?_
    refine v_aload_n (pc := 120) dX12_orders_120 0 rfl ?_
    refine m_getfin (pc := 121) (v := 609) hE dX12_orders_121 flX12_26 rfl at603 rfl ?_
    refine v_iload_n (pc := 124) dX12_orders_124 3 rfl ?_
    obtain ⟨o1, h⟩ := h
    refine m_iald (pc := 125) (v := (mem 609 x3)) dX12_orders_125 at609 o1.1 o1.2 rfl ?_
    refine v_iast (pc := 126) dX12_orders_126 at611 o1.1 o1.2 ?_
    obtain ⟨o2, h⟩ := h
    refine m_iinc (pc := 127) (al2 := [(3, aI (x3 + 1)), (0, aR 603), (1, aI x1), (2, aI x2)]) dX12_orders_127 3 rfl (by decide) o2 rfl ?_
    refine v_goto (pc := 130) (tgt := 109) dX12_orders_130 (by decide) ?_
    exact VG_sub (al' := [(0, aR 603), (1, aI x1), (2, aI x2), (3, aI (x3 + 1))]) [1, 2, 3, 0] rfl h
set_option maxRecDepth 20000 in
theorem rX12_orders_145 {E : EN} (hE : Ep E) {k : Nat} {mem : Mm} {Q : Int → Mm → Prop} {x1 x2 x3 : Int}
    (h : (((mem 603 21) ≤ x3 → (R32 (mem 603 54) → CI E mX12_tell k mem [aR 603, aI (mem 603 54)] (fun r2 m1 => Q r2 m1))) ∧ (x3 < (mem 603 21) → VM E mX12_orders (k + 1) mem 156 [(0, aR 603), (1, aI x1), (2, aI x2), (3, aI x3), (4, aI 0)] [] (retI Q)))) :
    VM E mX12_orders (k + 1) mem 145 [(0, aR 603), (1, aI x1), (2, aI x2), (3, aI x3)] [] (retI Q) := by
  refine v_iload_n (pc := 145) dX12_orders_145 3 rfl ?_
  refine v_aload_n (pc := 146) dX12_orders_146 0 rfl ?_
  refine m_getf (pc := 147) (t := 0) (v := (mem 603 21)) dX12_orders_147 flX12_369 rfl at603 rfl ?_
  refine v_icmpge (pc := 150) (tgt := 222) dX12_orders_150 (by decide) (fun c1 => ?_) (fun c1 => ?_)
  · have h := h.1 c1
    refine v_aload_n (pc := 222) dX12_orders_222 0 rfl ?_
    refine v_aload_n (pc := 223) dX12_orders_223 0 rfl ?_
    refine m_getf (pc := 224) (t := 0) (v := (mem 603 54)) dX12_orders_224 flX12_519 rfl at603 rfl ?_
    refine m_invI (pc := 227) (mi' := mX12_tell) (rest := []) [aI (mem 603 54)] dX12_orders_227 at603 (by decide) rfl msX12_tell mvX12_tell lkX12_175 rfl (Nat.le_of_ble_eq_true rfl) (fun hn => CI_mono (h (aaI hn 1 rfl)) (fun r2 m1 h => ?_))
    exact m_retI (pc := 230) dX12_orders_230 rfl h
  · have h := h.2 c1
    refine v_iconst (pc := 153) dX12_orders_153 (by decide) ?_
    refine v_istore (pc := 154) (al2 := [(4, aI 0), (0, aR 603), (1, aI x1), (2, aI x2), (3, aI x3)]) dX12_orders_154 (by decide) rfl ?_
    exact VG_sub (al' := [(0, aR 603), (1, aI x1), (2, aI x2), (3, aI x3), (4, aI 0)]) [1, 2, 3, 4, 0] rfl h
set_option maxRecDepth 20000 in
theorem rX12_orders_156 {E : EN} (hE : Ep E) {k : Nat} {mem : Mm} {Q : Int → Mm → Prop} {x1 x2 x3 x4 : Int}
    (h : (R32 (8 * x3)) ∧ (R32 ((8 * x3) + 7)) ∧ (0 ≤ ((8 * x3) + 7) ∧ ((8 * x3) + 7) < 96) ∧ (((mem 634 ((8 * x3) + 7)) ≤ x4 → (R32 (x3 + 1)) ∧ VM E mX12_orders (k + 1) mem 145 [(0, aR 603), (1, aI x1), (2, aI x2), (3, aI (x3 + 1))] [] (retI Q)) ∧ (x4 < (mem 634 ((8 * x3) + 7)) → (R32 (8 * x3) → CI E mX12_run k mem [aR 603, aI (8 * x3)] (fun r6 m5 => ((0 ≤ r6 → (R32 (x4 + 1)) ∧ VM E mX12_orders (k + 1) m5 156 [(0, aR 603), (1, aI x1), (2, aI x2), (3, aI x3), (4, aI (x4 + 1))] [] (retI Q)) ∧ (r6 < 0 → (R32 x1 → CV E mX12_giveBack k m5 [aR 603, aI x1] (fun m8 => (R32 r6 → CI E mX12_tell k (aUp (aUp m8 603 43 x2) 603 56 x3) [aR 603, aI r6] (fun r10 m9 => Q r10 m9))))))))))) :
    VM E mX12_orders (k + 1) mem 156 [(0, aR 603), (1, aI x1), (2, aI x2), (3, aI x3), (4, aI x4)] [] (retI Q) := by
  refine v_iload (pc := 156) dX12_orders_156 4 rfl ?_
  refine v_aload_n (pc := 158) dX12_orders_158 0 rfl ?_
  refine m_getfin (pc := 159) (v := 634) hE dX12_orders_159 flX12_150 rfl at603 rfl ?_
  refine v_bipush (pc := 162) dX12_orders_162 (by decide) ?_
  refine v_iload_n (pc := 164) dX12_orders_164 3 rfl ?_
  obtain ⟨o1, h⟩ := h
  refine m_imul (pc := 165) dX12_orders_165 o1 ?_
  refine v_bipush (pc := 166) dX12_orders_166 (by decide) ?_
  obtain ⟨o2, h⟩ := h
  refine m_iadd (pc := 168) dX12_orders_168 o2 ?_
  obtain ⟨o3, h⟩ := h
  refine m_iald (pc := 169) (v := (mem 634 ((8 * x3) + 7))) dX12_orders_169 at634 o3.1 o3.2 rfl ?_
  refine v_icmpge (pc := 170) (tgt := 216) dX12_orders_170 (by decide) (fun c1 => ?_) (fun c1 => ?_)
  · have h := h.1 c1
    obtain ⟨o4, h⟩ := h
    refine m_iinc (pc := 216) (al2 := [(3, aI (x3 + 1)), (0, aR 603), (1, aI x1), (2, aI x2), (4, aI x4)]) dX12_orders_216 3 rfl (by decide) o4 rfl ?_
    refine v_goto (pc := 219) (tgt := 145) dX12_orders_219 (by decide) ?_
    exact VG_sub (al' := [(0, aR 603), (1, aI x1), (2, aI x2), (3, aI (x3 + 1))]) [1, 2, 3, 0] rfl h
  · have h := h.2 c1
    refine v_aload_n (pc := 173) dX12_orders_173 0 rfl ?_
    refine v_bipush (pc := 174) dX12_orders_174 (by decide) ?_
    refine v_iload_n (pc := 176) dX12_orders_176 3 rfl ?_
    refine m_imul (pc := 177) dX12_orders_177 o1 ?_
    refine m_invI (pc := 178) (mi' := mX12_run) (rest := []) [aI (8 * x3)] dX12_orders_178 at603 (by decide) rfl msX12_run mvX12_run lkX12_534 rfl (Nat.le_of_ble_eq_true rfl) (fun hn => CI_mono (h (aaI hn 1 rfl)) (fun r6 m5 h => ?_))
    refine v_istore (pc := 181) (al2 := [(5, aI r6), (0, aR 603), (1, aI x1), (2, aI x2), (3, aI x3), (4, aI x4)]) dX12_orders_181 (by decide) rfl ?_
    refine v_iload (pc := 183) dX12_orders_183 0 rfl ?_
    refine v_ifge (pc := 185) (tgt := 210) dX12_orders_185 (by decide) (fun c1 => ?_) (fun c1 => ?_)
    · have h := h.1 c1
      obtain ⟨o7, h⟩ := h
      refine m_iinc (pc := 210) (al2 := [(4, aI (x4 + 1)), (5, aI r6), (0, aR 603), (1, aI x1), (2, aI x2), (3, aI x3)]) dX12_orders_210 5 rfl (by decide) o7 rfl ?_
      refine v_goto (pc := 213) (tgt := 156) dX12_orders_213 (by decide) ?_
      exact VG_sub (al' := [(0, aR 603), (1, aI x1), (2, aI x2), (3, aI x3), (4, aI (x4 + 1))]) [2, 3, 4, 5, 0] rfl h
    · have h := h.2 c1
      refine v_aload_n (pc := 188) dX12_orders_188 1 rfl ?_
      refine v_iload_n (pc := 189) dX12_orders_189 2 rfl ?_
      refine m_invV (pc := 190) (mi' := mX12_giveBack) (rest := []) [aI x1] dX12_orders_190 at603 (by decide) rfl msX12_giveBack mvX12_giveBack lkX12_537 rfl (Nat.le_of_ble_eq_true rfl) (fun hn => CV_mono (h (aaI hn 1 rfl)) (fun m8 h => ?_))
      refine v_aload_n (pc := 193) dX12_orders_193 1 rfl ?_
      refine v_iload_n (pc := 194) dX12_orders_194 3 rfl ?_
      refine v_putf (pc := 195) dX12_orders_195 flX12_473 ⟨_, _, rfl, Or.inl rfl⟩ rfl (by decide) (fun q => nomatch q) (Or.inl fun _ => rfl) at603 ?_
      refine v_aload_n (pc := 198) dX12_orders_198 1 rfl ?_
      refine v_iload_n (pc := 199) dX12_orders_199 4 rfl ?_
      refine v_putf (pc := 200) dX12_orders_200 flX12_153 ⟨_, _, rfl, Or.inl rfl⟩ rfl (by decide) (fun q => nomatch q) (Or.inl fun _ => rfl) at603 ?_
      refine v_aload_n (pc := 203) dX12_orders_203 1 rfl ?_
      refine v_iload (pc := 204) dX12_orders_204 0 rfl ?_
      refine m_invI (pc := 206) (mi' := mX12_tell) (rest := []) [aI r6] dX12_orders_206 at603 (by decide) rfl msX12_tell mvX12_tell lkX12_175 rfl (Nat.le_of_ble_eq_true rfl) (fun hn => CI_mono (h (aaI hn 1 rfl)) (fun r10 m9 h => ?_))
      exact m_retI (pc := 209) dX12_orders_209 rfl h

theorem dX12_giveBack_0 : decode cX12_giveBack 0 = .ok (.aload_n 0, 1) := by decide +kernel
theorem dX12_giveBack_1 : decode cX12_giveBack 1 = .ok (.bipush 17, 2) := by decide +kernel
theorem dX12_giveBack_3 : decode cX12_giveBack 3 = .ok (.invokevirtual 179, 3) := by decide +kernel
theorem dX12_giveBack_6 : decode cX12_giveBack 6 = .ok (.iconst 0, 1) := by decide +kernel
theorem dX12_giveBack_7 : decode cX12_giveBack 7 = .ok (.istore_n 2, 1) := by decide +kernel
theorem dX12_giveBack_8 : decode cX12_giveBack 8 = .ok (.iload_n 2, 1) := by decide +kernel
theorem dX12_giveBack_9 : decode cX12_giveBack 9 = .ok (.sipush 1232, 3) := by decide +kernel
theorem dX12_giveBack_12 : decode cX12_giveBack 12 = .ok (.if_icmp .ge 21, 3) := by decide +kernel
theorem dX12_giveBack_15 : decode cX12_giveBack 15 = .ok (.aload_n 0, 1) := by decide +kernel
theorem dX12_giveBack_16 : decode cX12_giveBack 16 = .ok (.getfield 23, 3) := by decide +kernel
theorem dX12_giveBack_19 : decode cX12_giveBack 19 = .ok (.iload_n 2, 1) := by decide +kernel
theorem dX12_giveBack_20 : decode cX12_giveBack 20 = .ok (.aload_n 0, 1) := by decide +kernel
theorem dX12_giveBack_21 : decode cX12_giveBack 21 = .ok (.getfield 29, 3) := by decide +kernel
theorem dX12_giveBack_24 : decode cX12_giveBack 24 = .ok (.iload_n 2, 1) := by decide +kernel
theorem dX12_giveBack_25 : decode cX12_giveBack 25 = .ok (.iaload, 1) := by decide +kernel
theorem dX12_giveBack_26 : decode cX12_giveBack 26 = .ok (.iastore, 1) := by decide +kernel
theorem dX12_giveBack_27 : decode cX12_giveBack 27 = .ok (.iinc 2 1, 3) := by decide +kernel
theorem dX12_giveBack_30 : decode cX12_giveBack 30 = .ok (.goto (-22), 3) := by decide +kernel
theorem dX12_giveBack_33 : decode cX12_giveBack 33 = .ok (.iconst 0, 1) := by decide +kernel
theorem dX12_giveBack_34 : decode cX12_giveBack 34 = .ok (.istore_n 2, 1) := by decide +kernel
theorem dX12_giveBack_35 : decode cX12_giveBack 35 = .ok (.iload_n 2, 1) := by decide +kernel
theorem dX12_giveBack_36 : decode cX12_giveBack 36 = .ok (.bipush 16, 2) := by decide +kernel
theorem dX12_giveBack_38 : decode cX12_giveBack 38 = .ok (.if_icmp .ge 21, 3) := by decide +kernel
theorem dX12_giveBack_41 : decode cX12_giveBack 41 = .ok (.aload_n 0, 1) := by decide +kernel
theorem dX12_giveBack_42 : decode cX12_giveBack 42 = .ok (.getfield 26, 3) := by decide +kernel
theorem dX12_giveBack_45 : decode cX12_giveBack 45 = .ok (.iload_n 2, 1) := by decide +kernel
theorem dX12_giveBack_46 : decode cX12_giveBack 46 = .ok (.aload_n 0, 1) := by decide +kernel
theorem dX12_giveBack_47 : decode cX12_giveBack 47 = .ok (.getfield 32, 3) := by decide +kernel
theorem dX12_giveBack_50 : decode cX12_giveBack 50 = .ok (.iload_n 2, 1) := by decide +kernel
theorem dX12_giveBack_51 : decode cX12_giveBack 51 = .ok (.iaload, 1) := by decide +kernel
theorem dX12_giveBack_52 : decode cX12_giveBack 52 = .ok (.iastore, 1) := by decide +kernel
theorem dX12_giveBack_53 : decode cX12_giveBack 53 = .ok (.iinc 2 1, 3) := by decide +kernel
theorem dX12_giveBack_56 : decode cX12_giveBack 56 = .ok (.goto (-21), 3) := by decide +kernel
theorem dX12_giveBack_59 : decode cX12_giveBack 59 = .ok (.aload_n 0, 1) := by decide +kernel
theorem dX12_giveBack_60 : decode cX12_giveBack 60 = .ok (.iload_n 1, 1) := by decide +kernel
theorem dX12_giveBack_61 : decode cX12_giveBack 61 = .ok (.putfield 168, 3) := by decide +kernel
theorem dX12_giveBack_64 : decode cX12_giveBack 64 = .ok (.return_, 1) := by decide +kernel
set_option maxRecDepth 20000 in
theorem rX12_giveBack_0 {E : EN} (hE : Ep E) {k : Nat} {mem : Mm} {Q : Mm → Prop} {p0 : Int}
    (h : (CV E mX12_putBack k mem [aR 603, aI 17] (fun m1 => VM E mX12_giveBack (k + 1) m1 8 [(0, aR 603), (1, aI p0), (2, aI 0)] [] (retV Q)))) :
    VM E mX12_giveBack (k + 1) mem 0 [(0, aR 603), (1, aI p0)] [] (retV Q) := by
  refine v_aload_n (pc := 0) dX12_giveBack_0 0 rfl ?_
  refine v_bipush (pc := 1) dX12_giveBack_1 (by decide) ?_
  refine m_invV (pc := 3) (mi' := mX12_putBack) (rest := []) [aI 17] dX12_giveBack_3 at603 (by decide) rfl msX12_putBack mvX12_putBack lkX12_179 rfl (Nat.le_of_ble_eq_true rfl) (fun hn => CV_mono (h) (fun m1 h => ?_))
  refine v_iconst (pc := 6) dX12_giveBack_6 (by decide) ?_
  refine v_istore_n (pc := 7) (al2 := [(2, aI 0), (0, aR 603), (1, aI p0)]) dX12_giveBack_7 (by decide) rfl ?_
  exact VG_sub (al' := [(0, aR 603), (1, aI p0), (2, aI 0)]) [1, 2, 0] rfl h
theorem eX12_giveBack {E : EN} {k : Nat} {mem : Mm} {Q : Mm → Prop} {p0 : Int} (hr_p0 : R32 p0) (h : VM E mX12_giveBack (k + 1) mem 0 [(0, aR 603), (1, aI p0)] [] (retV Q)) : CV E mX12_giveBack (k + 1) mem [aR 603, aI p0] Q := CV_of rfl (Nat.le_of_ble_eq_true rfl) h (aNs_c (aNr_R _) (aNs_c (aNr_I hr_p0) (fun _ q => nomatch q)))
set_option maxRecDepth 20000 in
theorem rX12_giveBack_8 {E : EN} (hE : Ep E) {k : Nat} {mem : Mm} {Q : Mm → Prop} {p0 x2 : Int}
    (h : ((1232 ≤ x2 → VM E mX12_giveBack (k + 1) mem 35 [(0, aR 603), (1, aI p0), (2, aI 0)] [] (retV Q)) ∧ (x2 < 1232 → (0 ≤ x2 ∧ x2 < 1232) ∧ (0 ≤ x2 ∧ x2 < 1386) ∧ (R32 (x2 + 1)) ∧ VM E mX12_giveBack (k + 1) (aUp mem 608 x2 (mem 610 x2)) 8 [(0, aR 603), (1, aI p0), (2, aI (x2 + 1))] [] (retV Q)))) :
    VM E mX12_giveBack (k + 1) mem 8 [(0, aR 603), (1, aI p0), (2, aI x2)] [] (retV Q) := by
  refine v_iload_n (pc := 8) dX12_giveBack_8 2 rfl ?_
  refine v_sipush (pc := 9) dX12_giveBack_9 (by decide) ?_
  refine v_icmpge (pc := 12) (tgt := 33) dX12_giveBack_12 (by decide) (fun c1 => ?_) (fun c1 => ?_)
  · have h := h.1 c1
    refine v_iconst (pc := 33) dX12_giveBack_33 (by decide) ?_
    refine v_istore_n (pc := 34) (al2 := [(2, aI 0), (0, aR 603), (1, aI p0)]) dX12_giveBack_34 (by decide) rfl ?_
    exact VG_sub (al' := [(0, aR 603), (1, aI p0), (2, aI 0)]) [1, 2, 0] rfl h
  · have h := h.2 c1
    refine v_aload_n (pc := 15) dX12_giveBack_15 0 rfl ?_
    refine m_getfin (pc := 16) (v := 608) hE dX12_giveBack_16 flX12_23 rfl at603 rfl ?_
    refine v_iload_n (pc := 19) dX12_giveBack_19 2 rfl ?_
    refine v_aload_n (pc := 20) dX12_giveBack_20 0 rfl ?_
    refine m_getfin (pc := 21) (v := 610) hE dX12_giveBack_21 flX12_29 rfl at603 rfl ?_
    refine v_iload_n (pc := 24) dX12_giveBack_24 2 rfl ?_
    obtain ⟨o1, h⟩ := h
    refine m_iald (pc := 25) (v := (mem 610 x2)) dX12_giveBack_25 at610 o1.1 o1.2 rfl ?_
    obtain ⟨o2, h⟩ := h
    refine v_iast (pc := 26) dX12_giveBack_26 at608 o2.1 o2.2 ?_
    obtain ⟨o3, h⟩ := h
    refine m_iinc (pc := 27) (al2 := [(2, aI (x2 + 1)), (0, aR 603), (1, aI p0)]) dX12_giveBack_27 2 rfl (by decide) o3 rfl ?_
    refine v_goto (pc := 30) (tgt := 8) dX12_giveBack_30 (by decide) ?_
    exact VG_sub (al' := [(0, aR 603), (1, aI p0), (2, aI (x2 + 1))]) [1, 2, 0] rfl h
set_option maxRecDepth 20000 in
theorem rX12_giveBack_35 {E : EN} (hE : Ep E) {k : Nat} {mem : Mm} {Q : Mm → Prop} {p0 x2 : Int}
    (h : ((16 ≤ x2 → Q (aUp mem 603 8 p0)) ∧ (x2 < 16 → (0 ≤ x2 ∧ x2 < 16) ∧ (R32 (x2 + 1)) ∧ VM E mX12_giveBack (k + 1) (aUp mem 609 x2 (mem 611 x2)) 35 [(0, aR 603), (1, aI p0), (2, aI (x2 + 1))] [] (retV Q)))) :
    VM E mX12_giveBack (k + 1) mem 35 [(0, aR 603), (1, aI p0), (2, aI x2)] [] (retV Q) := by
  refine v_iload_n (pc := 35) dX12_giveBack_35 2 rfl ?_
  refine v_bipush (pc := 36) dX12_giveBack_36 (by decide) ?_
  refine v_icmpge (pc := 38) (tgt := 59) dX12_giveBack_38 (by decide) (fun c1 => ?_) (fun c1 => ?_)
  · have h := h.1 c1
    refine v_aload_n (pc := 59) dX12_giveBack_59 0 rfl ?_
    refine v_iload_n (pc := 60) dX12_giveBack_60 1 rfl ?_
    refine v_putf (pc := 61) dX12_giveBack_61 flX12_168 ⟨_, _, rfl, Or.inl rfl⟩ rfl (by decide) (fun q => nomatch q) (Or.inl fun _ => rfl) at603 ?_
    exact m_retV (pc := 64) dX12_giveBack_64 rfl h
  · have h := h.2 c1
    refine v_aload_n (pc := 41) dX12_giveBack_41 0 rfl ?_
    refine m_getfin (pc := 42) (v := 609) hE dX12_giveBack_42 flX12_26 rfl at603 rfl ?_
    refine v_iload_n (pc := 45) dX12_giveBack_45 2 rfl ?_
    refine v_aload_n (pc := 46) dX12_giveBack_46 0 rfl ?_
    refine m_getfin (pc := 47) (v := 611) hE dX12_giveBack_47 flX12_32 rfl at603 rfl ?_
    refine v_iload_n (pc := 50) dX12_giveBack_50 2 rfl ?_
    obtain ⟨o1, h⟩ := h
    refine m_iald (pc := 51) (v := (mem 611 x2)) dX12_giveBack_51 at611 o1.1 o1.2 rfl ?_
    refine v_iast (pc := 52) dX12_giveBack_52 at609 o1.1 o1.2 ?_
    obtain ⟨o2, h⟩ := h
    refine m_iinc (pc := 53) (al2 := [(2, aI (x2 + 1)), (0, aR 603), (1, aI p0)]) dX12_giveBack_53 2 rfl (by decide) o2 rfl ?_
    refine v_goto (pc := 56) (tgt := 35) dX12_giveBack_56 (by decide) ?_
    exact VG_sub (al' := [(0, aR 603), (1, aI p0), (2, aI (x2 + 1))]) [1, 2, 0] rfl h

theorem dX12_stopped_0 : decode cX12_stopped 0 = .ok (.aload_n 0, 1) := by decide +kernel
theorem dX12_stopped_1 : decode cX12_stopped 1 = .ok (.iconst 0, 1) := by decide +kernel
theorem dX12_stopped_2 : decode cX12_stopped 2 = .ok (.putfield 162, 3) := by decide +kernel
theorem dX12_stopped_5 : decode cX12_stopped 5 = .ok (.aload_n 0, 1) := by decide +kernel
theorem dX12_stopped_6 : decode cX12_stopped 6 = .ok (.getfield 153, 3) := by decide +kernel
theorem dX12_stopped_9 : decode cX12_stopped 9 = .ok (.ireturn, 1) := by decide +kernel
set_option maxRecDepth 20000 in
theorem rX12_stopped_0 {E : EN} (hE : Ep E) {k : Nat} {mem : Mm} {Q : Int → Mm → Prop}
    (h : Q (mem 603 56) (aUp mem 603 0 0)) :
    VM E mX12_stopped k mem 0 [(0, aR 603)] [] (retI Q) := by
  refine v_aload_n (pc := 0) dX12_stopped_0 0 rfl ?_
  refine v_iconst (pc := 1) dX12_stopped_1 (by decide) ?_
  refine v_putf (pc := 2) dX12_stopped_2 flX12_162 ⟨_, _, rfl, Or.inl rfl⟩ rfl (by decide) (fun q => nomatch q) (Or.inl fun _ => rfl) at603 ?_
  refine v_aload_n (pc := 5) dX12_stopped_5 0 rfl ?_
  refine m_getf (pc := 6) (t := 0) (v := (mem 603 56)) dX12_stopped_6 flX12_153 rfl at603 (aUp_ri (by decide)) ?_
  exact m_retI (pc := 9) dX12_stopped_9 rfl h
theorem eX12_stopped {E : EN} {k : Nat} {mem : Mm} {Q : Int → Mm → Prop}  (h : VM E mX12_stopped k mem 0 [(0, aR 603)] [] (retI Q)) : CI E mX12_stopped k mem [aR 603] Q := CI_of rfl (Nat.le_of_ble_eq_true rfl) h (aNs_c (aNr_R _) (fun _ q => nomatch q))

theorem dX12_draw_0 : decode cX12_draw 0 = .ok (.aload_n 0, 1) := by decide +kernel
theorem dX12_draw_1 : decode cX12_draw 1 = .ok (.aload_n 0, 1) := by decide +kernel
theorem dX12_draw_2 : decode cX12_draw 2 = .ok (.getfield 540, 3) := by decide +kernel
theorem dX12_draw_5 : decode cX12_draw 5 = .ok (.ldc2_w 543, 3) := by decide +kernel
theorem dX12_draw_8 : decode cX12_draw 8 = .ok (.lmul, 1) := by decide +kernel
theorem dX12_draw_9 : decode cX12_draw 9 = .ok (.ldc2_w 545, 3) := by decide +kernel
theorem dX12_draw_12 : decode cX12_draw 12 = .ok (.ladd, 1) := by decide +kernel
theorem dX12_draw_13 : decode cX12_draw 13 = .ok (.ldc2_w 547, 3) := by decide +kernel
theorem dX12_draw_16 : decode cX12_draw 16 = .ok (.lrem, 1) := by decide +kernel
theorem dX12_draw_17 : decode cX12_draw 17 = .ok (.putfield 540, 3) := by decide +kernel
theorem dX12_draw_20 : decode cX12_draw 20 = .ok (.aload_n 0, 1) := by decide +kernel
theorem dX12_draw_21 : decode cX12_draw 21 = .ok (.getfield 540, 3) := by decide +kernel
theorem dX12_draw_24 : decode cX12_draw 24 = .ok (.iload_n 1, 1) := by decide +kernel
theorem dX12_draw_25 : decode cX12_draw 25 = .ok (.i2l, 1) := by decide +kernel
theorem dX12_draw_26 : decode cX12_draw 26 = .ok (.lrem, 1) := by decide +kernel
theorem dX12_draw_27 : decode cX12_draw 27 = .ok (.l2i, 1) := by decide +kernel
theorem dX12_draw_28 : decode cX12_draw 28 = .ok (.ireturn, 1) := by decide +kernel
set_option maxRecDepth 20000 in
theorem rX12_draw_0 {E : EN} (hE : Ep E) {k : Nat} {mem : Mm} {Q : Int → Mm → Prop} {p0 : Int}
    (h : (R64 ((mem 603 58) * 1103)) ∧ (R64 (((mem 603 58) * 1103) + 12345)) ∧ (¬ p0 = 0) ∧ (R32 (Int.tmod (Int.tmod (((mem 603 58) * 1103) + 12345) 1000003) p0)) ∧ Q (Int.tmod (Int.tmod (((mem 603 58) * 1103) + 12345) 1000003) p0) (aUp mem 603 58 (Int.tmod (((mem 603 58) * 1103) + 12345) 1000003))) :
    VM E mX12_draw k mem 0 [(0, aR 603), (1, aI p0)] [] (retI Q) := by
  refine v_aload_n (pc := 0) dX12_draw_0 0 rfl ?_
  refine v_aload_n (pc := 1) dX12_draw_1 0 rfl ?_
  refine m_getf (pc := 2) (t := 1) (v := (mem 603 58)) dX12_draw_2 flX12_540 rfl at603 rfl ?_
  refine v_ldc2 (pc := 5) (n := 1103) dX12_draw_5 cnX12_543 (by decide) ?_
  obtain ⟨o1, h⟩ := h
  refine m_lmul (pc := 8) dX12_draw_8 o1 ?_
  refine v_ldc2 (pc := 9) (n := 12345) dX12_draw_9 cnX12_545 (by decide) ?_
  obtain ⟨o2, h⟩ := h
  refine m_ladd (pc := 12) dX12_draw_12 o2 ?_
  refine v_ldc2 (pc := 13) (n := 1000003) dX12_draw_13 cnX12_547 (by decide) ?_
  refine v_lrem (pc := 16) dX12_draw_16 (by decide) ?_
  refine v_putf (pc := 17) dX12_draw_17 flX12_540 ⟨_, _, rfl, Or.inl rfl⟩ rfl (by decide) (fun q => nomatch q) (Or.inl fun _ => rfl) at603 ?_
  refine v_aload_n (pc := 20) dX12_draw_20 0 rfl ?_
  refine m_getf (pc := 21) (t := 1) (v := (Int.tmod (((mem 603 58) * 1103) + 12345) 1000003)) dX12_draw_21 flX12_540 rfl at603 (aUp_re) ?_
  refine v_iload_n (pc := 24) dX12_draw_24 1 rfl ?_
  refine v_i2l (pc := 25) dX12_draw_25 ?_
  obtain ⟨o3, h⟩ := h
  refine v_lrem (pc := 26) dX12_draw_26 o3 ?_
  obtain ⟨o4, h⟩ := h
  refine m_l2i (pc := 27) dX12_draw_27 o4 ?_
  exact m_retI (pc := 28) dX12_draw_28 rfl h
theorem eX12_draw {E : EN} {k : Nat} {mem : Mm} {Q : Int → Mm → Prop} {p0 : Int} (hr_p0 : R32 p0) (h : VM E mX12_draw k mem 0 [(0, aR 603), (1, aI p0)] [] (retI Q)) : CI E mX12_draw k mem [aR 603, aI p0] Q := CI_of rfl (Nat.le_of_ble_eq_true rfl) h (aNs_c (aNr_R _) (aNs_c (aNr_I hr_p0) (fun _ q => nomatch q)))

theorem dX12_centuries_0 : decode cX12_centuries 0 = .ok (.aload_n 0, 1) := by decide +kernel
theorem dX12_centuries_1 : decode cX12_centuries 1 = .ok (.iconst 0, 1) := by decide +kernel
theorem dX12_centuries_2 : decode cX12_centuries 2 = .ok (.putfield 162, 3) := by decide +kernel
theorem dX12_centuries_5 : decode cX12_centuries 5 = .ok (.iload_n 1, 1) := by decide +kernel
theorem dX12_centuries_6 : decode cX12_centuries 6 = .ok (.i2l, 1) := by decide +kernel
theorem dX12_centuries_7 : decode cX12_centuries 7 = .ok (.lconst 0, 1) := by decide +kernel
theorem dX12_centuries_8 : decode cX12_centuries 8 = .ok (.ldc2_w 270, 3) := by decide +kernel
theorem dX12_centuries_11 : decode cX12_centuries 11 = .ok (.invokestatic 182, 3) := by decide +kernel
theorem dX12_centuries_14 : decode cX12_centuries 14 = .ok (.ifCond .eq 15, 3) := by decide +kernel
theorem dX12_centuries_17 : decode cX12_centuries 17 = .ok (.iload_n 2, 1) := by decide +kernel
theorem dX12_centuries_18 : decode cX12_centuries 18 = .ok (.i2l, 1) := by decide +kernel
theorem dX12_centuries_19 : decode cX12_centuries 19 = .ok (.lconst 1, 1) := by decide +kernel
theorem dX12_centuries_20 : decode cX12_centuries 20 = .ok (.ldc2_w 479, 3) := by decide +kernel
theorem dX12_centuries_23 : decode cX12_centuries 23 = .ok (.invokestatic 182, 3) := by decide +kernel
theorem dX12_centuries_26 : decode cX12_centuries 26 = .ok (.ifCond .ne 9, 3) := by decide +kernel
theorem dX12_centuries_29 : decode cX12_centuries 29 = .ok (.aload_n 0, 1) := by decide +kernel
theorem dX12_centuries_30 : decode cX12_centuries 30 = .ok (.iconst (-1), 1) := by decide +kernel
theorem dX12_centuries_31 : decode cX12_centuries 31 = .ok (.invokevirtual 175, 3) := by decide +kernel
theorem dX12_centuries_34 : decode cX12_centuries 34 = .ok (.ireturn, 1) := by decide +kernel
theorem dX12_centuries_35 : decode cX12_centuries 35 = .ok (.aload_n 0, 1) := by decide +kernel
theorem dX12_centuries_36 : decode cX12_centuries 36 = .ok (.bipush 16, 2) := by decide +kernel
theorem dX12_centuries_38 : decode cX12_centuries 38 = .ok (.invokevirtual 171, 3) := by decide +kernel
theorem dX12_centuries_41 : decode cX12_centuries 41 = .ok (.aload_n 0, 1) := by decide +kernel
theorem dX12_centuries_42 : decode cX12_centuries 42 = .ok (.iload_n 1, 1) := by decide +kernel
theorem dX12_centuries_43 : decode cX12_centuries 43 = .ok (.i2l, 1) := by decide +kernel
theorem dX12_centuries_44 : decode cX12_centuries 44 = .ok (.putfield 540, 3) := by decide +kernel
theorem dX12_centuries_47 : decode cX12_centuries 47 = .ok (.iconst 0, 1) := by decide +kernel
theorem dX12_centuries_48 : decode cX12_centuries 48 = .ok (.istore_n 3, 1) := by decide +kernel
theorem dX12_centuries_49 : decode cX12_centuries 49 = .ok (.iload_n 3, 1) := by decide +kernel
theorem dX12_centuries_50 : decode cX12_centuries 50 = .ok (.iload_n 2, 1) := by decide +kernel
theorem dX12_centuries_51 : decode cX12_centuries 51 = .ok (.if_icmp .ge 94, 3) := by decide +kernel
theorem dX12_centuries_54 : decode cX12_centuries 54 = .ok (.aload_n 0, 1) := by decide +kernel
theorem dX12_centuries_55 : decode cX12_centuries 55 = .ok (.iconst 0, 1) := by decide +kernel
theorem dX12_centuries_56 : decode cX12_centuries 56 = .ok (.invokevirtual 412, 3) := by decide +kernel
theorem dX12_centuries_59 : decode cX12_centuries 59 = .ok (.sipush 999, 3) := by decide +kernel
theorem dX12_centuries_62 : decode cX12_centuries 62 = .ok (.if_icmp .ge 83, 3) := by decide +kernel
theorem dX12_centuries_65 : decode cX12_centuries 65 = .ok (.aload_n 0, 1) := by decide +kernel
theorem dX12_centuries_66 : decode cX12_centuries 66 = .ok (.bipush 10, 2) := by decide +kernel
theorem dX12_centuries_68 : decode cX12_centuries 68 = .ok (.invokevirtual 549, 3) := by decide +kernel
theorem dX12_centuries_71 : decode cX12_centuries 71 = .ok (.aload_n 0, 1) := by decide +kernel
theorem dX12_centuries_72 : decode cX12_centuries 72 = .ok (.iconst 2, 1) := by decide +kernel
theorem dX12_centuries_73 : decode cX12_centuries 73 = .ok (.invokevirtual 412, 3) := by decide +kernel
theorem dX12_centuries_76 : decode cX12_centuries 76 = .ok (.if_icmp .ge 10, 3) := by decide +kernel
theorem dX12_centuries_79 : decode cX12_centuries 79 = .ok (.aload_n 0, 1) := by decide +kernel
theorem dX12_centuries_80 : decode cX12_centuries 80 = .ok (.invokevirtual 467, 3) := by decide +kernel
theorem dX12_centuries_83 : decode cX12_centuries 83 = .ok (.goto 8, 3) := by decide +kernel
theorem dX12_centuries_86 : decode cX12_centuries 86 = .ok (.aload_n 0, 1) := by decide +kernel
theorem dX12_centuries_87 : decode cX12_centuries 87 = .ok (.invokevirtual 470, 3) := by decide +kernel
theorem dX12_centuries_90 : decode cX12_centuries 90 = .ok (.pop, 1) := by decide +kernel
theorem dX12_centuries_91 : decode cX12_centuries 91 = .ok (.aload_n 0, 1) := by decide +kernel
theorem dX12_centuries_92 : decode cX12_centuries 92 = .ok (.bipush 32, 2) := by decide +kernel
theorem dX12_centuries_94 : decode cX12_centuries 94 = .ok (.invokevirtual 549, 3) := by decide +kernel
theorem dX12_centuries_97 : decode cX12_centuries 97 = .ok (.istore 4, 2) := by decide +kernel
theorem dX12_centuries_99 : decode cX12_centuries 99 = .ok (.aload_n 0, 1) := by decide +kernel
theorem dX12_centuries_100 : decode cX12_centuries 100 = .ok (.bipush 6, 2) := by decide +kernel
theorem dX12_centuries_102 : decode cX12_centuries 102 = .ok (.invokevirtual 549, 3) := by decide +kernel
theorem dX12_centuries_105 : decode cX12_centuries 105 = .ok (.istore 5, 2) := by decide +kernel
theorem dX12_centuries_107 : decode cX12_centuries 107 = .ok (.aload_n 0, 1) := by decide +kernel
theorem dX12_centuries_108 : decode cX12_centuries 108 = .ok (.getfield 13, 3) := by decide +kernel
theorem dX12_centuries_111 : decode cX12_centuries 111 = .ok (.bipush 7, 2) := by decide +kernel
theorem dX12_centuries_113 : decode cX12_centuries 113 = .ok (.iaload, 1) := by decide +kernel
theorem dX12_centuries_114 : decode cX12_centuries 114 = .ok (.bipush 10, 2) := by decide +kernel
theorem dX12_centuries_116 : decode cX12_centuries 116 = .ok (.if_icmp .ge 23, 3) := by decide +kernel
theorem dX12_centuries_119 : decode cX12_centuries 119 = .ok (.aload_n 0, 1) := by decide +kernel
theorem dX12_centuries_120 : decode cX12_centuries 120 = .ok (.iload 5, 2) := by decide +kernel
theorem dX12_centuries_122 : decode cX12_centuries 122 = .ok (.iload 4, 2) := by decide +kernel
theorem dX12_centuries_124 : decode cX12_centuries 124 = .ok (.invokevirtual 441, 3) := by decide +kernel
theorem dX12_centuries_127 : decode cX12_centuries 127 = .ok (.ifCond .eq 12, 3) := by decide +kernel
theorem dX12_centuries_130 : decode cX12_centuries 130 = .ok (.aload_n 0, 1) := by decide +kernel
theorem dX12_centuries_131 : decode cX12_centuries 131 = .ok (.iload 5, 2) := by decide +kernel
theorem dX12_centuries_133 : decode cX12_centuries 133 = .ok (.iload 4, 2) := by decide +kernel
theorem dX12_centuries_135 : decode cX12_centuries 135 = .ok (.iconst 0, 1) := by decide +kernel
theorem dX12_centuries_136 : decode cX12_centuries 136 = .ok (.invokevirtual 447, 3) := by decide +kernel
theorem dX12_centuries_139 : decode cX12_centuries 139 = .ok (.iinc 3 1, 3) := by decide +kernel
theorem dX12_centuries_142 : decode cX12_centuries 142 = .ok (.goto (-93), 3) := by decide +kernel
theorem dX12_centuries_145 : decode cX12_centuries 145 = .ok (.aload_n 0, 1) := by decide +kernel
theorem dX12_centuries_146 : decode cX12_centuries 146 = .ok (.aload_n 0, 1) := by decide +kernel
theorem dX12_centuries_147 : decode cX12_centuries 147 = .ok (.getfield 13, 3) := by decide +kernel
theorem dX12_centuries_150 : decode cX12_centuries 150 = .ok (.bipush 7, 2) := by decide +kernel
theorem dX12_centuries_152 : decode cX12_centuries 152 = .ok (.iaload, 1) := by decide +kernel
theorem dX12_centuries_153 : decode cX12_centuries 153 = .ok (.putfield 159, 3) := by decide +kernel
theorem dX12_centuries_156 : decode cX12_centuries 156 = .ok (.iconst 0, 1) := by decide +kernel
theorem dX12_centuries_157 : decode cX12_centuries 157 = .ok (.istore_n 3, 1) := by decide +kernel
theorem dX12_centuries_158 : decode cX12_centuries 158 = .ok (.iload_n 3, 1) := by decide +kernel
theorem dX12_centuries_159 : decode cX12_centuries 159 = .ok (.aload_n 0, 1) := by decide +kernel
theorem dX12_centuries_160 : decode cX12_centuries 160 = .ok (.getfield 159, 3) := by decide +kernel
theorem dX12_centuries_163 : decode cX12_centuries 163 = .ok (.if_icmp .ge 64, 3) := by decide +kernel
theorem dX12_centuries_166 : decode cX12_centuries 166 = .ok (.aload_n 0, 1) := by decide +kernel
theorem dX12_centuries_167 : decode cX12_centuries 167 = .ok (.getfield 156, 3) := by decide +kernel
theorem dX12_centuries_170 : decode cX12_centuries 170 = .ok (.iconst 3, 1) := by decide +kernel
theorem dX12_centuries_171 : decode cX12_centuries 171 = .ok (.iload_n 3, 1) := by decide +kernel
theorem dX12_centuries_172 : decode cX12_centuries 172 = .ok (.imul, 1) := by decide +kernel
theorem dX12_centuries_173 : decode cX12_centuries 173 = .ok (.aload_n 0, 1) := by decide +kernel
theorem dX12_centuries_174 : decode cX12_centuries 174 = .ok (.getfield 13, 3) := by decide +kernel
theorem dX12_centuries_177 : decode cX12_centuries 177 = .ok (.bipush 8, 2) := by decide +kernel
theorem dX12_centuries_179 : decode cX12_centuries 179 = .ok (.iload_n 3, 1) := by decide +kernel
theorem dX12_centuries_180 : decode cX12_centuries 180 = .ok (.iadd, 1) := by decide +kernel
theorem dX12_centuries_181 : decode cX12_centuries 181 = .ok (.iaload, 1) := by decide +kernel
theorem dX12_centuries_182 : decode cX12_centuries 182 = .ok (.iastore, 1) := by decide +kernel
theorem dX12_centuries_183 : decode cX12_centuries 183 = .ok (.aload_n 0, 1) := by decide +kernel
theorem dX12_centuries_184 : decode cX12_centuries 184 = .ok (.getfield 156, 3) := by decide +kernel
theorem dX12_centuries_187 : decode cX12_centuries 187 = .ok (.iconst 3, 1) := by decide +kernel
theorem dX12_centuries_188 : decode cX12_centuries 188 = .ok (.iload_n 3, 1) := by decide +kernel
theorem dX12_centuries_189 : decode cX12_centuries 189 = .ok (.imul, 1) := by decide +kernel
theorem dX12_centuries_190 : decode cX12_centuries 190 = .ok (.iconst 1, 1) := by decide +kernel
theorem dX12_centuries_191 : decode cX12_centuries 191 = .ok (.iadd, 1) := by decide +kernel
theorem dX12_centuries_192 : decode cX12_centuries 192 = .ok (.aload_n 0, 1) := by decide +kernel
theorem dX12_centuries_193 : decode cX12_centuries 193 = .ok (.getfield 13, 3) := by decide +kernel
theorem dX12_centuries_196 : decode cX12_centuries 196 = .ok (.bipush 18, 2) := by decide +kernel
theorem dX12_centuries_198 : decode cX12_centuries 198 = .ok (.iload_n 3, 1) := by decide +kernel
theorem dX12_centuries_199 : decode cX12_centuries 199 = .ok (.iadd, 1) := by decide +kernel
theorem dX12_centuries_200 : decode cX12_centuries 200 = .ok (.iaload, 1) := by decide +kernel
theorem dX12_centuries_201 : decode cX12_centuries 201 = .ok (.iastore, 1) := by decide +kernel
theorem dX12_centuries_202 : decode cX12_centuries 202 = .ok (.aload_n 0, 1) := by decide +kernel
theorem dX12_centuries_203 : decode cX12_centuries 203 = .ok (.getfield 156, 3) := by decide +kernel
theorem dX12_centuries_206 : decode cX12_centuries 206 = .ok (.iconst 3, 1) := by decide +kernel
theorem dX12_centuries_207 : decode cX12_centuries 207 = .ok (.iload_n 3, 1) := by decide +kernel
theorem dX12_centuries_208 : decode cX12_centuries 208 = .ok (.imul, 1) := by decide +kernel
theorem dX12_centuries_209 : decode cX12_centuries 209 = .ok (.iconst 2, 1) := by decide +kernel
theorem dX12_centuries_210 : decode cX12_centuries 210 = .ok (.iadd, 1) := by decide +kernel
theorem dX12_centuries_211 : decode cX12_centuries 211 = .ok (.aload_n 0, 1) := by decide +kernel
theorem dX12_centuries_212 : decode cX12_centuries 212 = .ok (.getfield 13, 3) := by decide +kernel
theorem dX12_centuries_215 : decode cX12_centuries 215 = .ok (.bipush 38, 2) := by decide +kernel
theorem dX12_centuries_217 : decode cX12_centuries 217 = .ok (.iload_n 3, 1) := by decide +kernel
theorem dX12_centuries_218 : decode cX12_centuries 218 = .ok (.iadd, 1) := by decide +kernel
theorem dX12_centuries_219 : decode cX12_centuries 219 = .ok (.iaload, 1) := by decide +kernel
theorem dX12_centuries_220 : decode cX12_centuries 220 = .ok (.iastore, 1) := by decide +kernel
theorem dX12_centuries_221 : decode cX12_centuries 221 = .ok (.iinc 3 1, 3) := by decide +kernel
theorem dX12_centuries_224 : decode cX12_centuries 224 = .ok (.goto (-66), 3) := by decide +kernel
theorem dX12_centuries_227 : decode cX12_centuries 227 = .ok (.aload_n 0, 1) := by decide +kernel
theorem dX12_centuries_228 : decode cX12_centuries 228 = .ok (.bipush 16, 2) := by decide +kernel
theorem dX12_centuries_230 : decode cX12_centuries 230 = .ok (.invokevirtual 179, 3) := by decide +kernel
theorem dX12_centuries_233 : decode cX12_centuries 233 = .ok (.aload_n 0, 1) := by decide +kernel
theorem dX12_centuries_234 : decode cX12_centuries 234 = .ok (.aload_n 0, 1) := by decide +kernel
theorem dX12_centuries_235 : decode cX12_centuries 235 = .ok (.getfield 159, 3) := by decide +kernel
theorem dX12_centuries_238 : decode cX12_centuries 238 = .ok (.invokevirtual 175, 3) := by decide +kernel
theorem dX12_centuries_241 : decode cX12_centuries 241 = .ok (.ireturn, 1) := by decide +kernel
set_option maxRecDepth 20000 in
theorem rX12_centuries_0 {E : EN} (hE : Ep E) {k : Nat} {mem : Mm} {Q : Int → Mm → Prop} {p0 p1 : Int}
    (h : (R64 p0 → CI E mX12_in k (aUp mem 603 0 0) [aL p0, aL 0, aL 1000000] (fun r2 m1 => ((r2 = 0 → VM E mX12_centuries (k + 1) m1 29 [(0, aR 603)] [] (retI Q)) ∧ (¬ r2 = 0 → (R64 p1 → CI E mX12_in k m1 [aL p1, aL 1, aL 100] (fun r4 m3 => ((¬ r4 = 0 → (CV E mX12_keepAll k m3 [aR 603, aI 16] (fun m5 => VM E mX12_centuries (k + 1) (aUp m5 603 58 p0) 49 [(0, aR 603), (2, aI p1), (3, aI 0)] [] (retI Q)))) ∧ (r4 = 0 → VM E mX12_centuries (k + 1) m3 29 [(0, aR 603)] [] (retI Q)))))))))) :
    VM E mX12_centuries (k + 1) mem 0 [(0, aR 603), (1, aI p0), (2, aI p1)] [] (retI Q) := by
  refine v_aload_n (pc := 0) dX12_centuries_0 0 rfl ?_
  refine v_iconst (pc := 1) dX12_centuries_1 (by decide) ?_
  refine v_putf (pc := 2) dX12_centuries_2 flX12_162 ⟨_, _, rfl, Or.inl rfl⟩ rfl (by decide) (fun q => nomatch q) (Or.inl fun _ => rfl) at603 ?_
  refine v_iload_n (pc := 5) dX12_centuries_5 1 rfl ?_
  refine v_i2l (pc := 6) dX12_centuries_6 ?_
  refine v_lconst0 (pc := 7) dX12_centuries_7 ?_
  refine v_ldc2 (pc := 8) (n := 1000000) dX12_centuries_8 cnX12_270 (by decide) ?_
  refine m_invSI (pc := 11) (mi' := mX12_in) (rest := []) [aL p0, aL 0, aL 1000000] dX12_centuries_11 msX12_in stX12_in lkX12_182 rfl (Nat.le_of_ble_eq_true rfl) (fun hn => CI_mono (h (aaL hn 0 rfl)) (fun r2 m1 h => ?_))
  refine v_ifeq (pc := 14) (tgt := 29) dX12_centuries_14 (by decide) (fun c1 => ?_) (fun c1 => ?_)
  · have h := h.1 c1
    exact VG_sub (al' := [(0, aR 603)]) [0] rfl h
  · have h := h.2 c1
    refine v_iload_n (pc := 17) dX12_centuries_17 2 rfl ?_
    refine v_i2l (pc := 18) dX12_centuries_18 ?_
    refine v_lconst1 (pc := 19) dX12_centuries_19 ?_
    refine v_ldc2 (pc := 20) (n := 100) dX12_centuries_20 cnX12_479 (by decide) ?_
    refine m_invSI (pc := 23) (mi' := mX12_in) (rest := []) [aL p1, aL 1, aL 100] dX12_centuries_23 msX12_in stX12_in lkX12_182 rfl (Nat.le_of_ble_eq_true rfl) (fun hn => CI_mono (h (aaL hn 0 rfl)) (fun r4 m3 h => ?_))
    refine v_ifne (pc := 26) (tgt := 35) dX12_centuries_26 (by decide) (fun c1 => ?_) (fun c1 => ?_)
    · have h := h.1 c1
      refine v_aload_n (pc := 35) dX12_centuries_35 0 rfl ?_
      refine v_bipush (pc := 36) dX12_centuries_36 (by decide) ?_
      refine m_invV (pc := 38) (mi' := mX12_keepAll) (rest := []) [aI 16] dX12_centuries_38 at603 (by decide) rfl msX12_keepAll mvX12_keepAll lkX12_171 rfl (Nat.le_of_ble_eq_true rfl) (fun hn => CV_mono (h) (fun m5 h => ?_))
      refine v_aload_n (pc := 41) dX12_centuries_41 0 rfl ?_
      refine v_iload_n (pc := 42) dX12_centuries_42 1 rfl ?_
      refine v_i2l (pc := 43) dX12_centuries_43 ?_
      refine v_putf (pc := 44) dX12_centuries_44 flX12_540 ⟨_, _, rfl, Or.inl rfl⟩ rfl (by decide) (fun q => nomatch q) (Or.inl fun _ => rfl) at603 ?_
      refine v_iconst (pc := 47) dX12_centuries_47 (by decide) ?_
      refine v_istore_n (pc := 48) (al2 := [(3, aI 0), (0, aR 603), (1, aI p0), (2, aI p1)]) dX12_centuries_48 (by decide) rfl ?_
      exact VG_sub (al' := [(0, aR 603), (2, aI p1), (3, aI 0)]) [1, 3, 0] rfl h
    · have h := h.2 c1
      exact VG_sub (al' := [(0, aR 603)]) [0] rfl h
theorem eX12_centuries {E : EN} {k : Nat} {mem : Mm} {Q : Int → Mm → Prop} {p0 p1 : Int} (hr_p0 : R32 p0) (hr_p1 : R32 p1) (h : VM E mX12_centuries (k + 1) mem 0 [(0, aR 603), (1, aI p0), (2, aI p1)] [] (retI Q)) : CI E mX12_centuries (k + 1) mem [aR 603, aI p0, aI p1] Q := CI_of rfl (Nat.le_of_ble_eq_true rfl) h (aNs_c (aNr_R _) (aNs_c (aNr_I hr_p0) (aNs_c (aNr_I hr_p1) (fun _ q => nomatch q))))
set_option maxRecDepth 20000 in
theorem rX12_centuries_29 {E : EN} (hE : Ep E) {k : Nat} {mem : Mm} {Q : Int → Mm → Prop} {p0 p1 : Int}
    (h : (CI E mX12_tell k mem [aR 603, aI (-1)] (fun r2 m1 => Q r2 m1))) :
    VM E mX12_centuries (k + 1) mem 29 [(0, aR 603)] [] (retI Q) := by
  refine v_aload_n (pc := 29) dX12_centuries_29 0 rfl ?_
  refine v_iconst (pc := 30) dX12_centuries_30 (by decide) ?_
  refine m_invI (pc := 31) (mi' := mX12_tell) (rest := []) [aI (-1)] dX12_centuries_31 at603 (by decide) rfl msX12_tell mvX12_tell lkX12_175 rfl (Nat.le_of_ble_eq_true rfl) (fun hn => CI_mono (h) (fun r2 m1 h => ?_))
  exact m_retI (pc := 34) dX12_centuries_34 rfl h
set_option maxRecDepth 20000 in
theorem rX12_centuries_49 {E : EN} (hE : Ep E) {k : Nat} {mem : Mm} {Q : Int → Mm → Prop} {p0 p1 x3 : Int}
    (h : ((p1 ≤ x3 → VM E mX12_centuries (k + 1) mem 145 [(0, aR 603)] [] (retI Q)) ∧ (x3 < p1 → (CI E mX12_term k mem [aR 603, aI 0] (fun r2 m1 => ((999 ≤ r2 → VM E mX12_centuries (k + 1) m1 145 [(0, aR 603)] [] (retI Q)) ∧ (r2 < 999 → (CI E mX12_draw k m1 [aR 603, aI 10] (fun r4 m3 => (CI E mX12_term k m3 [aR 603, aI 2] (fun r6 m5 => ((r6 ≤ r4 → (CI E mX12_passIt k m5 [aR 603] (fun r8 m7 => VM E mX12_centuries (k + 1) m7 91 [(0, aR 603), (2, aI p1), (3, aI x3)] [] (retI Q)))) ∧ (r4 < r6 → (CV E mX12_age k m5 [aR 603] (fun m9 => VM E mX12_centuries (k + 1) m9 91 [(0, aR 603), (2, aI p1), (3, aI x3)] [] (retI Q)))))))))))))))) :
    VM E mX12_centuries (k + 1) mem 49 [(0, aR 603), (2, aI p1), (3, aI x3)] [] (retI Q) := by
  refine v_iload_n (pc := 49) dX12_centuries_49 2 rfl ?_
  refine v_iload_n (pc := 50) dX12_centuries_50 1 rfl ?_
  refine v_icmpge (pc := 51) (tgt := 145) dX12_centuries_51 (by decide) (fun c1 => ?_) (fun c1 => ?_)
  · have h := h.1 c1
    exact VG_sub (al' := [(0, aR 603)]) [0] rfl h
  · have h := h.2 c1
    refine v_aload_n (pc := 54) dX12_centuries_54 0 rfl ?_
    refine v_iconst (pc := 55) dX12_centuries_55 (by decide) ?_
    refine m_invI (pc := 56) (mi' := mX12_term) (rest := []) [aI 0] dX12_centuries_56 at603 (by decide) rfl msX12_term mvX12_term lkX12_412 rfl (Nat.le_of_ble_eq_true rfl) (fun hn => CI_mono (h) (fun r2 m1 h => ?_))
    refine v_sipush (pc := 59) dX12_centuries_59 (by decide) ?_
    refine v_icmpge (pc := 62) (tgt := 145) dX12_centuries_62 (by decide) (fun c1 => ?_) (fun c1 => ?_)
    · have h := h.1 c1
      exact VG_sub (al' := [(0, aR 603)]) [0] rfl h
    · have h := h.2 c1
      refine v_aload_n (pc := 65) dX12_centuries_65 0 rfl ?_
      refine v_bipush (pc := 66) dX12_centuries_66 (by decide) ?_
      refine m_invI (pc := 68) (mi' := mX12_draw) (rest := []) [aI 10] dX12_centuries_68 at603 (by decide) rfl msX12_draw mvX12_draw lkX12_549 rfl (Nat.le_of_ble_eq_true rfl) (fun hn => CI_mono (h) (fun r4 m3 h => ?_))
      refine v_aload_n (pc := 71) dX12_centuries_71 0 rfl ?_
      refine v_iconst (pc := 72) dX12_centuries_72 (by decide) ?_
      refine m_invI (pc := 73) (mi' := mX12_term) (rest := [aI r4]) [aI 2] dX12_centuries_73 at603 (by decide) rfl msX12_term mvX12_term lkX12_412 rfl (Nat.le_of_ble_eq_true rfl) (fun hn => CI_mono (h) (fun r6 m5 h => ?_))
      refine v_icmpge (pc := 76) (tgt := 86) dX12_centuries_76 (by decide) (fun c1 => ?_) (fun c1 => ?_)
      · have h := h.1 c1
        refine v_aload_n (pc := 86) dX12_centuries_86 0 rfl ?_
        refine m_invI (pc := 87) (mi' := mX12_passIt) (rest := []) [] dX12_centuries_87 at603 (by decide) rfl msX12_passIt mvX12_passIt lkX12_470 rfl (Nat.le_of_ble_eq_true rfl) (fun hn => CI_mono (h) (fun r8 m7 h => ?_))
        refine v_pop (pc := 90) dX12_centuries_90 rfl ?_
        exact VG_sub (al' := [(0, aR 603), (2, aI p1), (3, aI x3)]) [0, 1, 2] rfl h
      · have h := h.2 c1
        refine v_aload_n (pc := 79) dX12_centuries_79 0 rfl ?_
        refine m_invV (pc := 80) (mi' := mX12_age) (rest := []) [] dX12_centuries_80 at603 (by decide) rfl msX12_age mvX12_age lkX12_467 rfl (Nat.le_of_ble_eq_true rfl) (fun hn => CV_mono (h) (fun m9 h => ?_))
        refine v_goto (pc := 83) (tgt := 91) dX12_centuries_83 (by decide) ?_
        exact VG_sub (al' := [(0, aR 603), (2, aI p1), (3, aI x3)]) [0, 1, 2] rfl h
set_option maxRecDepth 20000 in
theorem rX12_centuries_145 {E : EN} (hE : Ep E) {k : Nat} {mem : Mm} {Q : Int → Mm → Prop} {p0 p1 : Int}
    (h : VM E mX12_centuries (k + 1) (aUp mem 603 60 (mem 605 7)) 158 [(0, aR 603), (3, aI 0)] [] (retI Q)) :
    VM E mX12_centuries (k + 1) mem 145 [(0, aR 603)] [] (retI Q) := by
  refine v_aload_n (pc := 145) dX12_centuries_145 0 rfl ?_
  refine v_aload_n (pc := 146) dX12_centuries_146 0 rfl ?_
  refine m_getfin (pc := 147) (v := 605) hE dX12_centuries_147 flX12_13 rfl at603 rfl ?_
  refine v_bipush (pc := 150) dX12_centuries_150 (by decide) ?_
  refine m_iald (pc := 152) (v := (mem 605 7)) dX12_centuries_152 at605 (by omega) (by omega) rfl ?_
  refine v_putf (pc := 153) dX12_centuries_153 flX12_159 ⟨_, _, rfl, Or.inl rfl⟩ rfl (by decide) (fun q => nomatch q) (Or.inl fun _ => rfl) at603 ?_
  refine v_iconst (pc := 156) dX12_centuries_156 (by decide) ?_
  refine v_istore_n (pc := 157) (al2 := [(3, aI 0), (0, aR 603)]) dX12_centuries_157 (by decide) rfl ?_
  exact VG_sub (al' := [(0, aR 603), (3, aI 0)]) [1, 0] rfl h
set_option maxRecDepth 20000 in
theorem rX12_centuries_91 {E : EN} (hE : Ep E) {k : Nat} {mem : Mm} {Q : Int → Mm → Prop} {p0 p1 x3 : Int}
    (h : (CI E mX12_draw k mem [aR 603, aI 32] (fun r2 m1 => (CI E mX12_draw k m1 [aR 603, aI 6] (fun r4 m3 => ((10 ≤ (m3 605 7) → VM E mX12_centuries (k + 1) m3 139 [(0, aR 603), (2, aI p1), (3, aI x3)] [] (retI Q)) ∧ ((m3 605 7) < 10 → (R32 r4 → R32 r2 → CI E mX12_canLie k m3 [aR 603, aI r4, aI r2] (fun r6 m5 => ((r6 = 0 → VM E mX12_centuries (k + 1) m5 139 [(0, aR 603), (2, aI p1), (3, aI x3)] [] (retI Q)) ∧ (¬ r6 = 0 → (R32 r4 → R32 r2 → CV E mX12_lay k m5 [aR 603, aI r4, aI r2, aI 0] (fun m7 => VM E mX12_centuries (k + 1) m7 139 [(0, aR 603), (2, aI p1), (3, aI x3)] [] (retI Q)))))))))))))) :
    VM E mX12_centuries (k + 1) mem 91 [(0, aR 603), (2, aI p1), (3, aI x3)] [] (retI Q) := by
  refine v_aload_n (pc := 91) dX12_centuries_91 0 rfl ?_
  refine v_bipush (pc := 92) dX12_centuries_92 (by decide) ?_
  refine m_invI (pc := 94) (mi' := mX12_draw) (rest := []) [aI 32] dX12_centuries_94 at603 (by decide) rfl msX12_draw mvX12_draw lkX12_549 rfl (Nat.le_of_ble_eq_true rfl) (fun hn => CI_mono (h) (fun r2 m1 h => ?_))
  refine v_istore (pc := 97) (al2 := [(4, aI r2), (0, aR 603), (2, aI p1), (3, aI x3)]) dX12_centuries_97 (by decide) rfl ?_
  refine v_aload_n (pc := 99) dX12_centuries_99 1 rfl ?_
  refine v_bipush (pc := 100) dX12_centuries_100 (by decide) ?_
  refine m_invI (pc := 102) (mi' := mX12_draw) (rest := []) [aI 6] dX12_centuries_102 at603 (by decide) rfl msX12_draw mvX12_draw lkX12_549 rfl (Nat.le_of_ble_eq_true rfl) (fun hn => CI_mono (h) (fun r4 m3 h => ?_))
  refine v_istore (pc := 105) (al2 := [(5, aI r4), (4, aI r2), (0, aR 603), (2, aI p1), (3, aI x3)]) dX12_centuries_105 (by decide) rfl ?_
  refine v_aload_n (pc := 107) dX12_centuries_107 2 rfl ?_
  refine m_getfin (pc := 108) (v := 605) hE dX12_centuries_108 flX12_13 rfl at603 rfl ?_
  refine v_bipush (pc := 111) dX12_centuries_111 (by decide) ?_
  refine m_iald (pc := 113) (v := (m3 605 7)) dX12_centuries_113 at605 (by omega) (by omega) rfl ?_
  refine v_bipush (pc := 114) dX12_centuries_114 (by decide) ?_
  refine v_icmpge (pc := 116) (tgt := 139) dX12_centuries_116 (by decide) (fun c1 => ?_) (fun c1 => ?_)
  · have h := h.1 c1
    exact VG_sub (al' := [(0, aR 603), (2, aI p1), (3, aI x3)]) [2, 3, 4] rfl h
  · have h := h.2 c1
    refine v_aload_n (pc := 119) dX12_centuries_119 2 rfl ?_
    refine v_iload (pc := 120) dX12_centuries_120 0 rfl ?_
    refine v_iload (pc := 122) dX12_centuries_122 1 rfl ?_
    refine m_invI (pc := 124) (mi' := mX12_canLie) (rest := []) [aI r4, aI r2] dX12_centuries_124 at603 (by decide) rfl msX12_canLie mvX12_canLie lkX12_441 rfl (Nat.le_of_ble_eq_true rfl) (fun hn => CI_mono (h (aaI hn 1 rfl) (aaI hn 2 rfl)) (fun r6 m5 h => ?_))
    refine v_ifeq (pc := 127) (tgt := 139) dX12_centuries_127 (by decide) (fun c1 => ?_) (fun c1 => ?_)
    · have h := h.1 c1
      exact VG_sub (al' := [(0, aR 603), (2, aI p1), (3, aI x3)]) [2, 3, 4] rfl h
    · have h := h.2 c1
      refine v_aload_n (pc := 130) dX12_centuries_130 2 rfl ?_
      refine v_iload (pc := 131) dX12_centuries_131 0 rfl ?_
      refine v_iload (pc := 133) dX12_centuries_133 1 rfl ?_
      refine v_iconst (pc := 135) dX12_centuries_135 (by decide) ?_
      refine m_invV (pc := 136) (mi' := mX12_lay) (rest := []) [aI r4, aI r2, aI 0] dX12_centuries_136 at603 (by decide) rfl msX12_lay mvX12_lay lkX12_447 rfl (Nat.le_of_ble_eq_true rfl) (fun hn => CV_mono (h (aaI hn 1 rfl) (aaI hn 2 rfl)) (fun m7 h => ?_))
      exact VG_sub (al' := [(0, aR 603), (2, aI p1), (3, aI x3)]) [2, 3, 4] rfl h
set_option maxRecDepth 20000 in
theorem rX12_centuries_158 {E : EN} (hE : Ep E) {k : Nat} {mem : Mm} {Q : Int → Mm → Prop} {p0 p1 x3 : Int}
    (h : (((mem 603 60) ≤ x3 → (CV E mX12_putBack k mem [aR 603, aI 16] (fun m1 => (R32 (m1 603 60) → CI E mX12_tell k m1 [aR 603, aI (m1 603 60)] (fun r3 m2 => Q r3 m2))))) ∧ (x3 < (mem 603 60) → (R32 (3 * x3)) ∧ (R32 (8 + x3)) ∧ (0 ≤ (8 + x3) ∧ (8 + x3) < 5570) ∧ (0 ≤ (3 * x3) ∧ (3 * x3) < 30) ∧ (R32 ((3 * x3) + 1)) ∧ (R32 (18 + x3)) ∧ (0 ≤ (18 + x3) ∧ (18 + x3) < 5570) ∧ (0 ≤ ((3 * x3) + 1) ∧ ((3 * x3) + 1) < 30) ∧ (R32 ((3 * x3) + 2)) ∧ (R32 (38 + x3)) ∧ (0 ≤ (38 + x3) ∧ (38 + x3) < 5570) ∧ (0 ≤ ((3 * x3) + 2) ∧ ((3 * x3) + 2) < 30) ∧ (R32 (x3 + 1)) ∧ VM E mX12_centuries (k + 1) (aUp (aUp (aUp mem 635 (3 * x3) (mem 605 (8 + x3))) 635 ((3 * x3) + 1) (mem 605 (18 + x3))) 635 ((3 * x3) + 2) (mem 605 (38 + x3))) 158 [(0, aR 603), (3, aI (x3 + 1))] [] (retI Q)))) :
    VM E mX12_centuries (k + 1) mem 158 [(0, aR 603), (3, aI x3)] [] (retI Q) := by
  refine v_iload_n (pc := 158) dX12_centuries_158 1 rfl ?_
  refine v_aload_n (pc := 159) dX12_centuries_159 0 rfl ?_
  refine m_getf (pc := 160) (t := 0) (v := (mem 603 60)) dX12_centuries_160 flX12_159 rfl at603 rfl ?_
  refine v_icmpge (pc := 163) (tgt := 227) dX12_centuries_163 (by decide) (fun c1 => ?_) (fun c1 => ?_)
  · have h := h.1 c1
    refine v_aload_n (pc := 227) dX12_centuries_227 0 rfl ?_
    refine v_bipush (pc := 228) dX12_centuries_228 (by decide) ?_
    refine m_invV (pc := 230) (mi' := mX12_putBack) (rest := []) [aI 16] dX12_centuries_230 at603 (by decide) rfl msX12_putBack mvX12_putBack lkX12_179 rfl (Nat.le_of_ble_eq_true rfl) (fun hn => CV_mono (h) (fun m1 h => ?_))
    refine v_aload_n (pc := 233) dX12_centuries_233 0 rfl ?_
    refine v_aload_n (pc := 234) dX12_centuries_234 0 rfl ?_
    refine m_getf (pc := 235) (t := 0) (v := (m1 603 60)) dX12_centuries_235 flX12_159 rfl at603 rfl ?_
    refine m_invI (pc := 238) (mi' := mX12_tell) (rest := []) [aI (m1 603 60)] dX12_centuries_238 at603 (by decide) rfl msX12_tell mvX12_tell lkX12_175 rfl (Nat.le_of_ble_eq_true rfl) (fun hn => CI_mono (h (aaI hn 1 rfl)) (fun r3 m2 h => ?_))
    exact m_retI (pc := 241) dX12_centuries_241 rfl h
  · have h := h.2 c1
    refine v_aload_n (pc := 166) dX12_centuries_166 0 rfl ?_
    refine m_getfin (pc := 167) (v := 635) hE dX12_centuries_167 flX12_156 rfl at603 rfl ?_
    refine v_iconst (pc := 170) dX12_centuries_170 (by decide) ?_
    refine v_iload_n (pc := 171) dX12_centuries_171 1 rfl ?_
    obtain ⟨o4, h⟩ := h
    refine m_imul (pc := 172) dX12_centuries_172 o4 ?_
    refine v_aload_n (pc := 173) dX12_centuries_173 0 rfl ?_
    refine m_getfin (pc := 174) (v := 605) hE dX12_centuries_174 flX12_13 rfl at603 rfl ?_
    refine v_bipush (pc := 177) dX12_centuries_177 (by decide) ?_
    refine v_iload_n (pc := 179) dX12_centuries_179 1 rfl ?_
    obtain ⟨o5, h⟩ := h
    refine m_iadd (pc := 180) dX12_centuries_180 o5 ?_
    obtain ⟨o6, h⟩ := h
    refine m_iald (pc := 181) (v := (mem 605 (8 + x3))) dX12_centuries_181 at605 o6.1 o6.2 rfl ?_
    obtain ⟨o7, h⟩ := h
    refine v_iast (pc := 182) dX12_centuries_182 at635 o7.1 o7.2 ?_
    refine v_aload_n (pc := 183) dX12_centuries_183 0 rfl ?_
    refine m_getfin (pc := 184) (v := 635) hE dX12_centuries_184 flX12_156 rfl at603 rfl ?_
    refine v_iconst (pc := 187) dX12_centuries_187 (by decide) ?_
    refine v_iload_n (pc := 188) dX12_centuries_188 1 rfl ?_
    refine m_imul (pc := 189) dX12_centuries_189 o4 ?_
    refine v_iconst (pc := 190) dX12_centuries_190 (by decide) ?_
    obtain ⟨o8, h⟩ := h
    refine m_iadd (pc := 191) dX12_centuries_191 o8 ?_
    refine v_aload_n (pc := 192) dX12_centuries_192 0 rfl ?_
    refine m_getfin (pc := 193) (v := 605) hE dX12_centuries_193 flX12_13 rfl at603 rfl ?_
    refine v_bipush (pc := 196) dX12_centuries_196 (by decide) ?_
    refine v_iload_n (pc := 198) dX12_centuries_198 1 rfl ?_
    obtain ⟨o9, h⟩ := h
    refine m_iadd (pc := 199) dX12_centuries_199 o9 ?_
    obtain ⟨o10, h⟩ := h
    refine m_iald (pc := 200) (v := (mem 605 (18 + x3))) dX12_centuries_200 at605 o10.1 o10.2 (aUp_rn (by omega)) ?_
    obtain ⟨o11, h⟩ := h
    refine v_iast (pc := 201) dX12_centuries_201 at635 o11.1 o11.2 ?_
    refine v_aload_n (pc := 202) dX12_centuries_202 0 rfl ?_
    refine m_getfin (pc := 203) (v := 635) hE dX12_centuries_203 flX12_156 rfl at603 rfl ?_
    refine v_iconst (pc := 206) dX12_centuries_206 (by decide) ?_
    refine v_iload_n (pc := 207) dX12_centuries_207 1 rfl ?_
    refine m_imul (pc := 208) dX12_centuries_208 o4 ?_
    refine v_iconst (pc := 209) dX12_centuries_209 (by decide) ?_
    obtain ⟨o12, h⟩ := h
    refine m_iadd (pc := 210) dX12_centuries_210 o12 ?_
    refine v_aload_n (pc := 211) dX12_centuries_211 0 rfl ?_
    refine m_getfin (pc := 212) (v := 605) hE dX12_centuries_212 flX12_13 rfl at603 rfl ?_
    refine v_bipush (pc := 215) dX12_centuries_215 (by decide) ?_
    refine v_iload_n (pc := 217) dX12_centuries_217 1 rfl ?_
    obtain ⟨o13, h⟩ := h
    refine m_iadd (pc := 218) dX12_centuries_218 o13 ?_
    obtain ⟨o14, h⟩ := h
    refine m_iald (pc := 219) (v := (mem 605 (38 + x3))) dX12_centuries_219 at605 o14.1 o14.2 ((aUp_rn (by omega)).trans (aUp_rn (by omega))) ?_
    obtain ⟨o15, h⟩ := h
    refine v_iast (pc := 220) dX12_centuries_220 at635 o15.1 o15.2 ?_
    obtain ⟨o16, h⟩ := h
    refine m_iinc (pc := 221) (al2 := [(3, aI (x3 + 1)), (0, aR 603)]) dX12_centuries_221 1 rfl (by decide) o16 rfl ?_
    refine v_goto (pc := 224) (tgt := 158) dX12_centuries_224 (by decide) ?_
    exact VG_sub (al' := [(0, aR 603), (3, aI (x3 + 1))]) [1, 0] rfl h
set_option maxRecDepth 20000 in
theorem rX12_centuries_139 {E : EN} (hE : Ep E) {k : Nat} {mem : Mm} {Q : Int → Mm → Prop} {p0 p1 x3 : Int}
    (h : (R32 (x3 + 1)) ∧ VM E mX12_centuries (k + 1) mem 49 [(0, aR 603), (2, aI p1), (3, aI (x3 + 1))] [] (retI Q)) :
    VM E mX12_centuries (k + 1) mem 139 [(0, aR 603), (2, aI p1), (3, aI x3)] [] (retI Q) := by
  obtain ⟨o1, h⟩ := h
  refine m_iinc (pc := 139) (al2 := [(3, aI (x3 + 1)), (0, aR 603), (2, aI p1)]) dX12_centuries_139 2 rfl (by decide) o1 rfl ?_
  refine v_goto (pc := 142) (tgt := 49) dX12_centuries_142 (by decide) ?_
  exact VG_sub (al' := [(0, aR 603), (2, aI p1), (3, aI (x3 + 1))]) [1, 2, 0] rfl h

theorem dX12_drawn_0 : decode cX12_drawn 0 = .ok (.aload_n 0, 1) := by decide +kernel
theorem dX12_drawn_1 : decode cX12_drawn 1 = .ok (.iconst 0, 1) := by decide +kernel
theorem dX12_drawn_2 : decode cX12_drawn 2 = .ok (.putfield 162, 3) := by decide +kernel
theorem dX12_drawn_5 : decode cX12_drawn 5 = .ok (.aload_n 0, 1) := by decide +kernel
theorem dX12_drawn_6 : decode cX12_drawn 6 = .ok (.getfield 159, 3) := by decide +kernel
theorem dX12_drawn_9 : decode cX12_drawn 9 = .ok (.iconst (-1), 1) := by decide +kernel
theorem dX12_drawn_10 : decode cX12_drawn 10 = .ok (.if_icmp .eq 44, 3) := by decide +kernel
theorem dX12_drawn_13 : decode cX12_drawn 13 = .ok (.iload_n 1, 1) := by decide +kernel
theorem dX12_drawn_14 : decode cX12_drawn 14 = .ok (.i2l, 1) := by decide +kernel
theorem dX12_drawn_15 : decode cX12_drawn 15 = .ok (.lconst 0, 1) := by decide +kernel
theorem dX12_drawn_16 : decode cX12_drawn 16 = .ok (.aload_n 0, 1) := by decide +kernel
theorem dX12_drawn_17 : decode cX12_drawn 17 = .ok (.getfield 159, 3) := by decide +kernel
theorem dX12_drawn_20 : decode cX12_drawn 20 = .ok (.i2l, 1) := by decide +kernel
theorem dX12_drawn_21 : decode cX12_drawn 21 = .ok (.lconst 1, 1) := by decide +kernel
theorem dX12_drawn_22 : decode cX12_drawn 22 = .ok (.lsub, 1) := by decide +kernel
theorem dX12_drawn_23 : decode cX12_drawn 23 = .ok (.invokestatic 182, 3) := by decide +kernel
theorem dX12_drawn_26 : decode cX12_drawn 26 = .ok (.ifCond .eq 28, 3) := by decide +kernel
theorem dX12_drawn_29 : decode cX12_drawn 29 = .ok (.iload_n 2, 1) := by decide +kernel
theorem dX12_drawn_30 : decode cX12_drawn 30 = .ok (.i2l, 1) := by decide +kernel
theorem dX12_drawn_31 : decode cX12_drawn 31 = .ok (.lconst 0, 1) := by decide +kernel
theorem dX12_drawn_32 : decode cX12_drawn 32 = .ok (.ldc2_w 426, 3) := by decide +kernel
theorem dX12_drawn_35 : decode cX12_drawn 35 = .ok (.invokestatic 182, 3) := by decide +kernel
theorem dX12_drawn_38 : decode cX12_drawn 38 = .ok (.ifCond .eq 16, 3) := by decide +kernel
theorem dX12_drawn_41 : decode cX12_drawn 41 = .ok (.aload_n 0, 1) := by decide +kernel
theorem dX12_drawn_42 : decode cX12_drawn 42 = .ok (.getfield 156, 3) := by decide +kernel
theorem dX12_drawn_45 : decode cX12_drawn 45 = .ok (.iconst 3, 1) := by decide +kernel
theorem dX12_drawn_46 : decode cX12_drawn 46 = .ok (.iload_n 1, 1) := by decide +kernel
theorem dX12_drawn_47 : decode cX12_drawn 47 = .ok (.imul, 1) := by decide +kernel
theorem dX12_drawn_48 : decode cX12_drawn 48 = .ok (.iload_n 2, 1) := by decide +kernel
theorem dX12_drawn_49 : decode cX12_drawn 49 = .ok (.iadd, 1) := by decide +kernel
theorem dX12_drawn_50 : decode cX12_drawn 50 = .ok (.iaload, 1) := by decide +kernel
theorem dX12_drawn_51 : decode cX12_drawn 51 = .ok (.goto 4, 3) := by decide +kernel
theorem dX12_drawn_54 : decode cX12_drawn 54 = .ok (.iconst (-1), 1) := by decide +kernel
theorem dX12_drawn_55 : decode cX12_drawn 55 = .ok (.ireturn, 1) := by decide +kernel
set_option maxRecDepth 20000 in
theorem rX12_drawn_0 {E : EN} (hE : Ep E) {k : Nat} {mem : Mm} {Q : Int → Mm → Prop} {p0 p1 : Int}
    (h : (((mem 603 60) = (-1) → Q (-1) (aUp mem 603 0 0)) ∧ (¬ (mem 603 60) = (-1) → (R64 ((mem 603 60) - 1)) ∧ (R64 p0 → R64 ((mem 603 60) - 1) → CI E mX12_in k (aUp mem 603 0 0) [aL p0, aL 0, aL ((mem 603 60) - 1)] (fun r3 m2 => ((r3 = 0 → Q (-1) m2) ∧ (¬ r3 = 0 → (R64 p1 → CI E mX12_in k m2 [aL p1, aL 0, aL 2] (fun r5 m4 => ((r5 = 0 → Q (-1) m4) ∧ (¬ r5 = 0 → (R32 (3 * p0)) ∧ (R32 ((3 * p0) + p1)) ∧ (0 ≤ ((3 * p0) + p1) ∧ ((3 * p0) + p1) < 30) ∧ Q (m4 635 ((3 * p0) + p1)) m4))))))))))) :
    VM E mX12_drawn (k + 1) mem 0 [(0, aR 603), (1, aI p0), (2, aI p1)] [] (retI Q) := by
  refine v_aload_n (pc := 0) dX12_drawn_0 0 rfl ?_
  refine v_iconst (pc := 1) dX12_drawn_1 (by decide) ?_
  refine v_putf (pc := 2) dX12_drawn_2 flX12_162 ⟨_, _, rfl, Or.inl rfl⟩ rfl (by decide) (fun q => nomatch q) (Or.inl fun _ => rfl) at603 ?_
  refine v_aload_n (pc := 5) dX12_drawn_5 0 rfl ?_
  refine m_getf (pc := 6) (t := 0) (v := (mem 603 60)) dX12_drawn_6 flX12_159 rfl at603 (aUp_ri (by decide)) ?_
  refine v_iconst (pc := 9) dX12_drawn_9 (by decide) ?_
  refine v_icmpeq (pc := 10) (tgt := 54) dX12_drawn_10 (by decide) (fun c1 => ?_) (fun c1 => ?_)
  · have h := h.1 c1
    refine v_iconst (pc := 54) dX12_drawn_54 (by decide) ?_
    exact m_retI (pc := 55) dX12_drawn_55 rfl h
  · have h := h.2 c1
    refine v_iload_n (pc := 13) dX12_drawn_13 1 rfl ?_
    refine v_i2l (pc := 14) dX12_drawn_14 ?_
    refine v_lconst0 (pc := 15) dX12_drawn_15 ?_
    refine v_aload_n (pc := 16) dX12_drawn_16 0 rfl ?_
    refine m_getf (pc := 17) (t := 0) (v := (mem 603 60)) dX12_drawn_17 flX12_159 rfl at603 (aUp_ri (by decide)) ?_
    refine v_i2l (pc := 20) dX12_drawn_20 ?_
    refine v_lconst1 (pc := 21) dX12_drawn_21 ?_
    obtain ⟨o1, h⟩ := h
    refine m_lsub (pc := 22) dX12_drawn_22 o1 ?_
    refine m_invSI (pc := 23) (mi' := mX12_in) (rest := []) [aL p0, aL 0, aL ((mem 603 60) - 1)] dX12_drawn_23 msX12_in stX12_in lkX12_182 rfl (Nat.le_of_ble_eq_true rfl) (fun hn => CI_mono (h (aaL hn 0 rfl) (aaL hn 2 rfl)) (fun r3 m2 h => ?_))
    refine v_ifeq (pc := 26) (tgt := 54) dX12_drawn_26 (by decide) (fun c1 => ?_) (fun c1 => ?_)
    · have h := h.1 c1
      refine v_iconst (pc := 54) dX12_drawn_54 (by decide) ?_
      exact m_retI (pc := 55) dX12_drawn_55 rfl h
    · have h := h.2 c1
      refine v_iload_n (pc := 29) dX12_drawn_29 2 rfl ?_
      refine v_i2l (pc := 30) dX12_drawn_30 ?_
      refine v_lconst0 (pc := 31) dX12_drawn_31 ?_
      refine v_ldc2 (pc := 32) (n := 2) dX12_drawn_32 cnX12_426 (by decide) ?_
      refine m_invSI (pc := 35) (mi' := mX12_in) (rest := []) [aL p1, aL 0, aL 2] dX12_drawn_35 msX12_in stX12_in lkX12_182 rfl (Nat.le_of_ble_eq_true rfl) (fun hn => CI_mono (h (aaL hn 0 rfl)) (fun r5 m4 h => ?_))
      refine v_ifeq (pc := 38) (tgt := 54) dX12_drawn_38 (by decide) (fun c1 => ?_) (fun c1 => ?_)
      · have h := h.1 c1
        refine v_iconst (pc := 54) dX12_drawn_54 (by decide) ?_
        exact m_retI (pc := 55) dX12_drawn_55 rfl h
      · have h := h.2 c1
        refine v_aload_n (pc := 41) dX12_drawn_41 0 rfl ?_
        refine m_getfin (pc := 42) (v := 635) hE dX12_drawn_42 flX12_156 rfl at603 rfl ?_
        refine v_iconst (pc := 45) dX12_drawn_45 (by decide) ?_
        refine v_iload_n (pc := 46) dX12_drawn_46 1 rfl ?_
        obtain ⟨o6, h⟩ := h
        refine m_imul (pc := 47) dX12_drawn_47 o6 ?_
        refine v_iload_n (pc := 48) dX12_drawn_48 2 rfl ?_
        obtain ⟨o7, h⟩ := h
        refine m_iadd (pc := 49) dX12_drawn_49 o7 ?_
        obtain ⟨o8, h⟩ := h
        refine m_iald (pc := 50) (v := (m4 635 ((3 * p0) + p1))) dX12_drawn_50 at635 o8.1 o8.2 rfl ?_
        refine v_goto (pc := 51) (tgt := 55) dX12_drawn_51 (by decide) ?_
        exact m_retI (pc := 55) dX12_drawn_55 rfl h
theorem eX12_drawn {E : EN} {k : Nat} {mem : Mm} {Q : Int → Mm → Prop} {p0 p1 : Int} (hr_p0 : R32 p0) (hr_p1 : R32 p1) (h : VM E mX12_drawn (k + 1) mem 0 [(0, aR 603), (1, aI p0), (2, aI p1)] [] (retI Q)) : CI E mX12_drawn (k + 1) mem [aR 603, aI p0, aI p1] Q := CI_of rfl (Nat.le_of_ble_eq_true rfl) h (aNs_c (aNr_R _) (aNs_c (aNr_I hr_p0) (aNs_c (aNr_I hr_p1) (fun _ q => nomatch q))))

theorem dX12_cellsOf_0 : decode cX12_cellsOf 0 = .ok (.iconst 0, 1) := by decide +kernel
theorem dX12_cellsOf_1 : decode cX12_cellsOf 1 = .ok (.istore_n 2, 1) := by decide +kernel
theorem dX12_cellsOf_2 : decode cX12_cellsOf 2 = .ok (.iconst 0, 1) := by decide +kernel
theorem dX12_cellsOf_3 : decode cX12_cellsOf 3 = .ok (.istore_n 3, 1) := by decide +kernel
theorem dX12_cellsOf_4 : decode cX12_cellsOf 4 = .ok (.iload_n 3, 1) := by decide +kernel
theorem dX12_cellsOf_5 : decode cX12_cellsOf 5 = .ok (.bipush 32, 2) := by decide +kernel
theorem dX12_cellsOf_7 : decode cX12_cellsOf 7 = .ok (.if_icmp .ge 46, 3) := by decide +kernel
theorem dX12_cellsOf_10 : decode cX12_cellsOf 10 = .ok (.iload_n 2, 1) := by decide +kernel
theorem dX12_cellsOf_11 : decode cX12_cellsOf 11 = .ok (.iload_n 1, 1) := by decide +kernel
theorem dX12_cellsOf_12 : decode cX12_cellsOf 12 = .ok (.ifCond .eq 15, 3) := by decide +kernel
theorem dX12_cellsOf_15 : decode cX12_cellsOf 15 = .ok (.aload_n 0, 1) := by decide +kernel
theorem dX12_cellsOf_16 : decode cX12_cellsOf 16 = .ok (.getfield 13, 3) := by decide +kernel
theorem dX12_cellsOf_19 : decode cX12_cellsOf 19 = .ok (.bipush 48, 2) := by decide +kernel
theorem dX12_cellsOf_21 : decode cX12_cellsOf 21 = .ok (.iload_n 3, 1) := by decide +kernel
theorem dX12_cellsOf_22 : decode cX12_cellsOf 22 = .ok (.iadd, 1) := by decide +kernel
theorem dX12_cellsOf_23 : decode cX12_cellsOf 23 = .ok (.iaload, 1) := by decide +kernel
theorem dX12_cellsOf_24 : decode cX12_cellsOf 24 = .ok (.goto 21, 3) := by decide +kernel
theorem dX12_cellsOf_27 : decode cX12_cellsOf 27 = .ok (.aload_n 0, 1) := by decide +kernel
theorem dX12_cellsOf_28 : decode cX12_cellsOf 28 = .ok (.getfield 13, 3) := by decide +kernel
theorem dX12_cellsOf_31 : decode cX12_cellsOf 31 = .ok (.bipush 80, 2) := by decide +kernel
theorem dX12_cellsOf_33 : decode cX12_cellsOf 33 = .ok (.iload_n 3, 1) := by decide +kernel
theorem dX12_cellsOf_34 : decode cX12_cellsOf 34 = .ok (.iadd, 1) := by decide +kernel
theorem dX12_cellsOf_35 : decode cX12_cellsOf 35 = .ok (.iaload, 1) := by decide +kernel
theorem dX12_cellsOf_36 : decode cX12_cellsOf 36 = .ok (.iconst 1, 1) := by decide +kernel
theorem dX12_cellsOf_37 : decode cX12_cellsOf 37 = .ok (.if_icmp .ne 7, 3) := by decide +kernel
theorem dX12_cellsOf_40 : decode cX12_cellsOf 40 = .ok (.iconst 1, 1) := by decide +kernel
theorem dX12_cellsOf_41 : decode cX12_cellsOf 41 = .ok (.goto 4, 3) := by decide +kernel
theorem dX12_cellsOf_44 : decode cX12_cellsOf 44 = .ok (.iconst 0, 1) := by decide +kernel
theorem dX12_cellsOf_45 : decode cX12_cellsOf 45 = .ok (.iadd, 1) := by decide +kernel
theorem dX12_cellsOf_46 : decode cX12_cellsOf 46 = .ok (.istore_n 2, 1) := by decide +kernel
theorem dX12_cellsOf_47 : decode cX12_cellsOf 47 = .ok (.iinc 3 1, 3) := by decide +kernel
theorem dX12_cellsOf_50 : decode cX12_cellsOf 50 = .ok (.goto (-46), 3) := by decide +kernel
theorem dX12_cellsOf_53 : decode cX12_cellsOf 53 = .ok (.iload_n 2, 1) := by decide +kernel
theorem dX12_cellsOf_54 : decode cX12_cellsOf 54 = .ok (.ireturn, 1) := by decide +kernel
set_option maxRecDepth 20000 in
theorem rX12_cellsOf_0 {E : EN} (hE : Ep E) {k : Nat} {mem : Mm} {Q : Int → Mm → Prop} {p0 : Int}
    (h : VM E mX12_cellsOf k mem 4 [(0, aR 603), (1, aI p0), (2, aI 0), (3, aI 0)] [] (retI Q)) :
    VM E mX12_cellsOf k mem 0 [(0, aR 603), (1, aI p0)] [] (retI Q) := by
  refine v_iconst (pc := 0) dX12_cellsOf_0 (by decide) ?_
  refine v_istore_n (pc := 1) (al2 := [(2, aI 0), (0, aR 603), (1, aI p0)]) dX12_cellsOf_1 (by decide) rfl ?_
  refine v_iconst (pc := 2) dX12_cellsOf_2 (by decide) ?_
  refine v_istore_n (pc := 3) (al2 := [(3, aI 0), (2, aI 0), (0, aR 603), (1, aI p0)]) dX12_cellsOf_3 (by decide) rfl ?_
  exact VG_sub (al' := [(0, aR 603), (1, aI p0), (2, aI 0), (3, aI 0)]) [2, 3, 1, 0] rfl h
theorem eX12_cellsOf {E : EN} {k : Nat} {mem : Mm} {Q : Int → Mm → Prop} {p0 : Int} (hr_p0 : R32 p0) (h : VM E mX12_cellsOf k mem 0 [(0, aR 603), (1, aI p0)] [] (retI Q)) : CI E mX12_cellsOf k mem [aR 603, aI p0] Q := CI_of rfl (Nat.le_of_ble_eq_true rfl) h (aNs_c (aNr_R _) (aNs_c (aNr_I hr_p0) (fun _ q => nomatch q)))
set_option maxRecDepth 20000 in
theorem rX12_cellsOf_4 {E : EN} (hE : Ep E) {k : Nat} {mem : Mm} {Q : Int → Mm → Prop} {p0 x2 x3 : Int}
    (h : ((32 ≤ x3 → Q x2 mem) ∧ (x3 < 32 → ((p0 = 0 → (R32 (80 + x3)) ∧ (0 ≤ (80 + x3) ∧ (80 + x3) < 5570) ∧ ((¬ (mem 605 (80 + x3)) = 1 → (R32 (x2 + 0)) ∧ (R32 (x3 + 1)) ∧ VM E mX12_cellsOf k mem 4 [(0, aR 603), (1, aI p0), (2, aI (x2 + 0)), (3, aI (x3 + 1))] [] (retI Q)) ∧ ((mem 605 (80 + x3)) = 1 → (R32 (x2 + 1)) ∧ (R32 (x3 + 1)) ∧ VM E mX12_cellsOf k mem 4 [(0, aR 603), (1, aI p0), (2, aI (x2 + 1)), (3, aI (x3 + 1))] [] (retI Q)))) ∧ (¬ p0 = 0 → (R32 (48 + x3)) ∧ (0 ≤ (48 + x3) ∧ (48 + x3) < 5570) ∧ (R32 (x2 + (mem 605 (48 + x3)))) ∧ (R32 (x3 + 1)) ∧ VM E mX12_cellsOf k mem 4 [(0, aR 603), (1, aI p0), (2, aI (x2 + (mem 605 (48 + x3)))), (3, aI (x3 + 1))] [] (retI Q)))))) :
    VM E mX12_cellsOf k mem 4 [(0, aR 603), (1, aI p0), (2, aI x2), (3, aI x3)] [] (retI Q) := by
  refine v_iload_n (pc := 4) dX12_cellsOf_4 3 rfl ?_
  refine v_bipush (pc := 5) dX12_cellsOf_5 (by decide) ?_
  refine v_icmpge (pc := 7) (tgt := 53) dX12_cellsOf_7 (by decide) (fun c1 => ?_) (fun c1 => ?_)
  · have h := h.1 c1
    refine v_iload_n (pc := 53) dX12_cellsOf_53 2 rfl ?_
    exact m_retI (pc := 54) dX12_cellsOf_54 rfl h
  · have h := h.2 c1
    refine v_iload_n (pc := 10) dX12_cellsOf_10 2 rfl ?_
    refine v_iload_n (pc := 11) dX12_cellsOf_11 1 rfl ?_
    refine v_ifeq (pc := 12) (tgt := 27) dX12_cellsOf_12 (by decide) (fun c1 => ?_) (fun c1 => ?_)
    · have h := h.1 c1
      refine v_aload_n (pc := 27) dX12_cellsOf_27 0 rfl ?_
      refine m_getfin (pc := 28) (v := 605) hE dX12_cellsOf_28 flX12_13 rfl at603 rfl ?_
      refine v_bipush (pc := 31) dX12_cellsOf_31 (by decide) ?_
      refine v_iload_n (pc := 33) dX12_cellsOf_33 3 rfl ?_
      obtain ⟨o1, h⟩ := h
      refine m_iadd (pc := 34) dX12_cellsOf_34 o1 ?_
      obtain ⟨o2, h⟩ := h
      refine m_iald (pc := 35) (v := (mem 605 (80 + x3))) dX12_cellsOf_35 at605 o2.1 o2.2 rfl ?_
      refine v_iconst (pc := 36) dX12_cellsOf_36 (by decide) ?_
      refine v_icmpne (pc := 37) (tgt := 44) dX12_cellsOf_37 (by decide) (fun c1 => ?_) (fun c1 => ?_)
      · have h := h.1 c1
        refine v_iconst (pc := 44) dX12_cellsOf_44 (by decide) ?_
        obtain ⟨o3, h⟩ := h
        refine m_iadd (pc := 45) dX12_cellsOf_45 o3 ?_
        refine v_istore_n (pc := 46) (al2 := [(2, aI (x2 + 0)), (0, aR 603), (1, aI p0), (3, aI x3)]) dX12_cellsOf_46 (by decide) rfl ?_
        obtain ⟨o4, h⟩ := h
        refine m_iinc (pc := 47) (al2 := [(3, aI (x3 + 1)), (2, aI (x2 + 0)), (0, aR 603), (1, aI p0)]) dX12_cellsOf_47 3 rfl (by decide) o4 rfl ?_
        refine v_goto (pc := 50) (tgt := 4) dX12_cellsOf_50 (by decide) ?_
        exact VG_sub (al' := [(0, aR 603), (1, aI p0), (2, aI (x2 + 0)), (3, aI (x3 + 1))]) [2, 3, 1, 0] rfl h
      · have h := h.2 c1
        refine v_iconst (pc := 40) dX12_cellsOf_40 (by decide) ?_
        refine v_goto (pc := 41) (tgt := 45) dX12_cellsOf_41 (by decide) ?_
        obtain ⟨o5, h⟩ := h
        refine m_iadd (pc := 45) dX12_cellsOf_45 o5 ?_
        refine v_istore_n (pc := 46) (al2 := [(2, aI (x2 + 1)), (0, aR 603), (1, aI p0), (3, aI x3)]) dX12_cellsOf_46 (by decide) rfl ?_
        obtain ⟨o6, h⟩ := h
        refine m_iinc (pc := 47) (al2 := [(3, aI (x3 + 1)), (2, aI (x2 + 1)), (0, aR 603), (1, aI p0)]) dX12_cellsOf_47 3 rfl (by decide) o6 rfl ?_
        refine v_goto (pc := 50) (tgt := 4) dX12_cellsOf_50 (by decide) ?_
        exact VG_sub (al' := [(0, aR 603), (1, aI p0), (2, aI (x2 + 1)), (3, aI (x3 + 1))]) [2, 3, 1, 0] rfl h
    · have h := h.2 c1
      refine v_aload_n (pc := 15) dX12_cellsOf_15 0 rfl ?_
      refine m_getfin (pc := 16) (v := 605) hE dX12_cellsOf_16 flX12_13 rfl at603 rfl ?_
      refine v_bipush (pc := 19) dX12_cellsOf_19 (by decide) ?_
      refine v_iload_n (pc := 21) dX12_cellsOf_21 3 rfl ?_
      obtain ⟨o7, h⟩ := h
      refine m_iadd (pc := 22) dX12_cellsOf_22 o7 ?_
      obtain ⟨o8, h⟩ := h
      refine m_iald (pc := 23) (v := (mem 605 (48 + x3))) dX12_cellsOf_23 at605 o8.1 o8.2 rfl ?_
      refine v_goto (pc := 24) (tgt := 45) dX12_cellsOf_24 (by decide) ?_
      obtain ⟨o9, h⟩ := h
      refine m_iadd (pc := 45) dX12_cellsOf_45 o9 ?_
      refine v_istore_n (pc := 46) (al2 := [(2, aI (x2 + (mem 605 (48 + x3)))), (0, aR 603), (1, aI p0), (3, aI x3)]) dX12_cellsOf_46 (by decide) rfl ?_
      obtain ⟨o10, h⟩ := h
      refine m_iinc (pc := 47) (al2 := [(3, aI (x3 + 1)), (2, aI (x2 + (mem 605 (48 + x3)))), (0, aR 603), (1, aI p0)]) dX12_cellsOf_47 3 rfl (by decide) o10 rfl ?_
      refine v_goto (pc := 50) (tgt := 4) dX12_cellsOf_50 (by decide) ?_
      exact VG_sub (al' := [(0, aR 603), (1, aI p0), (2, aI (x2 + (mem 605 (48 + x3)))), (3, aI (x3 + 1))]) [2, 3, 1, 0] rfl h

theorem dX12_count_0 : decode cX12_count 0 = .ok (.aload_n 0, 1) := by decide +kernel
theorem dX12_count_1 : decode cX12_count 1 = .ok (.iconst 0, 1) := by decide +kernel
theorem dX12_count_2 : decode cX12_count 2 = .ok (.putfield 162, 3) := by decide +kernel
theorem dX12_count_5 : decode cX12_count 5 = .ok (.iload_n 1, 1) := by decide +kernel
theorem dX12_count_6 : decode cX12_count 6 = .ok (.tableswitch 153 0 12 #[66, 74, 80, 86, 93, 100, 105, 110, 117, 124, 131, 138, 146], 66) := by decide +kernel
theorem dX12_count_72 : decode cX12_count 72 = .ok (.aload_n 0, 1) := by decide +kernel
theorem dX12_count_73 : decode cX12_count 73 = .ok (.getfield 13, 3) := by decide +kernel
theorem dX12_count_76 : decode cX12_count 76 = .ok (.bipush 7, 2) := by decide +kernel
theorem dX12_count_78 : decode cX12_count 78 = .ok (.iaload, 1) := by decide +kernel
theorem dX12_count_79 : decode cX12_count 79 = .ok (.ireturn, 1) := by decide +kernel
theorem dX12_count_80 : decode cX12_count 80 = .ok (.aload_n 0, 1) := by decide +kernel
theorem dX12_count_81 : decode cX12_count 81 = .ok (.iconst 0, 1) := by decide +kernel
theorem dX12_count_82 : decode cX12_count 82 = .ok (.invokevirtual 552, 3) := by decide +kernel
theorem dX12_count_85 : decode cX12_count 85 = .ok (.ireturn, 1) := by decide +kernel
theorem dX12_count_86 : decode cX12_count 86 = .ok (.aload_n 0, 1) := by decide +kernel
theorem dX12_count_87 : decode cX12_count 87 = .ok (.iconst 1, 1) := by decide +kernel
theorem dX12_count_88 : decode cX12_count 88 = .ok (.invokevirtual 552, 3) := by decide +kernel
theorem dX12_count_91 : decode cX12_count 91 = .ok (.ireturn, 1) := by decide +kernel
theorem dX12_count_92 : decode cX12_count 92 = .ok (.aload_n 0, 1) := by decide +kernel
theorem dX12_count_93 : decode cX12_count 93 = .ok (.getfield 13, 3) := by decide +kernel
theorem dX12_count_96 : decode cX12_count 96 = .ok (.iconst 0, 1) := by decide +kernel
theorem dX12_count_97 : decode cX12_count 97 = .ok (.iaload, 1) := by decide +kernel
theorem dX12_count_98 : decode cX12_count 98 = .ok (.ireturn, 1) := by decide +kernel
theorem dX12_count_99 : decode cX12_count 99 = .ok (.aload_n 0, 1) := by decide +kernel
theorem dX12_count_100 : decode cX12_count 100 = .ok (.getfield 13, 3) := by decide +kernel
theorem dX12_count_103 : decode cX12_count 103 = .ok (.iconst 1, 1) := by decide +kernel
theorem dX12_count_104 : decode cX12_count 104 = .ok (.iaload, 1) := by decide +kernel
theorem dX12_count_105 : decode cX12_count 105 = .ok (.ireturn, 1) := by decide +kernel
theorem dX12_count_106 : decode cX12_count 106 = .ok (.aload_n 0, 1) := by decide +kernel
theorem dX12_count_107 : decode cX12_count 107 = .ok (.getfield 168, 3) := by decide +kernel
theorem dX12_count_110 : decode cX12_count 110 = .ok (.ireturn, 1) := by decide +kernel
theorem dX12_count_111 : decode cX12_count 111 = .ok (.aload_n 0, 1) := by decide +kernel
theorem dX12_count_112 : decode cX12_count 112 = .ok (.getfield 229, 3) := by decide +kernel
theorem dX12_count_115 : decode cX12_count 115 = .ok (.ireturn, 1) := by decide +kernel
theorem dX12_count_116 : decode cX12_count 116 = .ok (.aload_n 0, 1) := by decide +kernel
theorem dX12_count_117 : decode cX12_count 117 = .ok (.getfield 7, 3) := by decide +kernel
theorem dX12_count_120 : decode cX12_count 120 = .ok (.iconst 1, 1) := by decide +kernel
theorem dX12_count_121 : decode cX12_count 121 = .ok (.iaload, 1) := by decide +kernel
theorem dX12_count_122 : decode cX12_count 122 = .ok (.ireturn, 1) := by decide +kernel
theorem dX12_count_123 : decode cX12_count 123 = .ok (.aload_n 0, 1) := by decide +kernel
theorem dX12_count_124 : decode cX12_count 124 = .ok (.getfield 7, 3) := by decide +kernel
theorem dX12_count_127 : decode cX12_count 127 = .ok (.iconst 2, 1) := by decide +kernel
theorem dX12_count_128 : decode cX12_count 128 = .ok (.iaload, 1) := by decide +kernel
theorem dX12_count_129 : decode cX12_count 129 = .ok (.ireturn, 1) := by decide +kernel
theorem dX12_count_130 : decode cX12_count 130 = .ok (.aload_n 0, 1) := by decide +kernel
theorem dX12_count_131 : decode cX12_count 131 = .ok (.getfield 7, 3) := by decide +kernel
theorem dX12_count_134 : decode cX12_count 134 = .ok (.iconst 3, 1) := by decide +kernel
theorem dX12_count_135 : decode cX12_count 135 = .ok (.iaload, 1) := by decide +kernel
theorem dX12_count_136 : decode cX12_count 136 = .ok (.ireturn, 1) := by decide +kernel
theorem dX12_count_137 : decode cX12_count 137 = .ok (.aload_n 0, 1) := by decide +kernel
theorem dX12_count_138 : decode cX12_count 138 = .ok (.getfield 7, 3) := by decide +kernel
theorem dX12_count_141 : decode cX12_count 141 = .ok (.iconst 5, 1) := by decide +kernel
theorem dX12_count_142 : decode cX12_count 142 = .ok (.iaload, 1) := by decide +kernel
theorem dX12_count_143 : decode cX12_count 143 = .ok (.ireturn, 1) := by decide +kernel
theorem dX12_count_144 : decode cX12_count 144 = .ok (.aload_n 0, 1) := by decide +kernel
theorem dX12_count_145 : decode cX12_count 145 = .ok (.getfield 7, 3) := by decide +kernel
theorem dX12_count_148 : decode cX12_count 148 = .ok (.bipush 6, 2) := by decide +kernel
theorem dX12_count_150 : decode cX12_count 150 = .ok (.iaload, 1) := by decide +kernel
theorem dX12_count_151 : decode cX12_count 151 = .ok (.ireturn, 1) := by decide +kernel
theorem dX12_count_152 : decode cX12_count 152 = .ok (.aload_n 0, 1) := by decide +kernel
theorem dX12_count_153 : decode cX12_count 153 = .ok (.getfield 13, 3) := by decide +kernel
theorem dX12_count_156 : decode cX12_count 156 = .ok (.iconst 2, 1) := by decide +kernel
theorem dX12_count_157 : decode cX12_count 157 = .ok (.iaload, 1) := by decide +kernel
theorem dX12_count_158 : decode cX12_count 158 = .ok (.ireturn, 1) := by decide +kernel
theorem dX12_count_159 : decode cX12_count 159 = .ok (.iload_n 1, 1) := by decide +kernel
theorem dX12_count_160 : decode cX12_count 160 = .ok (.i2l, 1) := by decide +kernel
theorem dX12_count_161 : decode cX12_count 161 = .ok (.ldc2_w 555, 3) := by decide +kernel
theorem dX12_count_164 : decode cX12_count 164 = .ok (.ldc2_w 557, 3) := by decide +kernel
theorem dX12_count_167 : decode cX12_count 167 = .ok (.invokestatic 182, 3) := by decide +kernel
theorem dX12_count_170 : decode cX12_count 170 = .ok (.ifCond .eq 17, 3) := by decide +kernel
theorem dX12_count_173 : decode cX12_count 173 = .ok (.aload_n 0, 1) := by decide +kernel
theorem dX12_count_174 : decode cX12_count 174 = .ok (.getfield 13, 3) := by decide +kernel
theorem dX12_count_177 : decode cX12_count 177 = .ok (.iconst 3, 1) := by decide +kernel
theorem dX12_count_178 : decode cX12_count 178 = .ok (.iload_n 1, 1) := by decide +kernel
theorem dX12_count_179 : decode cX12_count 179 = .ok (.iadd, 1) := by decide +kernel
theorem dX12_count_180 : decode cX12_count 180 = .ok (.bipush 13, 2) := by decide +kernel
theorem dX12_count_182 : decode cX12_count 182 = .ok (.isub, 1) := by decide +kernel
theorem dX12_count_183 : decode cX12_count 183 = .ok (.iaload, 1) := by decide +kernel
theorem dX12_count_184 : decode cX12_count 184 = .ok (.goto 4, 3) := by decide +kernel
theorem dX12_count_187 : decode cX12_count 187 = .ok (.iconst (-1), 1) := by decide +kernel
theorem dX12_count_188 : decode cX12_count 188 = .ok (.ireturn, 1) := by decide +kernel
set_option maxRecDepth 20000 in
theorem rX12_count_0 {E : EN} (hE : Ep E) {k : Nat} {mem : Mm} {Q : Int → Mm → Prop} {p0 : Int}
    (h : ((p0 = 0 → Q (mem 605 7) (aUp mem 603 0 0)) ∧ (p0 = 1 → (CI E mX12_cellsOf k (aUp mem 603 0 0) [aR 603, aI 0] (fun r2 m1 => Q r2 m1))) ∧ (p0 = 2 → (CI E mX12_cellsOf k (aUp mem 603 0 0) [aR 603, aI 1] (fun r4 m3 => Q r4 m3))) ∧ (p0 = 3 → Q (mem 605 0) (aUp mem 603 0 0)) ∧ (p0 = 4 → Q (mem 605 1) (aUp mem 603 0 0)) ∧ (p0 = 5 → Q (mem 603 8) (aUp mem 603 0 0)) ∧ (p0 = 6 → Q (mem 603 13) (aUp mem 603 0 0)) ∧ (p0 = 7 → Q (mem 604 1) (aUp mem 603 0 0)) ∧ (p0 = 8 → Q (mem 604 2) (aUp mem 603 0 0)) ∧ (p0 = 9 → Q (mem 604 3) (aUp mem 603 0 0)) ∧ (p0 = 10 → Q (mem 604 5) (aUp mem 603 0 0)) ∧ (p0 = 11 → Q (mem 604 6) (aUp mem 603 0 0)) ∧ (p0 = 12 → Q (mem 605 2) (aUp mem 603 0 0)) ∧ (p0 < 0 ∨ 12 < p0 → (R64 p0 → CI E mX12_in k (aUp mem 603 0 0) [aL p0, aL 13, aL 16] (fun r6 m5 => ((r6 = 0 → Q (-1) m5) ∧ (¬ r6 = 0 → (R32 (3 + p0)) ∧ (R32 ((3 + p0) - 13)) ∧ (0 ≤ ((3 + p0) - 13) ∧ ((3 + p0) - 13) < 5570) ∧ Q (m5 605 ((3 + p0) - 13)) m5))))))) :
    VM E mX12_count (k + 1) mem 0 [(0, aR 603), (1, aI p0)] [] (retI Q) := by
  refine v_aload_n (pc := 0) dX12_count_0 0 rfl ?_
  refine v_iconst (pc := 1) dX12_count_1 (by decide) ?_
  refine v_putf (pc := 2) dX12_count_2 flX12_162 ⟨_, _, rfl, Or.inl rfl⟩ rfl (by decide) (fun q => nomatch q) (Or.inl fun _ => rfl) at603 ?_
  refine v_iload_n (pc := 5) dX12_count_5 1 rfl ?_
  rcases (show p0 = 0 ∨ p0 = 1 ∨ p0 = 2 ∨ p0 = 3 ∨ p0 = 4 ∨ p0 = 5 ∨ p0 = 6 ∨ p0 = 7 ∨ p0 = 8 ∨ p0 = 9 ∨ p0 = 10 ∨ p0 = 11 ∨ p0 = 12 ∨ (p0 < 0 ∨ 12 < p0) by omega) with c1 | c1 | c1 | c1 | c1 | c1 | c1 | c1 | c1 | c1 | c1 | c1 | c1 | c1
  · have h := h.1 c1
    refine v_tabIn (pc := 6) (tgt := 72) dX12_count_6 (by omega) (by omega) (by rw [c1] <;> rfl) (by decide) ?_
    refine v_aload_n (pc := 72) dX12_count_72 0 rfl ?_
    refine m_getfin (pc := 73) (v := 605) hE dX12_count_73 flX12_13 rfl at603 rfl ?_
    refine v_bipush (pc := 76) dX12_count_76 (by decide) ?_
    refine m_iald (pc := 78) (v := (mem 605 7)) dX12_count_78 at605 (by omega) (by omega) (aUp_rn (by omega)) ?_
    exact m_retI (pc := 79) dX12_count_79 rfl h
  · have h := h.2.1 c1
    refine v_tabIn (pc := 6) (tgt := 80) dX12_count_6 (by omega) (by omega) (by rw [c1] <;> rfl) (by decide) ?_
    refine v_aload_n (pc := 80) dX12_count_80 0 rfl ?_
    refine v_iconst (pc := 81) dX12_count_81 (by decide) ?_
    refine m_invI (pc := 82) (mi' := mX12_cellsOf) (rest := []) [aI 0] dX12_count_82 at603 (by decide) rfl msX12_cellsOf mvX12_cellsOf lkX12_552 rfl (Nat.le_of_ble_eq_true rfl) (fun hn => CI_mono (h) (fun r2 m1 h => ?_))
    exact m_retI (pc := 85) dX12_count_85 rfl h
  · have h := h.2.2.1 c1
    refine v_tabIn (pc := 6) (tgt := 86) dX12_count_6 (by omega) (by omega) (by rw [c1] <;> rfl) (by decide) ?_
    refine v_aload_n (pc := 86) dX12_count_86 0 rfl ?_
    refine v_iconst (pc := 87) dX12_count_87 (by decide) ?_
    refine m_invI (pc := 88) (mi' := mX12_cellsOf) (rest := []) [aI 1] dX12_count_88 at603 (by decide) rfl msX12_cellsOf mvX12_cellsOf lkX12_552 rfl (Nat.le_of_ble_eq_true rfl) (fun hn => CI_mono (h) (fun r4 m3 h => ?_))
    exact m_retI (pc := 91) dX12_count_91 rfl h
  · have h := h.2.2.2.1 c1
    refine v_tabIn (pc := 6) (tgt := 92) dX12_count_6 (by omega) (by omega) (by rw [c1] <;> rfl) (by decide) ?_
    refine v_aload_n (pc := 92) dX12_count_92 0 rfl ?_
    refine m_getfin (pc := 93) (v := 605) hE dX12_count_93 flX12_13 rfl at603 rfl ?_
    refine v_iconst (pc := 96) dX12_count_96 (by decide) ?_
    refine m_iald (pc := 97) (v := (mem 605 0)) dX12_count_97 at605 (by omega) (by omega) (aUp_rn (by omega)) ?_
    exact m_retI (pc := 98) dX12_count_98 rfl h
  · have h := h.2.2.2.2.1 c1
    refine v_tabIn (pc := 6) (tgt := 99) dX12_count_6 (by omega) (by omega) (by rw [c1] <;> rfl) (by decide) ?_
    refine v_aload_n (pc := 99) dX12_count_99 0 rfl ?_
    refine m_getfin (pc := 100) (v := 605) hE dX12_count_100 flX12_13 rfl at603 rfl ?_
    refine v_iconst (pc := 103) dX12_count_103 (by decide) ?_
    refine m_iald (pc := 104) (v := (mem 605 1)) dX12_count_104 at605 (by omega) (by omega) (aUp_rn (by omega)) ?_
    exact m_retI (pc := 105) dX12_count_105 rfl h
  · have h := h.2.2.2.2.2.1 c1
    refine v_tabIn (pc := 6) (tgt := 106) dX12_count_6 (by omega) (by omega) (by rw [c1] <;> rfl) (by decide) ?_
    refine v_aload_n (pc := 106) dX12_count_106 0 rfl ?_
    refine m_getf (pc := 107) (t := 0) (v := (mem 603 8)) dX12_count_107 flX12_168 rfl at603 (aUp_ri (by decide)) ?_
    exact m_retI (pc := 110) dX12_count_110 rfl h
  · have h := h.2.2.2.2.2.2.1 c1
    refine v_tabIn (pc := 6) (tgt := 111) dX12_count_6 (by omega) (by omega) (by rw [c1] <;> rfl) (by decide) ?_
    refine v_aload_n (pc := 111) dX12_count_111 0 rfl ?_
    refine m_getf (pc := 112) (t := 0) (v := (mem 603 13)) dX12_count_112 flX12_229 rfl at603 (aUp_ri (by decide)) ?_
    exact m_retI (pc := 115) dX12_count_115 rfl h
  · have h := h.2.2.2.2.2.2.2.1 c1
    refine v_tabIn (pc := 6) (tgt := 116) dX12_count_6 (by omega) (by omega) (by rw [c1] <;> rfl) (by decide) ?_
    refine v_aload_n (pc := 116) dX12_count_116 0 rfl ?_
    refine m_getfin (pc := 117) (v := 604) hE dX12_count_117 flX12_7 rfl at603 rfl ?_
    refine v_iconst (pc := 120) dX12_count_120 (by decide) ?_
    refine m_iald (pc := 121) (v := (mem 604 1)) dX12_count_121 at604 (by omega) (by omega) (aUp_rn (by omega)) ?_
    exact m_retI (pc := 122) dX12_count_122 rfl h
  · have h := h.2.2.2.2.2.2.2.2.1 c1
    refine v_tabIn (pc := 6) (tgt := 123) dX12_count_6 (by omega) (by omega) (by rw [c1] <;> rfl) (by decide) ?_
    refine v_aload_n (pc := 123) dX12_count_123 0 rfl ?_
    refine m_getfin (pc := 124) (v := 604) hE dX12_count_124 flX12_7 rfl at603 rfl ?_
    refine v_iconst (pc := 127) dX12_count_127 (by decide) ?_
    refine m_iald (pc := 128) (v := (mem 604 2)) dX12_count_128 at604 (by omega) (by omega) (aUp_rn (by omega)) ?_
    exact m_retI (pc := 129) dX12_count_129 rfl h
  · have h := h.2.2.2.2.2.2.2.2.2.1 c1
    refine v_tabIn (pc := 6) (tgt := 130) dX12_count_6 (by omega) (by omega) (by rw [c1] <;> rfl) (by decide) ?_
    refine v_aload_n (pc := 130) dX12_count_130 0 rfl ?_
    refine m_getfin (pc := 131) (v := 604) hE dX12_count_131 flX12_7 rfl at603 rfl ?_
    refine v_iconst (pc := 134) dX12_count_134 (by decide) ?_
    refine m_iald (pc := 135) (v := (mem 604 3)) dX12_count_135 at604 (by omega) (by omega) (aUp_rn (by omega)) ?_
    exact m_retI (pc := 136) dX12_count_136 rfl h
  · have h := h.2.2.2.2.2.2.2.2.2.2.1 c1
    refine v_tabIn (pc := 6) (tgt := 137) dX12_count_6 (by omega) (by omega) (by rw [c1] <;> rfl) (by decide) ?_
    refine v_aload_n (pc := 137) dX12_count_137 0 rfl ?_
    refine m_getfin (pc := 138) (v := 604) hE dX12_count_138 flX12_7 rfl at603 rfl ?_
    refine v_iconst (pc := 141) dX12_count_141 (by decide) ?_
    refine m_iald (pc := 142) (v := (mem 604 5)) dX12_count_142 at604 (by omega) (by omega) (aUp_rn (by omega)) ?_
    exact m_retI (pc := 143) dX12_count_143 rfl h
  · have h := h.2.2.2.2.2.2.2.2.2.2.2.1 c1
    refine v_tabIn (pc := 6) (tgt := 144) dX12_count_6 (by omega) (by omega) (by rw [c1] <;> rfl) (by decide) ?_
    refine v_aload_n (pc := 144) dX12_count_144 0 rfl ?_
    refine m_getfin (pc := 145) (v := 604) hE dX12_count_145 flX12_7 rfl at603 rfl ?_
    refine v_bipush (pc := 148) dX12_count_148 (by decide) ?_
    refine m_iald (pc := 150) (v := (mem 604 6)) dX12_count_150 at604 (by omega) (by omega) (aUp_rn (by omega)) ?_
    exact m_retI (pc := 151) dX12_count_151 rfl h
  · have h := h.2.2.2.2.2.2.2.2.2.2.2.2.1 c1
    refine v_tabIn (pc := 6) (tgt := 152) dX12_count_6 (by omega) (by omega) (by rw [c1] <;> rfl) (by decide) ?_
    refine v_aload_n (pc := 152) dX12_count_152 0 rfl ?_
    refine m_getfin (pc := 153) (v := 605) hE dX12_count_153 flX12_13 rfl at603 rfl ?_
    refine v_iconst (pc := 156) dX12_count_156 (by decide) ?_
    refine m_iald (pc := 157) (v := (mem 605 2)) dX12_count_157 at605 (by omega) (by omega) (aUp_rn (by omega)) ?_
    exact m_retI (pc := 158) dX12_count_158 rfl h
  · have h := h.2.2.2.2.2.2.2.2.2.2.2.2.2 c1
    refine v_tabOut (pc := 6) (tgt := 159) dX12_count_6 c1 (by decide) ?_
    refine v_iload_n (pc := 159) dX12_count_159 1 rfl ?_
    refine v_i2l (pc := 160) dX12_count_160 ?_
    refine v_ldc2 (pc := 161) (n := 13) dX12_count_161 cnX12_555 (by decide) ?_
    refine v_ldc2 (pc := 164) (n := 16) dX12_count_164 cnX12_557 (by decide) ?_
    refine m_invSI (pc := 167) (mi' := mX12_in) (rest := []) [aL p0, aL 13, aL 16] dX12_count_167 msX12_in stX12_in lkX12_182 rfl (Nat.le_of_ble_eq_true rfl) (fun hn => CI_mono (h (aaL hn 0 rfl)) (fun r6 m5 h => ?_))
    refine v_ifeq (pc := 170) (tgt := 187) dX12_count_170 (by decide) (fun c1 => ?_) (fun c1 => ?_)
    · have h := h.1 c1
      refine v_iconst (pc := 187) dX12_count_187 (by decide) ?_
      exact m_retI (pc := 188) dX12_count_188 rfl h
    · have h := h.2 c1
      refine v_aload_n (pc := 173) dX12_count_173 0 rfl ?_
      refine m_getfin (pc := 174) (v := 605) hE dX12_count_174 flX12_13 rfl at603 rfl ?_
      refine v_iconst (pc := 177) dX12_count_177 (by decide) ?_
      refine v_iload_n (pc := 178) dX12_count_178 1 rfl ?_
      obtain ⟨o7, h⟩ := h
      refine m_iadd (pc := 179) dX12_count_179 o7 ?_
      refine v_bipush (pc := 180) dX12_count_180 (by decide) ?_
      obtain ⟨o8, h⟩ := h
      refine m_isub (pc := 182) dX12_count_182 o8 ?_
      obtain ⟨o9, h⟩ := h
      refine m_iald (pc := 183) (v := (m5 605 ((3 + p0) - 13))) dX12_count_183 at605 o9.1 o9.2 rfl ?_
      refine v_goto (pc := 184) (tgt := 188) dX12_count_184 (by decide) ?_
      exact m_retI (pc := 188) dX12_count_188 rfl h
theorem eX12_count {E : EN} {k : Nat} {mem : Mm} {Q : Int → Mm → Prop} {p0 : Int} (hr_p0 : R32 p0) (h : VM E mX12_count (k + 1) mem 0 [(0, aR 603), (1, aI p0)] [] (retI Q)) : CI E mX12_count (k + 1) mem [aR 603, aI p0] Q := CI_of rfl (Nat.le_of_ble_eq_true rfl) h (aNs_c (aNr_R _) (aNs_c (aNr_I hr_p0) (fun _ q => nomatch q)))

theorem dX12_status_0 : decode cX12_status 0 = .ok (.aload_n 0, 1) := by decide +kernel
theorem dX12_status_1 : decode cX12_status 1 = .ok (.iconst 0, 1) := by decide +kernel
theorem dX12_status_2 : decode cX12_status 2 = .ok (.putfield 162, 3) := by decide +kernel
theorem dX12_status_5 : decode cX12_status 5 = .ok (.aload_n 0, 1) := by decide +kernel
theorem dX12_status_6 : decode cX12_status 6 = .ok (.getfield 165, 3) := by decide +kernel
theorem dX12_status_9 : decode cX12_status 9 = .ok (.ireturn, 1) := by decide +kernel
set_option maxRecDepth 20000 in
theorem rX12_status_0 {E : EN} (hE : Ep E) {k : Nat} {mem : Mm} {Q : Int → Mm → Prop}
    (h : Q (mem 603 1) (aUp mem 603 0 0)) :
    VM E mX12_status k mem 0 [(0, aR 603)] [] (retI Q) := by
  refine v_aload_n (pc := 0) dX12_status_0 0 rfl ?_
  refine v_iconst (pc := 1) dX12_status_1 (by decide) ?_
  refine v_putf (pc := 2) dX12_status_2 flX12_162 ⟨_, _, rfl, Or.inl rfl⟩ rfl (by decide) (fun q => nomatch q) (Or.inl fun _ => rfl) at603 ?_
  refine v_aload_n (pc := 5) dX12_status_5 0 rfl ?_
  refine m_getf (pc := 6) (t := 0) (v := (mem 603 1)) dX12_status_6 flX12_165 rfl at603 (aUp_ri (by decide)) ?_
  exact m_retI (pc := 9) dX12_status_9 rfl h
theorem eX12_status {E : EN} {k : Nat} {mem : Mm} {Q : Int → Mm → Prop}  (h : VM E mX12_status k mem 0 [(0, aR 603)] [] (retI Q)) : CI E mX12_status k mem [aR 603] Q := CI_of rfl (Nat.le_of_ble_eq_true rfl) h (aNs_c (aNr_R _) (fun _ q => nomatch q))
