theorem dX4_fewestDays_0 : decode cX4_fewestDays 0 = .ok (.aload_n 0, 1) := by decide +kernel
theorem dX4_fewestDays_1 : decode cX4_fewestDays 1 = .ok (.aload_n 1, 1) := by decide +kernel
theorem dX4_fewestDays_2 : decode cX4_fewestDays 2 = .ok (.getfield 21, 3) := by decide +kernel
theorem dX4_fewestDays_5 : decode cX4_fewestDays 5 = .ok (.bipush 10, 2) := by decide +kernel
theorem dX4_fewestDays_7 : decode cX4_fewestDays 7 = .ok (.invokestatic 27, 3) := by decide +kernel
theorem dX4_fewestDays_10 : decode cX4_fewestDays 10 = .ok (.putfield 33, 3) := by decide +kernel
theorem dX4_fewestDays_13 : decode cX4_fewestDays 13 = .ok (.aload_n 0, 1) := by decide +kernel
theorem dX4_fewestDays_14 : decode cX4_fewestDays 14 = .ok (.aload_n 1, 1) := by decide +kernel
theorem dX4_fewestDays_15 : decode cX4_fewestDays 15 = .ok (.getfield 34, 3) := by decide +kernel
theorem dX4_fewestDays_18 : decode cX4_fewestDays 18 = .ok (.iconst 1, 1) := by decide +kernel
theorem dX4_fewestDays_19 : decode cX4_fewestDays 19 = .ok (.iaload, 1) := by decide +kernel
theorem dX4_fewestDays_20 : decode cX4_fewestDays 20 = .ok (.putfield 37, 3) := by decide +kernel
theorem dX4_fewestDays_23 : decode cX4_fewestDays 23 = .ok (.iconst 0, 1) := by decide +kernel
theorem dX4_fewestDays_24 : decode cX4_fewestDays 24 = .ok (.istore_n 2, 1) := by decide +kernel
theorem dX4_fewestDays_25 : decode cX4_fewestDays 25 = .ok (.iload_n 2, 1) := by decide +kernel
theorem dX4_fewestDays_26 : decode cX4_fewestDays 26 = .ok (.aload_n 0, 1) := by decide +kernel
theorem dX4_fewestDays_27 : decode cX4_fewestDays 27 = .ok (.getfield 33, 3) := by decide +kernel
theorem dX4_fewestDays_30 : decode cX4_fewestDays 30 = .ok (.if_icmp .ge 35, 3) := by decide +kernel
theorem dX4_fewestDays_33 : decode cX4_fewestDays 33 = .ok (.aload_n 0, 1) := by decide +kernel
theorem dX4_fewestDays_34 : decode cX4_fewestDays 34 = .ok (.getfield 9, 3) := by decide +kernel
theorem dX4_fewestDays_37 : decode cX4_fewestDays 37 = .ok (.iload_n 2, 1) := by decide +kernel
theorem dX4_fewestDays_38 : decode cX4_fewestDays 38 = .ok (.aload_n 1, 1) := by decide +kernel
theorem dX4_fewestDays_39 : decode cX4_fewestDays 39 = .ok (.iload_n 2, 1) := by decide +kernel
theorem dX4_fewestDays_40 : decode cX4_fewestDays 40 = .ok (.invokevirtual 40, 3) := by decide +kernel
theorem dX4_fewestDays_43 : decode cX4_fewestDays 43 = .ok (.iastore, 1) := by decide +kernel
theorem dX4_fewestDays_44 : decode cX4_fewestDays 44 = .ok (.aload_n 0, 1) := by decide +kernel
theorem dX4_fewestDays_45 : decode cX4_fewestDays 45 = .ok (.getfield 9, 3) := by decide +kernel
theorem dX4_fewestDays_48 : decode cX4_fewestDays 48 = .ok (.iload_n 2, 1) := by decide +kernel
theorem dX4_fewestDays_49 : decode cX4_fewestDays 49 = .ok (.iaload, 1) := by decide +kernel
theorem dX4_fewestDays_50 : decode cX4_fewestDays 50 = .ok (.aload_n 0, 1) := by decide +kernel
theorem dX4_fewestDays_51 : decode cX4_fewestDays 51 = .ok (.getfield 37, 3) := by decide +kernel
theorem dX4_fewestDays_54 : decode cX4_fewestDays 54 = .ok (.if_icmp .le 5, 3) := by decide +kernel
theorem dX4_fewestDays_57 : decode cX4_fewestDays 57 = .ok (.iconst (-1), 1) := by decide +kernel
theorem dX4_fewestDays_58 : decode cX4_fewestDays 58 = .ok (.ireturn, 1) := by decide +kernel
theorem dX4_fewestDays_59 : decode cX4_fewestDays 59 = .ok (.iinc 2 1, 3) := by decide +kernel
theorem dX4_fewestDays_62 : decode cX4_fewestDays 62 = .ok (.goto (-37), 3) := by decide +kernel
theorem dX4_fewestDays_65 : decode cX4_fewestDays 65 = .ok (.iconst 0, 1) := by decide +kernel
theorem dX4_fewestDays_66 : decode cX4_fewestDays 66 = .ok (.istore_n 2, 1) := by decide +kernel
theorem dX4_fewestDays_67 : decode cX4_fewestDays 67 = .ok (.iload_n 2, 1) := by decide +kernel
theorem dX4_fewestDays_68 : decode cX4_fewestDays 68 = .ok (.aload_n 0, 1) := by decide +kernel
theorem dX4_fewestDays_69 : decode cX4_fewestDays 69 = .ok (.getfield 33, 3) := by decide +kernel
theorem dX4_fewestDays_72 : decode cX4_fewestDays 72 = .ok (.if_icmp .gt 41, 3) := by decide +kernel
theorem dX4_fewestDays_75 : decode cX4_fewestDays 75 = .ok (.iconst 0, 1) := by decide +kernel
theorem dX4_fewestDays_76 : decode cX4_fewestDays 76 = .ok (.istore_n 3, 1) := by decide +kernel
theorem dX4_fewestDays_77 : decode cX4_fewestDays 77 = .ok (.iload_n 3, 1) := by decide +kernel
theorem dX4_fewestDays_78 : decode cX4_fewestDays 78 = .ok (.bipush 10, 2) := by decide +kernel
theorem dX4_fewestDays_80 : decode cX4_fewestDays 80 = .ok (.if_icmp .ge 16, 3) := by decide +kernel
theorem dX4_fewestDays_83 : decode cX4_fewestDays 83 = .ok (.aload_n 0, 1) := by decide +kernel
theorem dX4_fewestDays_84 : decode cX4_fewestDays 84 = .ok (.getfield 15, 3) := by decide +kernel
theorem dX4_fewestDays_87 : decode cX4_fewestDays 87 = .ok (.iload_n 3, 1) := by decide +kernel
theorem dX4_fewestDays_88 : decode cX4_fewestDays 88 = .ok (.iconst 0, 1) := by decide +kernel
theorem dX4_fewestDays_89 : decode cX4_fewestDays 89 = .ok (.iastore, 1) := by decide +kernel
theorem dX4_fewestDays_90 : decode cX4_fewestDays 90 = .ok (.iinc 3 1, 3) := by decide +kernel
theorem dX4_fewestDays_93 : decode cX4_fewestDays 93 = .ok (.goto (-16), 3) := by decide +kernel
theorem dX4_fewestDays_96 : decode cX4_fewestDays 96 = .ok (.aload_n 0, 1) := by decide +kernel
theorem dX4_fewestDays_97 : decode cX4_fewestDays 97 = .ok (.iconst 0, 1) := by decide +kernel
theorem dX4_fewestDays_98 : decode cX4_fewestDays 98 = .ok (.iload_n 2, 1) := by decide +kernel
theorem dX4_fewestDays_99 : decode cX4_fewestDays 99 = .ok (.invokevirtual 44, 3) := by decide +kernel
theorem dX4_fewestDays_102 : decode cX4_fewestDays 102 = .ok (.ifCond .eq 5, 3) := by decide +kernel
theorem dX4_fewestDays_105 : decode cX4_fewestDays 105 = .ok (.iload_n 2, 1) := by decide +kernel
theorem dX4_fewestDays_106 : decode cX4_fewestDays 106 = .ok (.ireturn, 1) := by decide +kernel
theorem dX4_fewestDays_107 : decode cX4_fewestDays 107 = .ok (.iinc 2 1, 3) := by decide +kernel
theorem dX4_fewestDays_110 : decode cX4_fewestDays 110 = .ok (.goto (-43), 3) := by decide +kernel
theorem dX4_fewestDays_113 : decode cX4_fewestDays 113 = .ok (.iconst (-1), 1) := by decide +kernel
theorem dX4_fewestDays_114 : decode cX4_fewestDays 114 = .ok (.ireturn, 1) := by decide +kernel
set_option maxRecDepth 20000 in
theorem rX4_fewestDays_0 {E : EN} (hE : Ep E) {k : Nat} {mem : Mm} {Q : Int → Mm → Prop} {p0 : Int} (hp0 : isYd p0)
    (h : VM E mX4_fewestDays (k + 1) (aUp (aUp mem 576 3 (min (mem p0 10) 10)) 576 4 ((aUp mem 576 3 (min (mem p0 10) 10)) (p0 + 8) 1)) 25 [(0, aR 576), (1, aR p0), (2, aI 0)] [] (retI Q)) :
    VM E mX4_fewestDays (k + 1) mem 0 [(0, aR 576), (1, aR p0)] [] (retI Q) := by
  refine v_aload_n (pc := 0) dX4_fewestDays_0 0 rfl ?_
  refine v_aload_n (pc := 1) dX4_fewestDays_1 1 rfl ?_
  refine m_getf (pc := 2) (t := 0) (v := (mem p0 10)) dX4_fewestDays_2 flX4_21 rfl (yd0 hp0) rfl ?_
  refine v_bipush (pc := 5) dX4_fewestDays_5 (by decide) ?_
  refine m_mmin (pc := 7) dX4_fewestDays_7 lmX4_27 sM_min iM cM_min (Nat.le_of_ble_eq_true rfl) ?_
  refine v_putf (pc := 10) dX4_fewestDays_10 flX4_33 ⟨_, _, rfl, Or.inl rfl⟩ rfl (by decide) (fun q => nomatch q) (Or.inl fun _ => rfl) at576 ?_
  refine v_aload_n (pc := 13) dX4_fewestDays_13 0 rfl ?_
  refine v_aload_n (pc := 14) dX4_fewestDays_14 1 rfl ?_
  refine m_getfin (pc := 15) (v := (p0 + 8)) hE dX4_fewestDays_15 flX4_34 rfl (yd0 hp0) rfl ?_
  refine v_iconst (pc := 18) dX4_fewestDays_18 (by decide) ?_
  refine m_iald (pc := 19) (v := ((aUp mem 576 3 (min (mem p0 10) 10)) (p0 + 8) 1)) dX4_fewestDays_19 (yd8 hp0) (by omega) (by omega) rfl ?_
  refine v_putf (pc := 20) dX4_fewestDays_20 flX4_37 ⟨_, _, rfl, Or.inl rfl⟩ rfl (by decide) (fun q => nomatch q) (Or.inl fun _ => rfl) at576 ?_
  refine v_iconst (pc := 23) dX4_fewestDays_23 (by decide) ?_
  refine v_istore_n (pc := 24) (al2 := [(2, aI 0), (0, aR 576), (1, aR p0)]) dX4_fewestDays_24 (by decide) rfl ?_
  exact VG_sub (al' := [(0, aR 576), (1, aR p0), (2, aI 0)]) [1, 2, 0] rfl h
theorem eX4_fewestDays {E : EN} {k : Nat} {mem : Mm} {Q : Int → Mm → Prop} {p0 : Int}  (h : VM E mX4_fewestDays (k + 1) mem 0 [(0, aR 576), (1, aR p0)] [] (retI Q)) : CI E mX4_fewestDays (k + 1) mem [aR 576, aR p0] Q := CI_of rfl (Nat.le_of_ble_eq_true rfl) h (aNs_c (aNr_R _) (aNs_c (aNr_R _) (fun _ q => nomatch q)))
set_option maxRecDepth 20000 in
theorem rX4_fewestDays_25 {E : EN} (hE : Ep E) {k : Nat} {mem : Mm} {Q : Int → Mm → Prop} {p0 x2 : Int} (hp0 : isYd p0)
    (h : (((mem 576 3) ≤ x2 → VM E mX4_fewestDays (k + 1) mem 67 [(0, aR 576), (2, aI 0)] [] (retI Q)) ∧ (x2 < (mem 576 3) → (R32 x2 → CI E mX10_digsOf k mem [aR p0, aI x2] (fun r2 m1 => (0 ≤ x2 ∧ x2 < 10) ∧ ((r2 ≤ (m1 576 4) → (R32 (x2 + 1)) ∧ VM E mX4_fewestDays (k + 1) (aUp m1 577 x2 r2) 25 [(0, aR 576), (1, aR p0), (2, aI (x2 + 1))] [] (retI Q)) ∧ ((m1 576 4) < r2 → Q (-1) (aUp m1 577 x2 r2)))))))) :
    VM E mX4_fewestDays (k + 1) mem 25 [(0, aR 576), (1, aR p0), (2, aI x2)] [] (retI Q) := by
  refine v_iload_n (pc := 25) dX4_fewestDays_25 2 rfl ?_
  refine v_aload_n (pc := 26) dX4_fewestDays_26 0 rfl ?_
  refine m_getf (pc := 27) (t := 0) (v := (mem 576 3)) dX4_fewestDays_27 flX4_33 rfl at576 rfl ?_
  refine v_icmpge (pc := 30) (tgt := 65) dX4_fewestDays_30 (by decide) (fun c1 => ?_) (fun c1 => ?_)
  · have h := h.1 c1
    refine v_iconst (pc := 65) dX4_fewestDays_65 (by decide) ?_
    refine v_istore_n (pc := 66) (al2 := [(2, aI 0), (0, aR 576), (1, aR p0)]) dX4_fewestDays_66 (by decide) rfl ?_
    exact VG_sub (al' := [(0, aR 576), (2, aI 0)]) [1, 0] rfl h
  · have h := h.2 c1
    refine v_aload_n (pc := 33) dX4_fewestDays_33 0 rfl ?_
    refine m_getfin (pc := 34) (v := 577) hE dX4_fewestDays_34 flX4_9 rfl at576 rfl ?_
    refine v_iload_n (pc := 37) dX4_fewestDays_37 2 rfl ?_
    refine v_aload_n (pc := 38) dX4_fewestDays_38 1 rfl ?_
    refine v_iload_n (pc := 39) dX4_fewestDays_39 2 rfl ?_
    refine m_invI (pc := 40) (mi' := mX10_digsOf) (rest := [aI x2, aR 577]) [aI x2] dX4_fewestDays_40 (yd0 hp0) (by decide) rfl msX10_digsOf mvX10_digsOf lkX4_40 rfl (Nat.le_of_ble_eq_true rfl) (fun hn => CI_mono (h (aaI hn 1 rfl)) (fun r2 m1 h => ?_))
    obtain ⟨o3, h⟩ := h
    refine v_iast (pc := 43) dX4_fewestDays_43 at577 o3.1 o3.2 ?_
    refine v_aload_n (pc := 44) dX4_fewestDays_44 0 rfl ?_
    refine m_getfin (pc := 45) (v := 577) hE dX4_fewestDays_45 flX4_9 rfl at576 rfl ?_
    refine v_iload_n (pc := 48) dX4_fewestDays_48 2 rfl ?_
    refine m_iald (pc := 49) (v := r2) dX4_fewestDays_49 at577 o3.1 o3.2 (aUp_re) ?_
    refine v_aload_n (pc := 50) dX4_fewestDays_50 0 rfl ?_
    refine m_getf (pc := 51) (t := 0) (v := (m1 576 4)) dX4_fewestDays_51 flX4_37 rfl at576 (aUp_rn (by omega)) ?_
    refine v_icmple (pc := 54) (tgt := 59) dX4_fewestDays_54 (by decide) (fun c1 => ?_) (fun c1 => ?_)
    · have h := h.1 c1
      obtain ⟨o4, h⟩ := h
      refine m_iinc (pc := 59) (al2 := [(2, aI (x2 + 1)), (0, aR 576), (1, aR p0)]) dX4_fewestDays_59 2 rfl (by decide) o4 rfl ?_
      refine v_goto (pc := 62) (tgt := 25) dX4_fewestDays_62 (by decide) ?_
      exact VG_sub (al' := [(0, aR 576), (1, aR p0), (2, aI (x2 + 1))]) [1, 2, 0] rfl h
    · have h := h.2 c1
      refine v_iconst (pc := 57) dX4_fewestDays_57 (by decide) ?_
      exact m_retI (pc := 58) dX4_fewestDays_58 rfl h
set_option maxRecDepth 20000 in
theorem rX4_fewestDays_67 {E : EN} (hE : Ep E) {k : Nat} {mem : Mm} {Q : Int → Mm → Prop} {p0 x2 : Int} (hp0 : isYd p0)
    (h : (((mem 576 3) < x2 → Q (-1) mem) ∧ (x2 ≤ (mem 576 3) → VM E mX4_fewestDays (k + 1) mem 77 [(0, aR 576), (2, aI x2), (3, aI 0)] [] (retI Q)))) :
    VM E mX4_fewestDays (k + 1) mem 67 [(0, aR 576), (2, aI x2)] [] (retI Q) := by
  refine v_iload_n (pc := 67) dX4_fewestDays_67 1 rfl ?_
  refine v_aload_n (pc := 68) dX4_fewestDays_68 0 rfl ?_
  refine m_getf (pc := 69) (t := 0) (v := (mem 576 3)) dX4_fewestDays_69 flX4_33 rfl at576 rfl ?_
  refine v_icmpgt (pc := 72) (tgt := 113) dX4_fewestDays_72 (by decide) (fun c1 => ?_) (fun c1 => ?_)
  · have h := h.1 c1
    refine v_iconst (pc := 113) dX4_fewestDays_113 (by decide) ?_
    exact m_retI (pc := 114) dX4_fewestDays_114 rfl h
  · have h := h.2 c1
    refine v_iconst (pc := 75) dX4_fewestDays_75 (by decide) ?_
    refine v_istore_n (pc := 76) (al2 := [(3, aI 0), (0, aR 576), (2, aI x2)]) dX4_fewestDays_76 (by decide) rfl ?_
    exact VG_sub (al' := [(0, aR 576), (2, aI x2), (3, aI 0)]) [1, 2, 0] rfl h
set_option maxRecDepth 20000 in
theorem rX4_fewestDays_77 {E : EN} (hE : Ep E) {k : Nat} {mem : Mm} {Q : Int → Mm → Prop} {p0 x2 x3 : Int} (hp0 : isYd p0)
    (h : ((10 ≤ x3 → (R32 x2 → CI E mX4_fits k mem [aR 576, aI 0, aI x2] (fun r2 m1 => ((r2 = 0 → (R32 (x2 + 1)) ∧ VM E mX4_fewestDays (k + 1) m1 67 [(0, aR 576), (2, aI (x2 + 1))] [] (retI Q)) ∧ (¬ r2 = 0 → Q x2 m1))))) ∧ (x3 < 10 → (0 ≤ x3 ∧ x3 < 10) ∧ (R32 (x3 + 1)) ∧ VM E mX4_fewestDays (k + 1) (aUp mem 578 x3 0) 77 [(0, aR 576), (2, aI x2), (3, aI (x3 + 1))] [] (retI Q)))) :
    VM E mX4_fewestDays (k + 1) mem 77 [(0, aR 576), (2, aI x2), (3, aI x3)] [] (retI Q) := by
  refine v_iload_n (pc := 77) dX4_fewestDays_77 2 rfl ?_
  refine v_bipush (pc := 78) dX4_fewestDays_78 (by decide) ?_
  refine v_icmpge (pc := 80) (tgt := 96) dX4_fewestDays_80 (by decide) (fun c1 => ?_) (fun c1 => ?_)
  · have h := h.1 c1
    refine v_aload_n (pc := 96) dX4_fewestDays_96 0 rfl ?_
    refine v_iconst (pc := 97) dX4_fewestDays_97 (by decide) ?_
    refine v_iload_n (pc := 98) dX4_fewestDays_98 1 rfl ?_
    refine m_invI (pc := 99) (mi' := mX4_fits) (rest := []) [aI 0, aI x2] dX4_fewestDays_99 at576 (by decide) rfl msX4_fits mvX4_fits lkX4_44 rfl (Nat.le_of_ble_eq_true rfl) (fun hn => CI_mono (h (aaI hn 2 rfl)) (fun r2 m1 h => ?_))
    refine v_ifeq (pc := 102) (tgt := 107) dX4_fewestDays_102 (by decide) (fun c1 => ?_) (fun c1 => ?_)
    · have h := h.1 c1
      obtain ⟨o3, h⟩ := h
      refine m_iinc (pc := 107) (al2 := [(2, aI (x2 + 1)), (0, aR 576), (3, aI x3)]) dX4_fewestDays_107 1 rfl (by decide) o3 rfl ?_
      refine v_goto (pc := 110) (tgt := 67) dX4_fewestDays_110 (by decide) ?_
      exact VG_sub (al' := [(0, aR 576), (2, aI (x2 + 1))]) [1, 0] rfl h
    · have h := h.2 c1
      refine v_iload_n (pc := 105) dX4_fewestDays_105 1 rfl ?_
      exact m_retI (pc := 106) dX4_fewestDays_106 rfl h
  · have h := h.2 c1
    refine v_aload_n (pc := 83) dX4_fewestDays_83 0 rfl ?_
    refine m_getfin (pc := 84) (v := 578) hE dX4_fewestDays_84 flX4_15 rfl at576 rfl ?_
    refine v_iload_n (pc := 87) dX4_fewestDays_87 2 rfl ?_
    refine v_iconst (pc := 88) dX4_fewestDays_88 (by decide) ?_
    obtain ⟨o4, h⟩ := h
    refine v_iast (pc := 89) dX4_fewestDays_89 at578 o4.1 o4.2 ?_
    obtain ⟨o5, h⟩ := h
    refine m_iinc (pc := 90) (al2 := [(3, aI (x3 + 1)), (0, aR 576), (2, aI x2)]) dX4_fewestDays_90 2 rfl (by decide) o5 rfl ?_
    refine v_goto (pc := 93) (tgt := 77) dX4_fewestDays_93 (by decide) ?_
    exact VG_sub (al' := [(0, aR 576), (2, aI x2), (3, aI (x3 + 1))]) [1, 2, 0] rfl h

theorem dX4_fits_0 : decode cX4_fits 0 = .ok (.iload_n 1, 1) := by decide +kernel
theorem dX4_fits_1 : decode cX4_fits 1 = .ok (.ifCond .lt 17, 3) := by decide +kernel
theorem dX4_fits_4 : decode cX4_fits 4 = .ok (.iload_n 1, 1) := by decide +kernel
theorem dX4_fits_5 : decode cX4_fits 5 = .ok (.aload_n 0, 1) := by decide +kernel
theorem dX4_fits_6 : decode cX4_fits 6 = .ok (.getfield 33, 3) := by decide +kernel
theorem dX4_fits_9 : decode cX4_fits 9 = .ok (.if_icmp .ge 9, 3) := by decide +kernel
theorem dX4_fits_12 : decode cX4_fits 12 = .ok (.iload_n 1, 1) := by decide +kernel
theorem dX4_fits_13 : decode cX4_fits 13 = .ok (.bipush 10, 2) := by decide +kernel
theorem dX4_fits_15 : decode cX4_fits 15 = .ok (.if_icmp .lt 5, 3) := by decide +kernel
theorem dX4_fits_18 : decode cX4_fits 18 = .ok (.iconst 1, 1) := by decide +kernel
theorem dX4_fits_19 : decode cX4_fits 19 = .ok (.ireturn, 1) := by decide +kernel
theorem dX4_fits_20 : decode cX4_fits 20 = .ok (.iconst 0, 1) := by decide +kernel
theorem dX4_fits_21 : decode cX4_fits 21 = .ok (.istore_n 3, 1) := by decide +kernel
theorem dX4_fits_22 : decode cX4_fits 22 = .ok (.iload_n 3, 1) := by decide +kernel
theorem dX4_fits_23 : decode cX4_fits 23 = .ok (.iload_n 2, 1) := by decide +kernel
theorem dX4_fits_24 : decode cX4_fits 24 = .ok (.if_icmp .ge 108, 3) := by decide +kernel
theorem dX4_fits_27 : decode cX4_fits 27 = .ok (.iload_n 3, 1) := by decide +kernel
theorem dX4_fits_28 : decode cX4_fits 28 = .ok (.bipush 10, 2) := by decide +kernel
theorem dX4_fits_30 : decode cX4_fits 30 = .ok (.if_icmp .ge 102, 3) := by decide +kernel
theorem dX4_fits_33 : decode cX4_fits 33 = .ok (.aload_n 0, 1) := by decide +kernel
theorem dX4_fits_34 : decode cX4_fits 34 = .ok (.getfield 15, 3) := by decide +kernel
theorem dX4_fits_37 : decode cX4_fits 37 = .ok (.iload_n 3, 1) := by decide +kernel
theorem dX4_fits_38 : decode cX4_fits 38 = .ok (.iaload, 1) := by decide +kernel
theorem dX4_fits_39 : decode cX4_fits 39 = .ok (.ifCond .ne 7, 3) := by decide +kernel
theorem dX4_fits_42 : decode cX4_fits 42 = .ok (.iconst 1, 1) := by decide +kernel
theorem dX4_fits_43 : decode cX4_fits 43 = .ok (.goto 4, 3) := by decide +kernel
theorem dX4_fits_46 : decode cX4_fits 46 = .ok (.iconst 0, 1) := by decide +kernel
theorem dX4_fits_47 : decode cX4_fits 47 = .ok (.istore 4, 2) := by decide +kernel
theorem dX4_fits_49 : decode cX4_fits 49 = .ok (.aload_n 0, 1) := by decide +kernel
theorem dX4_fits_50 : decode cX4_fits 50 = .ok (.getfield 15, 3) := by decide +kernel
theorem dX4_fits_53 : decode cX4_fits 53 = .ok (.iload_n 3, 1) := by decide +kernel
theorem dX4_fits_54 : decode cX4_fits 54 = .ok (.iaload, 1) := by decide +kernel
theorem dX4_fits_55 : decode cX4_fits 55 = .ok (.aload_n 0, 1) := by decide +kernel
theorem dX4_fits_56 : decode cX4_fits 56 = .ok (.getfield 9, 3) := by decide +kernel
theorem dX4_fits_59 : decode cX4_fits 59 = .ok (.iload_n 1, 1) := by decide +kernel
theorem dX4_fits_60 : decode cX4_fits 60 = .ok (.iaload, 1) := by decide +kernel
theorem dX4_fits_61 : decode cX4_fits 61 = .ok (.iadd, 1) := by decide +kernel
theorem dX4_fits_62 : decode cX4_fits 62 = .ok (.aload_n 0, 1) := by decide +kernel
theorem dX4_fits_63 : decode cX4_fits 63 = .ok (.getfield 37, 3) := by decide +kernel
theorem dX4_fits_66 : decode cX4_fits 66 = .ok (.if_icmp .gt 53, 3) := by decide +kernel
theorem dX4_fits_69 : decode cX4_fits 69 = .ok (.aload_n 0, 1) := by decide +kernel
theorem dX4_fits_70 : decode cX4_fits 70 = .ok (.getfield 15, 3) := by decide +kernel
theorem dX4_fits_73 : decode cX4_fits 73 = .ok (.iload_n 3, 1) := by decide +kernel
theorem dX4_fits_74 : decode cX4_fits 74 = .ok (.dup2, 1) := by decide +kernel
theorem dX4_fits_75 : decode cX4_fits 75 = .ok (.iaload, 1) := by decide +kernel
theorem dX4_fits_76 : decode cX4_fits 76 = .ok (.aload_n 0, 1) := by decide +kernel
theorem dX4_fits_77 : decode cX4_fits 77 = .ok (.getfield 9, 3) := by decide +kernel
theorem dX4_fits_80 : decode cX4_fits 80 = .ok (.iload_n 1, 1) := by decide +kernel
theorem dX4_fits_81 : decode cX4_fits 81 = .ok (.iaload, 1) := by decide +kernel
theorem dX4_fits_82 : decode cX4_fits 82 = .ok (.iadd, 1) := by decide +kernel
theorem dX4_fits_83 : decode cX4_fits 83 = .ok (.iastore, 1) := by decide +kernel
theorem dX4_fits_84 : decode cX4_fits 84 = .ok (.aload_n 0, 1) := by decide +kernel
theorem dX4_fits_85 : decode cX4_fits 85 = .ok (.getfield 18, 3) := by decide +kernel
theorem dX4_fits_88 : decode cX4_fits 88 = .ok (.iload_n 1, 1) := by decide +kernel
theorem dX4_fits_89 : decode cX4_fits 89 = .ok (.iload_n 3, 1) := by decide +kernel
theorem dX4_fits_90 : decode cX4_fits 90 = .ok (.iastore, 1) := by decide +kernel
theorem dX4_fits_91 : decode cX4_fits 91 = .ok (.aload_n 0, 1) := by decide +kernel
theorem dX4_fits_92 : decode cX4_fits 92 = .ok (.iload_n 1, 1) := by decide +kernel
theorem dX4_fits_93 : decode cX4_fits 93 = .ok (.iconst 1, 1) := by decide +kernel
theorem dX4_fits_94 : decode cX4_fits 94 = .ok (.iadd, 1) := by decide +kernel
theorem dX4_fits_95 : decode cX4_fits 95 = .ok (.iload_n 2, 1) := by decide +kernel
theorem dX4_fits_96 : decode cX4_fits 96 = .ok (.invokevirtual 44, 3) := by decide +kernel
theorem dX4_fits_99 : decode cX4_fits 99 = .ok (.ifCond .eq 5, 3) := by decide +kernel
theorem dX4_fits_102 : decode cX4_fits 102 = .ok (.iconst 1, 1) := by decide +kernel
theorem dX4_fits_103 : decode cX4_fits 103 = .ok (.ireturn, 1) := by decide +kernel
theorem dX4_fits_104 : decode cX4_fits 104 = .ok (.aload_n 0, 1) := by decide +kernel
theorem dX4_fits_105 : decode cX4_fits 105 = .ok (.getfield 15, 3) := by decide +kernel
theorem dX4_fits_108 : decode cX4_fits 108 = .ok (.iload_n 3, 1) := by decide +kernel
theorem dX4_fits_109 : decode cX4_fits 109 = .ok (.dup2, 1) := by decide +kernel
theorem dX4_fits_110 : decode cX4_fits 110 = .ok (.iaload, 1) := by decide +kernel
theorem dX4_fits_111 : decode cX4_fits 111 = .ok (.aload_n 0, 1) := by decide +kernel
theorem dX4_fits_112 : decode cX4_fits 112 = .ok (.getfield 9, 3) := by decide +kernel
theorem dX4_fits_115 : decode cX4_fits 115 = .ok (.iload_n 1, 1) := by decide +kernel
theorem dX4_fits_116 : decode cX4_fits 116 = .ok (.iaload, 1) := by decide +kernel
theorem dX4_fits_117 : decode cX4_fits 117 = .ok (.isub, 1) := by decide +kernel
theorem dX4_fits_118 : decode cX4_fits 118 = .ok (.iastore, 1) := by decide +kernel
theorem dX4_fits_119 : decode cX4_fits 119 = .ok (.iload 4, 2) := by decide +kernel
theorem dX4_fits_121 : decode cX4_fits 121 = .ok (.ifCond .eq 5, 3) := by decide +kernel
theorem dX4_fits_124 : decode cX4_fits 124 = .ok (.iconst 0, 1) := by decide +kernel
theorem dX4_fits_125 : decode cX4_fits 125 = .ok (.ireturn, 1) := by decide +kernel
theorem dX4_fits_126 : decode cX4_fits 126 = .ok (.iinc 3 1, 3) := by decide +kernel
theorem dX4_fits_129 : decode cX4_fits 129 = .ok (.goto (-107), 3) := by decide +kernel
theorem dX4_fits_132 : decode cX4_fits 132 = .ok (.iconst 0, 1) := by decide +kernel
theorem dX4_fits_133 : decode cX4_fits 133 = .ok (.ireturn, 1) := by decide +kernel
set_option maxRecDepth 20000 in
theorem rX4_fits_0 {E : EN} (hE : Ep E) {k : Nat} {mem : Mm} {Q : Int → Mm → Prop} {p0 p1 : Int}
    (h : ((p0 < 0 → Q 1 mem) ∧ (0 ≤ p0 → (((mem 576 3) ≤ p0 → Q 1 mem) ∧ (p0 < (mem 576 3) → ((p0 < 10 → VM E mX4_fits (k + 1) mem 22 [(0, aR 576), (1, aI p0), (2, aI p1), (3, aI 0)] [] (retI Q)) ∧ (10 ≤ p0 → Q 1 mem))))))) :
    VM E mX4_fits (k + 1) mem 0 [(0, aR 576), (1, aI p0), (2, aI p1)] [] (retI Q) := by
  refine v_iload_n (pc := 0) dX4_fits_0 1 rfl ?_
  refine v_iflt (pc := 1) (tgt := 18) dX4_fits_1 (by decide) (fun c1 => ?_) (fun c1 => ?_)
  · have h := h.1 c1
    refine v_iconst (pc := 18) dX4_fits_18 (by decide) ?_
    exact m_retZ (pc := 19) dX4_fits_19 rfl (by decide) h
  · have h := h.2 c1
    refine v_iload_n (pc := 4) dX4_fits_4 1 rfl ?_
    refine v_aload_n (pc := 5) dX4_fits_5 0 rfl ?_
    refine m_getf (pc := 6) (t := 0) (v := (mem 576 3)) dX4_fits_6 flX4_33 rfl at576 rfl ?_
    refine v_icmpge (pc := 9) (tgt := 18) dX4_fits_9 (by decide) (fun c1 => ?_) (fun c1 => ?_)
    · have h := h.1 c1
      refine v_iconst (pc := 18) dX4_fits_18 (by decide) ?_
      exact m_retZ (pc := 19) dX4_fits_19 rfl (by decide) h
    · have h := h.2 c1
      refine v_iload_n (pc := 12) dX4_fits_12 1 rfl ?_
      refine v_bipush (pc := 13) dX4_fits_13 (by decide) ?_
      refine v_icmplt (pc := 15) (tgt := 20) dX4_fits_15 (by decide) (fun c1 => ?_) (fun c1 => ?_)
      · have h := h.1 c1
        refine v_iconst (pc := 20) dX4_fits_20 (by decide) ?_
        refine v_istore_n (pc := 21) (al2 := [(3, aI 0), (0, aR 576), (1, aI p0), (2, aI p1)]) dX4_fits_21 (by decide) rfl ?_
        exact VG_sub (al' := [(0, aR 576), (1, aI p0), (2, aI p1), (3, aI 0)]) [1, 2, 3, 0] rfl h
      · have h := h.2 c1
        refine v_iconst (pc := 18) dX4_fits_18 (by decide) ?_
        exact m_retZ (pc := 19) dX4_fits_19 rfl (by decide) h
theorem eX4_fits {E : EN} {k : Nat} {mem : Mm} {Q : Int → Mm → Prop} {p0 p1 : Int} (hr_p0 : R32 p0) (hr_p1 : R32 p1) (h : VM E mX4_fits (k + 1) mem 0 [(0, aR 576), (1, aI p0), (2, aI p1)] [] (retI Q)) : CI E mX4_fits (k + 1) mem [aR 576, aI p0, aI p1] Q := CI_of rfl (Nat.le_of_ble_eq_true rfl) h (aNs_c (aNr_R _) (aNs_c (aNr_I hr_p0) (aNs_c (aNr_I hr_p1) (fun _ q => nomatch q))))
set_option maxRecDepth 20000 in
theorem rX4_fits_22 {E : EN} (hE : Ep E) {k : Nat} {mem : Mm} {Q : Int → Mm → Prop} {p0 p1 x3 : Int}
    (h : ((p1 ≤ x3 → Q 0 mem) ∧ (x3 < p1 → ((10 ≤ x3 → Q 0 mem) ∧ (x3 < 10 → (0 ≤ x3 ∧ x3 < 10) ∧ ((¬ (mem 578 x3) = 0 → (0 ≤ p0 ∧ p0 < 10) ∧ (R32 ((mem 578 x3) + (mem 577 p0))) ∧ (((mem 576 4) < ((mem 578 x3) + (mem 577 p0)) → (R32 (x3 + 1)) ∧ VM E mX4_fits (k + 1) mem 22 [(0, aR 576), (1, aI p0), (2, aI p1), (3, aI (x3 + 1))] [] (retI Q)) ∧ (((mem 578 x3) + (mem 577 p0)) ≤ (mem 576 4) → (R32 (p0 + 1)) ∧ (R32 (p0 + 1) → R32 p1 → CI E mX4_fits k (aUp (aUp mem 578 x3 ((mem 578 x3) + (mem 577 p0))) 579 p0 x3) [aR 576, aI (p0 + 1), aI p1] (fun r7 m6 => ((r7 = 0 → (R32 ((m6 578 x3) - (m6 577 p0))) ∧ (R32 (x3 + 1)) ∧ VM E mX4_fits (k + 1) (aUp m6 578 x3 ((m6 578 x3) - (m6 577 p0))) 22 [(0, aR 576), (1, aI p0), (2, aI p1), (3, aI (x3 + 1))] [] (retI Q)) ∧ (¬ r7 = 0 → Q 1 m6))))))) ∧ ((mem 578 x3) = 0 → (0 ≤ p0 ∧ p0 < 10) ∧ (R32 ((mem 578 x3) + (mem 577 p0))) ∧ (((mem 576 4) < ((mem 578 x3) + (mem 577 p0)) → Q 0 mem) ∧ (((mem 578 x3) + (mem 577 p0)) ≤ (mem 576 4) → (R32 (p0 + 1)) ∧ (R32 (p0 + 1) → R32 p1 → CI E mX4_fits k (aUp (aUp mem 578 x3 ((mem 578 x3) + (mem 577 p0))) 579 p0 x3) [aR 576, aI (p0 + 1), aI p1] (fun r14 m13 => ((r14 = 0 → (R32 ((m13 578 x3) - (m13 577 p0))) ∧ Q 0 (aUp m13 578 x3 ((m13 578 x3) - (m13 577 p0)))) ∧ (¬ r14 = 0 → Q 1 m13))))))))))))) :
    VM E mX4_fits (k + 1) mem 22 [(0, aR 576), (1, aI p0), (2, aI p1), (3, aI x3)] [] (retI Q) := by
  refine v_iload_n (pc := 22) dX4_fits_22 3 rfl ?_
  refine v_iload_n (pc := 23) dX4_fits_23 2 rfl ?_
  refine v_icmpge (pc := 24) (tgt := 132) dX4_fits_24 (by decide) (fun c1 => ?_) (fun c1 => ?_)
  · have h := h.1 c1
    refine v_iconst (pc := 132) dX4_fits_132 (by decide) ?_
    exact m_retZ (pc := 133) dX4_fits_133 rfl (by decide) h
  · have h := h.2 c1
    refine v_iload_n (pc := 27) dX4_fits_27 3 rfl ?_
    refine v_bipush (pc := 28) dX4_fits_28 (by decide) ?_
    refine v_icmpge (pc := 30) (tgt := 132) dX4_fits_30 (by decide) (fun c1 => ?_) (fun c1 => ?_)
    · have h := h.1 c1
      refine v_iconst (pc := 132) dX4_fits_132 (by decide) ?_
      exact m_retZ (pc := 133) dX4_fits_133 rfl (by decide) h
    · have h := h.2 c1
      refine v_aload_n (pc := 33) dX4_fits_33 0 rfl ?_
      refine m_getfin (pc := 34) (v := 578) hE dX4_fits_34 flX4_15 rfl at576 rfl ?_
      refine v_iload_n (pc := 37) dX4_fits_37 3 rfl ?_
      obtain ⟨o1, h⟩ := h
      refine m_iald (pc := 38) (v := (mem 578 x3)) dX4_fits_38 at578 o1.1 o1.2 rfl ?_
      refine v_ifne (pc := 39) (tgt := 46) dX4_fits_39 (by decide) (fun c1 => ?_) (fun c1 => ?_)
      · have h := h.1 c1
        refine v_iconst (pc := 46) dX4_fits_46 (by decide) ?_
        refine v_istore (pc := 47) (al2 := [(4, aI 0), (0, aR 576), (1, aI p0), (2, aI p1), (3, aI x3)]) dX4_fits_47 (by decide) rfl ?_
        refine v_aload_n (pc := 49) dX4_fits_49 1 rfl ?_
        refine m_getfin (pc := 50) (v := 578) hE dX4_fits_50 flX4_15 rfl at576 rfl ?_
        refine v_iload_n (pc := 53) dX4_fits_53 4 rfl ?_
        refine m_iald (pc := 54) (v := (mem 578 x3)) dX4_fits_54 at578 o1.1 o1.2 rfl ?_
        refine v_aload_n (pc := 55) dX4_fits_55 1 rfl ?_
        refine m_getfin (pc := 56) (v := 577) hE dX4_fits_56 flX4_9 rfl at576 rfl ?_
        refine v_iload_n (pc := 59) dX4_fits_59 2 rfl ?_
        obtain ⟨o2, h⟩ := h
        refine m_iald (pc := 60) (v := (mem 577 p0)) dX4_fits_60 at577 o2.1 o2.2 rfl ?_
        obtain ⟨o3, h⟩ := h
        refine m_iadd (pc := 61) dX4_fits_61 o3 ?_
        refine v_aload_n (pc := 62) dX4_fits_62 1 rfl ?_
        refine m_getf (pc := 63) (t := 0) (v := (mem 576 4)) dX4_fits_63 flX4_37 rfl at576 rfl ?_
        refine v_icmpgt (pc := 66) (tgt := 119) dX4_fits_66 (by decide) (fun c1 => ?_) (fun c1 => ?_)
        · have h := h.1 c1
          refine v_iload (pc := 119) dX4_fits_119 0 rfl ?_
          refine v_ifeq (pc := 121) (tgt := 126) dX4_fits_121 (by decide) (fun c1 => ?_) (fun c1 => absurd c1 (by decide))
          obtain ⟨o4, h⟩ := h
          refine m_iinc (pc := 126) (al2 := [(3, aI (x3 + 1)), (4, aI 0), (0, aR 576), (1, aI p0), (2, aI p1)]) dX4_fits_126 4 rfl (by decide) o4 rfl ?_
          refine v_goto (pc := 129) (tgt := 22) dX4_fits_129 (by decide) ?_
          exact VG_sub (al' := [(0, aR 576), (1, aI p0), (2, aI p1), (3, aI (x3 + 1))]) [2, 3, 4, 0] rfl h
        · have h := h.2 c1
          refine v_aload_n (pc := 69) dX4_fits_69 1 rfl ?_
          refine m_getfin (pc := 70) (v := 578) hE dX4_fits_70 flX4_15 rfl at576 rfl ?_
          refine v_iload_n (pc := 73) dX4_fits_73 4 rfl ?_
          refine v_dup2 (pc := 74) dX4_fits_74 rfl rfl ?_
          refine m_iald (pc := 75) (v := (mem 578 x3)) dX4_fits_75 at578 o1.1 o1.2 rfl ?_
          refine v_aload_n (pc := 76) dX4_fits_76 1 rfl ?_
          refine m_getfin (pc := 77) (v := 577) hE dX4_fits_77 flX4_9 rfl at576 rfl ?_
          refine v_iload_n (pc := 80) dX4_fits_80 2 rfl ?_
          refine m_iald (pc := 81) (v := (mem 577 p0)) dX4_fits_81 at577 o2.1 o2.2 rfl ?_
          refine m_iadd (pc := 82) dX4_fits_82 o3 ?_
          refine v_iast (pc := 83) dX4_fits_83 at578 o1.1 o1.2 ?_
          refine v_aload_n (pc := 84) dX4_fits_84 1 rfl ?_
          refine m_getfin (pc := 85) (v := 579) hE dX4_fits_85 flX4_18 rfl at576 rfl ?_
          refine v_iload_n (pc := 88) dX4_fits_88 2 rfl ?_
          refine v_iload_n (pc := 89) dX4_fits_89 4 rfl ?_
          refine v_iast (pc := 90) dX4_fits_90 at579 o2.1 o2.2 ?_
          refine v_aload_n (pc := 91) dX4_fits_91 1 rfl ?_
          refine v_iload_n (pc := 92) dX4_fits_92 2 rfl ?_
          refine v_iconst (pc := 93) dX4_fits_93 (by decide) ?_
          obtain ⟨o5, h⟩ := h
          refine m_iadd (pc := 94) dX4_fits_94 o5 ?_
          refine v_iload_n (pc := 95) dX4_fits_95 3 rfl ?_
          refine m_invI (pc := 96) (mi' := mX4_fits) (rest := []) [aI (p0 + 1), aI p1] dX4_fits_96 at576 (by decide) rfl msX4_fits mvX4_fits lkX4_44 rfl (Nat.le_of_ble_eq_true rfl) (fun hn => CI_mono (h (aaI hn 1 rfl) (aaI hn 2 rfl)) (fun r7 m6 h => ?_))
          refine v_ifeq (pc := 99) (tgt := 104) dX4_fits_99 (by decide) (fun c1 => ?_) (fun c1 => ?_)
          · have h := h.1 c1
            refine v_aload_n (pc := 104) dX4_fits_104 1 rfl ?_
            refine m_getfin (pc := 105) (v := 578) hE dX4_fits_105 flX4_15 rfl at576 rfl ?_
            refine v_iload_n (pc := 108) dX4_fits_108 4 rfl ?_
            refine v_dup2 (pc := 109) dX4_fits_109 rfl rfl ?_
            refine m_iald (pc := 110) (v := (m6 578 x3)) dX4_fits_110 at578 o1.1 o1.2 rfl ?_
            refine v_aload_n (pc := 111) dX4_fits_111 1 rfl ?_
            refine m_getfin (pc := 112) (v := 577) hE dX4_fits_112 flX4_9 rfl at576 rfl ?_
            refine v_iload_n (pc := 115) dX4_fits_115 2 rfl ?_
            refine m_iald (pc := 116) (v := (m6 577 p0)) dX4_fits_116 at577 o2.1 o2.2 rfl ?_
            obtain ⟨o8, h⟩ := h
            refine m_isub (pc := 117) dX4_fits_117 o8 ?_
            refine v_iast (pc := 118) dX4_fits_118 at578 o1.1 o1.2 ?_
            refine v_iload (pc := 119) dX4_fits_119 0 rfl ?_
            refine v_ifeq (pc := 121) (tgt := 126) dX4_fits_121 (by decide) (fun c1 => ?_) (fun c1 => absurd c1 (by decide))
            obtain ⟨o9, h⟩ := h
            refine m_iinc (pc := 126) (al2 := [(3, aI (x3 + 1)), (4, aI 0), (0, aR 576), (1, aI p0), (2, aI p1)]) dX4_fits_126 4 rfl (by decide) o9 rfl ?_
            refine v_goto (pc := 129) (tgt := 22) dX4_fits_129 (by decide) ?_
            exact VG_sub (al' := [(0, aR 576), (1, aI p0), (2, aI p1), (3, aI (x3 + 1))]) [2, 3, 4, 0] rfl h
          · have h := h.2 c1
            refine v_iconst (pc := 102) dX4_fits_102 (by decide) ?_
            exact m_retZ (pc := 103) dX4_fits_103 rfl (by decide) h
      · have h := h.2 c1
        refine v_iconst (pc := 42) dX4_fits_42 (by decide) ?_
        refine v_goto (pc := 43) (tgt := 47) dX4_fits_43 (by decide) ?_
        refine v_istore (pc := 47) (al2 := [(4, aI 1), (0, aR 576), (1, aI p0), (2, aI p1), (3, aI x3)]) dX4_fits_47 (by decide) rfl ?_
        refine v_aload_n (pc := 49) dX4_fits_49 1 rfl ?_
        refine m_getfin (pc := 50) (v := 578) hE dX4_fits_50 flX4_15 rfl at576 rfl ?_
        refine v_iload_n (pc := 53) dX4_fits_53 4 rfl ?_
        refine m_iald (pc := 54) (v := (mem 578 x3)) dX4_fits_54 at578 o1.1 o1.2 rfl ?_
        refine v_aload_n (pc := 55) dX4_fits_55 1 rfl ?_
        refine m_getfin (pc := 56) (v := 577) hE dX4_fits_56 flX4_9 rfl at576 rfl ?_
        refine v_iload_n (pc := 59) dX4_fits_59 2 rfl ?_
        obtain ⟨o10, h⟩ := h
        refine m_iald (pc := 60) (v := (mem 577 p0)) dX4_fits_60 at577 o10.1 o10.2 rfl ?_
        obtain ⟨o11, h⟩ := h
        refine m_iadd (pc := 61) dX4_fits_61 o11 ?_
        refine v_aload_n (pc := 62) dX4_fits_62 1 rfl ?_
        refine m_getf (pc := 63) (t := 0) (v := (mem 576 4)) dX4_fits_63 flX4_37 rfl at576 rfl ?_
        refine v_icmpgt (pc := 66) (tgt := 119) dX4_fits_66 (by decide) (fun c1 => ?_) (fun c1 => ?_)
        · have h := h.1 c1
          refine v_iload (pc := 119) dX4_fits_119 0 rfl ?_
          refine v_ifeq (pc := 121) (tgt := 126) dX4_fits_121 (by decide) (fun c1 => absurd c1 (by decide)) (fun c1 => ?_)
          refine v_iconst (pc := 124) dX4_fits_124 (by decide) ?_
          exact m_retZ (pc := 125) dX4_fits_125 rfl (by decide) h
        · have h := h.2 c1
          refine v_aload_n (pc := 69) dX4_fits_69 1 rfl ?_
          refine m_getfin (pc := 70) (v := 578) hE dX4_fits_70 flX4_15 rfl at576 rfl ?_
          refine v_iload_n (pc := 73) dX4_fits_73 4 rfl ?_
          refine v_dup2 (pc := 74) dX4_fits_74 rfl rfl ?_
          refine m_iald (pc := 75) (v := (mem 578 x3)) dX4_fits_75 at578 o1.1 o1.2 rfl ?_
          refine v_aload_n (pc := 76) dX4_fits_76 1 rfl ?_
          refine m_getfin (pc := 77) (v := 577) hE dX4_fits_77 flX4_9 rfl at576 rfl ?_
          refine v_iload_n (pc := 80) dX4_fits_80 2 rfl ?_
          refine m_iald (pc := 81) (v := (mem 577 p0)) dX4_fits_81 at577 o10.1 o10.2 rfl ?_
          refine m_iadd (pc := 82) dX4_fits_82 o11 ?_
          refine v_iast (pc := 83) dX4_fits_83 at578 o1.1 o1.2 ?_
          refine v_aload_n (pc := 84) dX4_fits_84 1 rfl ?_
          refine m_getfin (pc := 85) (v := 579) hE dX4_fits_85 flX4_18 rfl at576 rfl ?_
          refine v_iload_n (pc := 88) dX4_fits_88 2 rfl ?_
          refine v_iload_n (pc := 89) dX4_fits_89 4 rfl ?_
          refine v_iast (pc := 90) dX4_fits_90 at579 o10.1 o10.2 ?_
          refine v_aload_n (pc := 91) dX4_fits_91 1 rfl ?_
          refine v_iload_n (pc := 92) dX4_fits_92 2 rfl ?_
          refine v_iconst (pc := 93) dX4_fits_93 (by decide) ?_
          obtain ⟨o12, h⟩ := h
          refine m_iadd (pc := 94) dX4_fits_94 o12 ?_
          refine v_iload_n (pc := 95) dX4_fits_95 3 rfl ?_
          refine m_invI (pc := 96) (mi' := mX4_fits) (rest := []) [aI (p0 + 1), aI p1] dX4_fits_96 at576 (by decide) rfl msX4_fits mvX4_fits lkX4_44 rfl (Nat.le_of_ble_eq_true rfl) (fun hn => CI_mono (h (aaI hn 1 rfl) (aaI hn 2 rfl)) (fun r14 m13 h => ?_))
          refine v_ifeq (pc := 99) (tgt := 104) dX4_fits_99 (by decide) (fun c1 => ?_) (fun c1 => ?_)
          · have h := h.1 c1
            refine v_aload_n (pc := 104) dX4_fits_104 1 rfl ?_
            refine m_getfin (pc := 105) (v := 578) hE dX4_fits_105 flX4_15 rfl at576 rfl ?_
            refine v_iload_n (pc := 108) dX4_fits_108 4 rfl ?_
            refine v_dup2 (pc := 109) dX4_fits_109 rfl rfl ?_
            refine m_iald (pc := 110) (v := (m13 578 x3)) dX4_fits_110 at578 o1.1 o1.2 rfl ?_
            refine v_aload_n (pc := 111) dX4_fits_111 1 rfl ?_
            refine m_getfin (pc := 112) (v := 577) hE dX4_fits_112 flX4_9 rfl at576 rfl ?_
            refine v_iload_n (pc := 115) dX4_fits_115 2 rfl ?_
            refine m_iald (pc := 116) (v := (m13 577 p0)) dX4_fits_116 at577 o10.1 o10.2 rfl ?_
            obtain ⟨o15, h⟩ := h
            refine m_isub (pc := 117) dX4_fits_117 o15 ?_
            refine v_iast (pc := 118) dX4_fits_118 at578 o1.1 o1.2 ?_
            refine v_iload (pc := 119) dX4_fits_119 0 rfl ?_
            refine v_ifeq (pc := 121) (tgt := 126) dX4_fits_121 (by decide) (fun c1 => absurd c1 (by decide)) (fun c1 => ?_)
            refine v_iconst (pc := 124) dX4_fits_124 (by decide) ?_
            exact m_retZ (pc := 125) dX4_fits_125 rfl (by decide) h
          · have h := h.2 c1
            refine v_iconst (pc := 102) dX4_fits_102 (by decide) ?_
            exact m_retZ (pc := 103) dX4_fits_103 rfl (by decide) h
