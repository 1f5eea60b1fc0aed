theorem dX12_push_0 : decode cX12_push 0 = .ok (.aload_n 0, 1) := by decide +kernel
theorem dX12_push_1 : decode cX12_push 1 = .ok (.getfield 51, 3) := by decide +kernel
theorem dX12_push_4 : decode cX12_push 4 = .ok (.aload_n 0, 1) := by decide +kernel
theorem dX12_push_5 : decode cX12_push 5 = .ok (.getfield 281, 3) := by decide +kernel
theorem dX12_push_8 : decode cX12_push 8 = .ok (.iload_n 1, 1) := by decide +kernel
theorem dX12_push_9 : decode cX12_push 9 = .ok (.iastore, 1) := by decide +kernel
theorem dX12_push_10 : decode cX12_push 10 = .ok (.aload_n 0, 1) := by decide +kernel
theorem dX12_push_11 : decode cX12_push 11 = .ok (.getfield 54, 3) := by decide +kernel
theorem dX12_push_14 : decode cX12_push 14 = .ok (.aload_n 0, 1) := by decide +kernel
theorem dX12_push_15 : decode cX12_push 15 = .ok (.getfield 281, 3) := by decide +kernel
theorem dX12_push_18 : decode cX12_push 18 = .ok (.iload_n 2, 1) := by decide +kernel
theorem dX12_push_19 : decode cX12_push 19 = .ok (.iastore, 1) := by decide +kernel
theorem dX12_push_20 : decode cX12_push 20 = .ok (.aload_n 0, 1) := by decide +kernel
theorem dX12_push_21 : decode cX12_push 21 = .ok (.dup, 1) := by decide +kernel
theorem dX12_push_22 : decode cX12_push 22 = .ok (.getfield 281, 3) := by decide +kernel
theorem dX12_push_25 : decode cX12_push 25 = .ok (.iconst 1, 1) := by decide +kernel
theorem dX12_push_26 : decode cX12_push 26 = .ok (.iadd, 1) := by decide +kernel
theorem dX12_push_27 : decode cX12_push 27 = .ok (.putfield 281, 3) := by decide +kernel
theorem dX12_push_30 : decode cX12_push 30 = .ok (.return_, 1) := by decide +kernel
set_option maxRecDepth 20000 in
theorem rX12_push_0 {E : EN} (hE : Ep E) {k : Nat} {mem : Mm} {Q : Mm → Prop} {p0 p1 : Int}
    (h : (0 ≤ (mem 603 29) ∧ (mem 603 29) < 400) ∧ (R32 ((mem 603 29) + 1)) ∧ Q (aUp (aUp (aUp mem 616 (mem 603 29) p0) 617 (mem 603 29) p1) 603 29 ((mem 603 29) + 1))) :
    VM E mX12_push k mem 0 [(0, aR 603), (1, aI p0), (2, aI p1)] [] (retV Q) := by
  refine v_aload_n (pc := 0) dX12_push_0 0 rfl ?_
  refine m_getfin (pc := 1) (v := 616) hE dX12_push_1 flX12_51 rfl at603 rfl ?_
  refine v_aload_n (pc := 4) dX12_push_4 0 rfl ?_
  refine m_getf (pc := 5) (t := 0) (v := (mem 603 29)) dX12_push_5 flX12_281 rfl at603 rfl ?_
  refine v_iload_n (pc := 8) dX12_push_8 1 rfl ?_
  obtain ⟨o1, h⟩ := h
  refine v_iast (pc := 9) dX12_push_9 at616 o1.1 o1.2 ?_
  refine v_aload_n (pc := 10) dX12_push_10 0 rfl ?_
  refine m_getfin (pc := 11) (v := 617) hE dX12_push_11 flX12_54 rfl at603 rfl ?_
  refine v_aload_n (pc := 14) dX12_push_14 0 rfl ?_
  refine m_getf (pc := 15) (t := 0) (v := (mem 603 29)) dX12_push_15 flX12_281 rfl at603 (aUp_rn (by omega)) ?_
  refine v_iload_n (pc := 18) dX12_push_18 2 rfl ?_
  refine v_iast (pc := 19) dX12_push_19 at617 o1.1 o1.2 ?_
  refine v_aload_n (pc := 20) dX12_push_20 0 rfl ?_
  refine v_dup (pc := 21) dX12_push_21 rfl ?_
  refine m_getf (pc := 22) (t := 0) (v := (mem 603 29)) dX12_push_22 flX12_281 rfl at603 ((aUp_rn (by omega)).trans (aUp_rn (by omega))) ?_
  refine v_iconst (pc := 25) dX12_push_25 (by decide) ?_
  obtain ⟨o2, h⟩ := h
  refine m_iadd (pc := 26) dX12_push_26 o2 ?_
  refine v_putf (pc := 27) dX12_push_27 flX12_281 ⟨_, _, rfl, Or.inl rfl⟩ rfl (by decide) (fun q => nomatch q) (Or.inl fun _ => rfl) at603 ?_
  exact m_retV (pc := 30) dX12_push_30 rfl h
theorem eX12_push {E : EN} {k : Nat} {mem : Mm} {Q : Mm → Prop} {p0 p1 : Int} (hr_p0 : R32 p0) (hr_p1 : R32 p1) (h : VM E mX12_push k mem 0 [(0, aR 603), (1, aI p0), (2, aI p1)] [] (retV Q)) : CV E mX12_push k mem [aR 603, aI p0, aI p1] Q := CV_of rfl (Nat.le_of_ble_eq_true rfl) h (aNs_c (aNr_R _) (aNs_c (aNr_I hr_p0) (aNs_c (aNr_I hr_p1) (fun _ q => nomatch q))))

theorem dX12_binds_0 : decode cX12_binds 0 = .ok (.iload_n 0, 1) := by decide +kernel
theorem dX12_binds_1 : decode cX12_binds 1 = .ok (.bipush 31, 2) := by decide +kernel
theorem dX12_binds_3 : decode cX12_binds 3 = .ok (.if_icmp .lt 7, 3) := by decide +kernel
theorem dX12_binds_6 : decode cX12_binds 6 = .ok (.iconst 0, 1) := by decide +kernel
theorem dX12_binds_7 : decode cX12_binds 7 = .ok (.goto 55, 3) := by decide +kernel
theorem dX12_binds_10 : decode cX12_binds 10 = .ok (.iload_n 0, 1) := by decide +kernel
theorem dX12_binds_11 : decode cX12_binds 11 = .ok (.bipush 30, 2) := by decide +kernel
theorem dX12_binds_13 : decode cX12_binds 13 = .ok (.if_icmp .ne 7, 3) := by decide +kernel
theorem dX12_binds_16 : decode cX12_binds 16 = .ok (.iconst 1, 1) := by decide +kernel
theorem dX12_binds_17 : decode cX12_binds 17 = .ok (.goto 45, 3) := by decide +kernel
theorem dX12_binds_20 : decode cX12_binds 20 = .ok (.iload_n 0, 1) := by decide +kernel
theorem dX12_binds_21 : decode cX12_binds 21 = .ok (.bipush 29, 2) := by decide +kernel
theorem dX12_binds_23 : decode cX12_binds 23 = .ok (.if_icmp .ne 7, 3) := by decide +kernel
theorem dX12_binds_26 : decode cX12_binds 26 = .ok (.iconst 2, 1) := by decide +kernel
theorem dX12_binds_27 : decode cX12_binds 27 = .ok (.goto 35, 3) := by decide +kernel
theorem dX12_binds_30 : decode cX12_binds 30 = .ok (.iload_n 0, 1) := by decide +kernel
theorem dX12_binds_31 : decode cX12_binds 31 = .ok (.bipush 28, 2) := by decide +kernel
theorem dX12_binds_33 : decode cX12_binds 33 = .ok (.if_icmp .ne 7, 3) := by decide +kernel
theorem dX12_binds_36 : decode cX12_binds 36 = .ok (.iconst 3, 1) := by decide +kernel
theorem dX12_binds_37 : decode cX12_binds 37 = .ok (.goto 25, 3) := by decide +kernel
theorem dX12_binds_40 : decode cX12_binds 40 = .ok (.iload_n 0, 1) := by decide +kernel
theorem dX12_binds_41 : decode cX12_binds 41 = .ok (.bipush 25, 2) := by decide +kernel
theorem dX12_binds_43 : decode cX12_binds 43 = .ok (.if_icmp .lt 7, 3) := by decide +kernel
theorem dX12_binds_46 : decode cX12_binds 46 = .ok (.iconst 4, 1) := by decide +kernel
theorem dX12_binds_47 : decode cX12_binds 47 = .ok (.goto 15, 3) := by decide +kernel
theorem dX12_binds_50 : decode cX12_binds 50 = .ok (.iload_n 0, 1) := by decide +kernel
theorem dX12_binds_51 : decode cX12_binds 51 = .ok (.bipush 22, 2) := by decide +kernel
theorem dX12_binds_53 : decode cX12_binds 53 = .ok (.if_icmp .lt 8, 3) := by decide +kernel
theorem dX12_binds_56 : decode cX12_binds 56 = .ok (.bipush 6, 2) := by decide +kernel
theorem dX12_binds_58 : decode cX12_binds 58 = .ok (.goto 4, 3) := by decide +kernel
theorem dX12_binds_61 : decode cX12_binds 61 = .ok (.iconst 5, 1) := by decide +kernel
theorem dX12_binds_62 : decode cX12_binds 62 = .ok (.ireturn, 1) := by decide +kernel
set_option maxRecDepth 20000 in
theorem rX12_binds_0 {E : EN} (hE : Ep E) {k : Nat} {mem : Mm} {Q : Int → Mm → Prop} {p0 : Int}
    (h : ((p0 < 31 → ((¬ p0 = 30 → ((¬ p0 = 29 → ((¬ p0 = 28 → ((p0 < 25 → ((p0 < 22 → Q 5 mem) ∧ (22 ≤ p0 → Q 6 mem))) ∧ (25 ≤ p0 → Q 4 mem))) ∧ (p0 = 28 → Q 3 mem))) ∧ (p0 = 29 → Q 2 mem))) ∧ (p0 = 30 → Q 1 mem))) ∧ (31 ≤ p0 → Q 0 mem))) :
    VM E mX12_binds k mem 0 [(0, aI p0)] [] (retI Q) := by
  refine v_iload_n (pc := 0) dX12_binds_0 0 rfl ?_
  refine v_bipush (pc := 1) dX12_binds_1 (by decide) ?_
  refine v_icmplt (pc := 3) (tgt := 10) dX12_binds_3 (by decide) (fun c1 => ?_) (fun c1 => ?_)
  · have h := h.1 c1
    refine v_iload_n (pc := 10) dX12_binds_10 0 rfl ?_
    refine v_bipush (pc := 11) dX12_binds_11 (by decide) ?_
    refine v_icmpne (pc := 13) (tgt := 20) dX12_binds_13 (by decide) (fun c1 => ?_) (fun c1 => ?_)
    · have h := h.1 c1
      refine v_iload_n (pc := 20) dX12_binds_20 0 rfl ?_
      refine v_bipush (pc := 21) dX12_binds_21 (by decide) ?_
      refine v_icmpne (pc := 23) (tgt := 30) dX12_binds_23 (by decide) (fun c1 => ?_) (fun c1 => ?_)
      · have h := h.1 c1
        refine v_iload_n (pc := 30) dX12_binds_30 0 rfl ?_
        refine v_bipush (pc := 31) dX12_binds_31 (by decide) ?_
        refine v_icmpne (pc := 33) (tgt := 40) dX12_binds_33 (by decide) (fun c1 => ?_) (fun c1 => ?_)
        · have h := h.1 c1
          refine v_iload_n (pc := 40) dX12_binds_40 0 rfl ?_
          refine v_bipush (pc := 41) dX12_binds_41 (by decide) ?_
          refine v_icmplt (pc := 43) (tgt := 50) dX12_binds_43 (by decide) (fun c1 => ?_) (fun c1 => ?_)
          · have h := h.1 c1
            refine v_iload_n (pc := 50) dX12_binds_50 0 rfl ?_
            refine v_bipush (pc := 51) dX12_binds_51 (by decide) ?_
            refine v_icmplt (pc := 53) (tgt := 61) dX12_binds_53 (by decide) (fun c1 => ?_) (fun c1 => ?_)
            · have h := h.1 c1
              refine v_iconst (pc := 61) dX12_binds_61 (by decide) ?_
              exact m_retI (pc := 62) dX12_binds_62 rfl h
            · have h := h.2 c1
              refine v_bipush (pc := 56) dX12_binds_56 (by decide) ?_
              refine v_goto (pc := 58) (tgt := 62) dX12_binds_58 (by decide) ?_
              exact m_retI (pc := 62) dX12_binds_62 rfl h
          · have h := h.2 c1
            refine v_iconst (pc := 46) dX12_binds_46 (by decide) ?_
            refine v_goto (pc := 47) (tgt := 62) dX12_binds_47 (by decide) ?_
            exact m_retI (pc := 62) dX12_binds_62 rfl h
        · have h := h.2 c1
          refine v_iconst (pc := 36) dX12_binds_36 (by decide) ?_
          refine v_goto (pc := 37) (tgt := 62) dX12_binds_37 (by decide) ?_
          exact m_retI (pc := 62) dX12_binds_62 rfl h
      · have h := h.2 c1
        refine v_iconst (pc := 26) dX12_binds_26 (by decide) ?_
        refine v_goto (pc := 27) (tgt := 62) dX12_binds_27 (by decide) ?_
        exact m_retI (pc := 62) dX12_binds_62 rfl h
    · have h := h.2 c1
      refine v_iconst (pc := 16) dX12_binds_16 (by decide) ?_
      refine v_goto (pc := 17) (tgt := 62) dX12_binds_17 (by decide) ?_
      exact m_retI (pc := 62) dX12_binds_62 rfl h
  · have h := h.2 c1
    refine v_iconst (pc := 6) dX12_binds_6 (by decide) ?_
    refine v_goto (pc := 7) (tgt := 62) dX12_binds_7 (by decide) ?_
    exact m_retI (pc := 62) dX12_binds_62 rfl h
theorem eX12_binds {E : EN} {k : Nat} {mem : Mm} {Q : Int → Mm → Prop} {p0 : Int} (hr_p0 : R32 p0) (h : VM E mX12_binds k mem 0 [(0, aI p0)] [] (retI Q)) : CI E mX12_binds k mem [aI p0] Q := CI_of rfl (Nat.le_of_ble_eq_true rfl) h (aNs_c (aNr_I hr_p0) (fun _ q => nomatch q))

theorem dX12_settle_0 : decode cX12_settle 0 = .ok (.aload_n 0, 1) := by decide +kernel
theorem dX12_settle_1 : decode cX12_settle 1 = .ok (.getfield 281, 3) := by decide +kernel
theorem dX12_settle_4 : decode cX12_settle 4 = .ok (.ifCond .le 97, 3) := by decide +kernel
theorem dX12_settle_7 : decode cX12_settle 7 = .ok (.aload_n 0, 1) := by decide +kernel
theorem dX12_settle_8 : decode cX12_settle 8 = .ok (.getfield 51, 3) := by decide +kernel
theorem dX12_settle_11 : decode cX12_settle 11 = .ok (.aload_n 0, 1) := by decide +kernel
theorem dX12_settle_12 : decode cX12_settle 12 = .ok (.getfield 281, 3) := by decide +kernel
theorem dX12_settle_15 : decode cX12_settle 15 = .ok (.iconst 1, 1) := by decide +kernel
theorem dX12_settle_16 : decode cX12_settle 16 = .ok (.isub, 1) := by decide +kernel
theorem dX12_settle_17 : decode cX12_settle 17 = .ok (.iaload, 1) := by decide +kernel
theorem dX12_settle_18 : decode cX12_settle 18 = .ok (.invokestatic 284, 3) := by decide +kernel
theorem dX12_settle_21 : decode cX12_settle 21 = .ok (.iload_n 1, 1) := by decide +kernel
theorem dX12_settle_22 : decode cX12_settle 22 = .ok (.if_icmp .lt 79, 3) := by decide +kernel
theorem dX12_settle_25 : decode cX12_settle 25 = .ok (.aload_n 0, 1) := by decide +kernel
theorem dX12_settle_26 : decode cX12_settle 26 = .ok (.dup, 1) := by decide +kernel
theorem dX12_settle_27 : decode cX12_settle 27 = .ok (.getfield 281, 3) := by decide +kernel
theorem dX12_settle_30 : decode cX12_settle 30 = .ok (.iconst 1, 1) := by decide +kernel
theorem dX12_settle_31 : decode cX12_settle 31 = .ok (.isub, 1) := by decide +kernel
theorem dX12_settle_32 : decode cX12_settle 32 = .ok (.putfield 281, 3) := by decide +kernel
theorem dX12_settle_35 : decode cX12_settle 35 = .ok (.aload_n 0, 1) := by decide +kernel
theorem dX12_settle_36 : decode cX12_settle 36 = .ok (.getfield 51, 3) := by decide +kernel
theorem dX12_settle_39 : decode cX12_settle 39 = .ok (.aload_n 0, 1) := by decide +kernel
theorem dX12_settle_40 : decode cX12_settle 40 = .ok (.getfield 281, 3) := by decide +kernel
theorem dX12_settle_43 : decode cX12_settle 43 = .ok (.iaload, 1) := by decide +kernel
theorem dX12_settle_44 : decode cX12_settle 44 = .ok (.bipush 29, 2) := by decide +kernel
theorem dX12_settle_46 : decode cX12_settle 46 = .ok (.if_icmp .eq 17, 3) := by decide +kernel
theorem dX12_settle_49 : decode cX12_settle 49 = .ok (.aload_n 0, 1) := by decide +kernel
theorem dX12_settle_50 : decode cX12_settle 50 = .ok (.getfield 51, 3) := by decide +kernel
theorem dX12_settle_53 : decode cX12_settle 53 = .ok (.aload_n 0, 1) := by decide +kernel
theorem dX12_settle_54 : decode cX12_settle 54 = .ok (.getfield 281, 3) := by decide +kernel
theorem dX12_settle_57 : decode cX12_settle 57 = .ok (.iaload, 1) := by decide +kernel
theorem dX12_settle_58 : decode cX12_settle 58 = .ok (.bipush 30, 2) := by decide +kernel
theorem dX12_settle_60 : decode cX12_settle 60 = .ok (.if_icmp .ne 24, 3) := by decide +kernel
theorem dX12_settle_63 : decode cX12_settle 63 = .ok (.aload_n 0, 1) := by decide +kernel
theorem dX12_settle_64 : decode cX12_settle 64 = .ok (.getfield 48, 3) := by decide +kernel
theorem dX12_settle_67 : decode cX12_settle 67 = .ok (.aload_n 0, 1) := by decide +kernel
theorem dX12_settle_68 : decode cX12_settle 68 = .ok (.getfield 54, 3) := by decide +kernel
theorem dX12_settle_71 : decode cX12_settle 71 = .ok (.aload_n 0, 1) := by decide +kernel
theorem dX12_settle_72 : decode cX12_settle 72 = .ok (.getfield 281, 3) := by decide +kernel
theorem dX12_settle_75 : decode cX12_settle 75 = .ok (.iaload, 1) := by decide +kernel
theorem dX12_settle_76 : decode cX12_settle 76 = .ok (.aload_n 0, 1) := by decide +kernel
theorem dX12_settle_77 : decode cX12_settle 77 = .ok (.getfield 278, 3) := by decide +kernel
theorem dX12_settle_80 : decode cX12_settle 80 = .ok (.iastore, 1) := by decide +kernel
theorem dX12_settle_81 : decode cX12_settle 81 = .ok (.goto (-81), 3) := by decide +kernel
theorem dX12_settle_84 : decode cX12_settle 84 = .ok (.aload_n 0, 1) := by decide +kernel
theorem dX12_settle_85 : decode cX12_settle 85 = .ok (.aload_n 0, 1) := by decide +kernel
theorem dX12_settle_86 : decode cX12_settle 86 = .ok (.getfield 51, 3) := by decide +kernel
theorem dX12_settle_89 : decode cX12_settle 89 = .ok (.aload_n 0, 1) := by decide +kernel
theorem dX12_settle_90 : decode cX12_settle 90 = .ok (.getfield 281, 3) := by decide +kernel
theorem dX12_settle_93 : decode cX12_settle 93 = .ok (.iaload, 1) := by decide +kernel
theorem dX12_settle_94 : decode cX12_settle 94 = .ok (.iconst 0, 1) := by decide +kernel
theorem dX12_settle_95 : decode cX12_settle 95 = .ok (.invokevirtual 287, 3) := by decide +kernel
theorem dX12_settle_98 : decode cX12_settle 98 = .ok (.goto (-98), 3) := by decide +kernel
theorem dX12_settle_101 : decode cX12_settle 101 = .ok (.return_, 1) := by decide +kernel
set_option maxRecDepth 20000 in
theorem rX12_settle_0 {E : EN} (hE : Ep E) {k : Nat} {mem : Mm} {Q : Mm → Prop} {p0 : Int}
    (h : (((mem 603 29) ≤ 0 → Q mem) ∧ (0 < (mem 603 29) → (R32 ((mem 603 29) - 1)) ∧ (0 ≤ ((mem 603 29) - 1) ∧ ((mem 603 29) - 1) < 400) ∧ (R32 (mem 616 ((mem 603 29) - 1)) → CI E mX12_binds k mem [aI (mem 616 ((mem 603 29) - 1))] (fun r4 m3 => ((r4 < p0 → Q m3) ∧ (p0 ≤ r4 → (R32 ((m3 603 29) - 1)) ∧ (0 ≤ ((m3 603 29) - 1) ∧ ((m3 603 29) - 1) < 400) ∧ (((m3 616 ((m3 603 29) - 1)) = 29 → (0 ≤ (m3 617 ((m3 603 29) - 1)) ∧ (m3 617 ((m3 603 29) - 1)) < 400) ∧ VM E mX12_settle (k + 1) (aUp (aUp m3 603 29 ((m3 603 29) - 1)) 615 (m3 617 ((m3 603 29) - 1)) (m3 603 23)) 0 [(0, aR 603), (1, aI p0)] [] (retV Q)) ∧ (¬ (m3 616 ((m3 603 29) - 1)) = 29 → ((¬ (m3 616 ((m3 603 29) - 1)) = 30 → (R32 (m3 616 ((m3 603 29) - 1)) → CV E mX12_emit k (aUp m3 603 29 ((m3 603 29) - 1)) [aR 603, aI (m3 616 ((m3 603 29) - 1)), aI 0] (fun m8 => VM E mX12_settle (k + 1) m8 0 [(0, aR 603), (1, aI p0)] [] (retV Q)))) ∧ ((m3 616 ((m3 603 29) - 1)) = 30 → (0 ≤ (m3 617 ((m3 603 29) - 1)) ∧ (m3 617 ((m3 603 29) - 1)) < 400) ∧ VM E mX12_settle (k + 1) (aUp (aUp m3 603 29 ((m3 603 29) - 1)) 615 (m3 617 ((m3 603 29) - 1)) (m3 603 23)) 0 [(0, aR 603), (1, aI p0)] [] (retV Q)))))))))))) :
    VM E mX12_settle (k + 1) mem 0 [(0, aR 603), (1, aI p0)] [] (retV Q) := by
  refine v_aload_n (pc := 0) dX12_settle_0 0 rfl ?_
  refine m_getf (pc := 1) (t := 0) (v := (mem 603 29)) dX12_settle_1 flX12_281 rfl at603 rfl ?_
  refine v_ifle (pc := 4) (tgt := 101) dX12_settle_4 (by decide) (fun c1 => ?_) (fun c1 => ?_)
  · have h := h.1 c1
    exact m_retV (pc := 101) dX12_settle_101 rfl h
  · have h := h.2 c1
    refine v_aload_n (pc := 7) dX12_settle_7 0 rfl ?_
    refine m_getfin (pc := 8) (v := 616) hE dX12_settle_8 flX12_51 rfl at603 rfl ?_
    refine v_aload_n (pc := 11) dX12_settle_11 0 rfl ?_
    refine m_getf (pc := 12) (t := 0) (v := (mem 603 29)) dX12_settle_12 flX12_281 rfl at603 rfl ?_
    refine v_iconst (pc := 15) dX12_settle_15 (by decide) ?_
    obtain ⟨o1, h⟩ := h
    refine m_isub (pc := 16) dX12_settle_16 o1 ?_
    obtain ⟨o2, h⟩ := h
    refine m_iald (pc := 17) (v := (mem 616 ((mem 603 29) - 1))) dX12_settle_17 at616 o2.1 o2.2 rfl ?_
    refine m_invSI (pc := 18) (mi' := mX12_binds) (rest := []) [aI (mem 616 ((mem 603 29) - 1))] dX12_settle_18 msX12_binds stX12_binds lkX12_284 rfl (Nat.le_of_ble_eq_true rfl) (fun hn => CI_mono (h (aaI hn 0 rfl)) (fun r4 m3 h => ?_))
    refine v_iload_n (pc := 21) dX12_settle_21 1 rfl ?_
    refine v_icmplt (pc := 22) (tgt := 101) dX12_settle_22 (by decide) (fun c1 => ?_) (fun c1 => ?_)
    · have h := h.1 c1
      exact m_retV (pc := 101) dX12_settle_101 rfl h
    · have h := h.2 c1
      refine v_aload_n (pc := 25) dX12_settle_25 0 rfl ?_
      refine v_dup (pc := 26) dX12_settle_26 rfl ?_
      refine m_getf (pc := 27) (t := 0) (v := (m3 603 29)) dX12_settle_27 flX12_281 rfl at603 rfl ?_
      refine v_iconst (pc := 30) dX12_settle_30 (by decide) ?_
      obtain ⟨o5, h⟩ := h
      refine m_isub (pc := 31) dX12_settle_31 o5 ?_
      refine v_putf (pc := 32) dX12_settle_32 flX12_281 ⟨_, _, rfl, Or.inl rfl⟩ rfl (by decide) (fun q => nomatch q) (Or.inl fun _ => rfl) at603 ?_
      refine v_aload_n (pc := 35) dX12_settle_35 0 rfl ?_
      refine m_getfin (pc := 36) (v := 616) hE dX12_settle_36 flX12_51 rfl at603 rfl ?_
      refine v_aload_n (pc := 39) dX12_settle_39 0 rfl ?_
      refine m_getf (pc := 40) (t := 0) (v := ((m3 603 29) - 1)) dX12_settle_40 flX12_281 rfl at603 (aUp_re) ?_
      obtain ⟨o6, h⟩ := h
      refine m_iald (pc := 43) (v := (m3 616 ((m3 603 29) - 1))) dX12_settle_43 at616 o6.1 o6.2 (aUp_rn (by omega)) ?_
      refine v_bipush (pc := 44) dX12_settle_44 (by decide) ?_
      refine v_icmpeq (pc := 46) (tgt := 63) dX12_settle_46 (by decide) (fun c1 => ?_) (fun c1 => ?_)
      · have h := h.1 c1
        refine v_aload_n (pc := 63) dX12_settle_63 0 rfl ?_
        refine m_getfin (pc := 64) (v := 615) hE dX12_settle_64 flX12_48 rfl at603 rfl ?_
        refine v_aload_n (pc := 67) dX12_settle_67 0 rfl ?_
        refine m_getfin (pc := 68) (v := 617) hE dX12_settle_68 flX12_54 rfl at603 rfl ?_
        refine v_aload_n (pc := 71) dX12_settle_71 0 rfl ?_
        refine m_getf (pc := 72) (t := 0) (v := ((m3 603 29) - 1)) dX12_settle_72 flX12_281 rfl at603 (aUp_re) ?_
        refine m_iald (pc := 75) (v := (m3 617 ((m3 603 29) - 1))) dX12_settle_75 at617 o6.1 o6.2 (aUp_rn (by omega)) ?_
        refine v_aload_n (pc := 76) dX12_settle_76 0 rfl ?_
        refine m_getf (pc := 77) (t := 0) (v := (m3 603 23)) dX12_settle_77 flX12_278 rfl at603 (aUp_ri (by decide)) ?_
        obtain ⟨o7, h⟩ := h
        refine v_iast (pc := 80) dX12_settle_80 at615 o7.1 o7.2 ?_
        refine v_goto (pc := 81) (tgt := 0) dX12_settle_81 (by decide) ?_
        exact VG_sub (al' := [(0, aR 603), (1, aI p0)]) [0, 1] rfl h
      · have h := h.2 c1
        refine v_aload_n (pc := 49) dX12_settle_49 0 rfl ?_
        refine m_getfin (pc := 50) (v := 616) hE dX12_settle_50 flX12_51 rfl at603 rfl ?_
        refine v_aload_n (pc := 53) dX12_settle_53 0 rfl ?_
        refine m_getf (pc := 54) (t := 0) (v := ((m3 603 29) - 1)) dX12_settle_54 flX12_281 rfl at603 (aUp_re) ?_
        refine m_iald (pc := 57) (v := (m3 616 ((m3 603 29) - 1))) dX12_settle_57 at616 o6.1 o6.2 (aUp_rn (by omega)) ?_
        refine v_bipush (pc := 58) dX12_settle_58 (by decide) ?_
        refine v_icmpne (pc := 60) (tgt := 84) dX12_settle_60 (by decide) (fun c1 => ?_) (fun c1 => ?_)
        · have h := h.1 c1
          refine v_aload_n (pc := 84) dX12_settle_84 0 rfl ?_
          refine v_aload_n (pc := 85) dX12_settle_85 0 rfl ?_
          refine m_getfin (pc := 86) (v := 616) hE dX12_settle_86 flX12_51 rfl at603 rfl ?_
          refine v_aload_n (pc := 89) dX12_settle_89 0 rfl ?_
          refine m_getf (pc := 90) (t := 0) (v := ((m3 603 29) - 1)) dX12_settle_90 flX12_281 rfl at603 (aUp_re) ?_
          refine m_iald (pc := 93) (v := (m3 616 ((m3 603 29) - 1))) dX12_settle_93 at616 o6.1 o6.2 (aUp_rn (by omega)) ?_
          refine v_iconst (pc := 94) dX12_settle_94 (by decide) ?_
          refine m_invV (pc := 95) (mi' := mX12_emit) (rest := []) [aI (m3 616 ((m3 603 29) - 1)), aI 0] dX12_settle_95 at603 (by decide) rfl msX12_emit mvX12_emit lkX12_287 rfl (Nat.le_of_ble_eq_true rfl) (fun hn => CV_mono (h (aaI hn 1 rfl)) (fun m8 h => ?_))
          refine v_goto (pc := 98) (tgt := 0) dX12_settle_98 (by decide) ?_
          exact VG_sub (al' := [(0, aR 603), (1, aI p0)]) [0, 1] rfl h
        · have h := h.2 c1
          refine v_aload_n (pc := 63) dX12_settle_63 0 rfl ?_
          refine m_getfin (pc := 64) (v := 615) hE dX12_settle_64 flX12_48 rfl at603 rfl ?_
          refine v_aload_n (pc := 67) dX12_settle_67 0 rfl ?_
          refine m_getfin (pc := 68) (v := 617) hE dX12_settle_68 flX12_54 rfl at603 rfl ?_
          refine v_aload_n (pc := 71) dX12_settle_71 0 rfl ?_
          refine m_getf (pc := 72) (t := 0) (v := ((m3 603 29) - 1)) dX12_settle_72 flX12_281 rfl at603 (aUp_re) ?_
          refine m_iald (pc := 75) (v := (m3 617 ((m3 603 29) - 1))) dX12_settle_75 at617 o6.1 o6.2 (aUp_rn (by omega)) ?_
          refine v_aload_n (pc := 76) dX12_settle_76 0 rfl ?_
          refine m_getf (pc := 77) (t := 0) (v := (m3 603 23)) dX12_settle_77 flX12_278 rfl at603 (aUp_ri (by decide)) ?_
          obtain ⟨o9, h⟩ := h
          refine v_iast (pc := 80) dX12_settle_80 at615 o9.1 o9.2 ?_
          refine v_goto (pc := 81) (tgt := 0) dX12_settle_81 (by decide) ?_
          exact VG_sub (al' := [(0, aR 603), (1, aI p0)]) [0, 1] rfl h
theorem eX12_settle {E : EN} {k : Nat} {mem : Mm} {Q : Mm → Prop} {p0 : Int} (hr_p0 : R32 p0) (h : VM E mX12_settle (k + 1) mem 0 [(0, aR 603), (1, aI p0)] [] (retV Q)) : CV E mX12_settle (k + 1) mem [aR 603, aI p0] Q := CV_of rfl (Nat.le_of_ble_eq_true rfl) h (aNs_c (aNr_R _) (aNs_c (aNr_I hr_p0) (fun _ q => nomatch q)))

theorem dX12_inner_0 : decode cX12_inner 0 = .ok (.iconst (-1), 1) := by decide +kernel
theorem dX12_inner_1 : decode cX12_inner 1 = .ok (.istore_n 1, 1) := by decide +kernel
theorem dX12_inner_2 : decode cX12_inner 2 = .ok (.iconst 0, 1) := by decide +kernel
theorem dX12_inner_3 : decode cX12_inner 3 = .ok (.istore_n 2, 1) := by decide +kernel
theorem dX12_inner_4 : decode cX12_inner 4 = .ok (.iload_n 2, 1) := by decide +kernel
theorem dX12_inner_5 : decode cX12_inner 5 = .ok (.aload_n 0, 1) := by decide +kernel
theorem dX12_inner_6 : decode cX12_inner 6 = .ok (.getfield 281, 3) := by decide +kernel
theorem dX12_inner_9 : decode cX12_inner 9 = .ok (.if_icmp .ge 31, 3) := by decide +kernel
theorem dX12_inner_12 : decode cX12_inner 12 = .ok (.aload_n 0, 1) := by decide +kernel
theorem dX12_inner_13 : decode cX12_inner 13 = .ok (.getfield 51, 3) := by decide +kernel
theorem dX12_inner_16 : decode cX12_inner 16 = .ok (.iload_n 2, 1) := by decide +kernel
theorem dX12_inner_17 : decode cX12_inner 17 = .ok (.iaload, 1) := by decide +kernel
theorem dX12_inner_18 : decode cX12_inner 18 = .ok (.bipush 31, 2) := by decide +kernel
theorem dX12_inner_20 : decode cX12_inner 20 = .ok (.if_icmp .lt 12, 3) := by decide +kernel
theorem dX12_inner_23 : decode cX12_inner 23 = .ok (.aload_n 0, 1) := by decide +kernel
theorem dX12_inner_24 : decode cX12_inner 24 = .ok (.getfield 51, 3) := by decide +kernel
theorem dX12_inner_27 : decode cX12_inner 27 = .ok (.iload_n 2, 1) := by decide +kernel
theorem dX12_inner_28 : decode cX12_inner 28 = .ok (.iaload, 1) := by decide +kernel
theorem dX12_inner_29 : decode cX12_inner 29 = .ok (.goto 4, 3) := by decide +kernel
theorem dX12_inner_32 : decode cX12_inner 32 = .ok (.iload_n 1, 1) := by decide +kernel
theorem dX12_inner_33 : decode cX12_inner 33 = .ok (.istore_n 1, 1) := by decide +kernel
theorem dX12_inner_34 : decode cX12_inner 34 = .ok (.iinc 2 1, 3) := by decide +kernel
theorem dX12_inner_37 : decode cX12_inner 37 = .ok (.goto (-33), 3) := by decide +kernel
theorem dX12_inner_40 : decode cX12_inner 40 = .ok (.iload_n 1, 1) := by decide +kernel
theorem dX12_inner_41 : decode cX12_inner 41 = .ok (.ireturn, 1) := by decide +kernel
set_option maxRecDepth 20000 in
theorem rX12_inner_0 {E : EN} (hE : Ep E) {k : Nat} {mem : Mm} {Q : Int → Mm → Prop}
    (h : VM E mX12_inner k mem 4 [(0, aR 603), (1, aI (-1)), (2, aI 0)] [] (retI Q)) :
    VM E mX12_inner k mem 0 [(0, aR 603)] [] (retI Q) := by
  refine v_iconst (pc := 0) dX12_inner_0 (by decide) ?_
  refine v_istore_n (pc := 1) (al2 := [(1, aI (-1)), (0, aR 603)]) dX12_inner_1 (by decide) rfl ?_
  refine v_iconst (pc := 2) dX12_inner_2 (by decide) ?_
  refine v_istore_n (pc := 3) (al2 := [(2, aI 0), (1, aI (-1)), (0, aR 603)]) dX12_inner_3 (by decide) rfl ?_
  exact VG_sub (al' := [(0, aR 603), (1, aI (-1)), (2, aI 0)]) [2, 1, 0] rfl h
theorem eX12_inner {E : EN} {k : Nat} {mem : Mm} {Q : Int → Mm → Prop}  (h : VM E mX12_inner k mem 0 [(0, aR 603)] [] (retI Q)) : CI E mX12_inner k mem [aR 603] Q := CI_of rfl (Nat.le_of_ble_eq_true rfl) h (aNs_c (aNr_R _) (fun _ q => nomatch q))
set_option maxRecDepth 20000 in
theorem rX12_inner_4 {E : EN} (hE : Ep E) {k : Nat} {mem : Mm} {Q : Int → Mm → Prop} {x1 x2 : Int}
    (h : (((mem 603 29) ≤ x2 → Q x1 mem) ∧ (x2 < (mem 603 29) → (0 ≤ x2 ∧ x2 < 400) ∧ (((mem 616 x2) < 31 → (R32 (x2 + 1)) ∧ VM E mX12_inner k mem 4 [(0, aR 603), (1, aI x1), (2, aI (x2 + 1))] [] (retI Q)) ∧ (31 ≤ (mem 616 x2) → (R32 (x2 + 1)) ∧ VM E mX12_inner k mem 4 [(0, aR 603), (1, aI (mem 616 x2)), (2, aI (x2 + 1))] [] (retI Q)))))) :
    VM E mX12_inner k mem 4 [(0, aR 603), (1, aI x1), (2, aI x2)] [] (retI Q) := by
  refine v_iload_n (pc := 4) dX12_inner_4 2 rfl ?_
  refine v_aload_n (pc := 5) dX12_inner_5 0 rfl ?_
  refine m_getf (pc := 6) (t := 0) (v := (mem 603 29)) dX12_inner_6 flX12_281 rfl at603 rfl ?_
  refine v_icmpge (pc := 9) (tgt := 40) dX12_inner_9 (by decide) (fun c1 => ?_) (fun c1 => ?_)
  · have h := h.1 c1
    refine v_iload_n (pc := 40) dX12_inner_40 1 rfl ?_
    exact m_retI (pc := 41) dX12_inner_41 rfl h
  · have h := h.2 c1
    refine v_aload_n (pc := 12) dX12_inner_12 0 rfl ?_
    refine m_getfin (pc := 13) (v := 616) hE dX12_inner_13 flX12_51 rfl at603 rfl ?_
    refine v_iload_n (pc := 16) dX12_inner_16 2 rfl ?_
    obtain ⟨o1, h⟩ := h
    refine m_iald (pc := 17) (v := (mem 616 x2)) dX12_inner_17 at616 o1.1 o1.2 rfl ?_
    refine v_bipush (pc := 18) dX12_inner_18 (by decide) ?_
    refine v_icmplt (pc := 20) (tgt := 32) dX12_inner_20 (by decide) (fun c1 => ?_) (fun c1 => ?_)
    · have h := h.1 c1
      refine v_iload_n (pc := 32) dX12_inner_32 1 rfl ?_
      refine v_istore_n (pc := 33) (al2 := [(1, aI x1), (0, aR 603), (2, aI x2)]) dX12_inner_33 (by decide) rfl ?_
      obtain ⟨o2, h⟩ := h
      refine m_iinc (pc := 34) (al2 := [(2, aI (x2 + 1)), (1, aI x1), (0, aR 603)]) dX12_inner_34 2 rfl (by decide) o2 rfl ?_
      refine v_goto (pc := 37) (tgt := 4) dX12_inner_37 (by decide) ?_
      exact VG_sub (al' := [(0, aR 603), (1, aI x1), (2, aI (x2 + 1))]) [2, 1, 0] rfl h
    · have h := h.2 c1
      refine v_aload_n (pc := 23) dX12_inner_23 0 rfl ?_
      refine m_getfin (pc := 24) (v := 616) hE dX12_inner_24 flX12_51 rfl at603 rfl ?_
      refine v_iload_n (pc := 27) dX12_inner_27 2 rfl ?_
      refine m_iald (pc := 28) (v := (mem 616 x2)) dX12_inner_28 at616 o1.1 o1.2 rfl ?_
      refine v_goto (pc := 29) (tgt := 33) dX12_inner_29 (by decide) ?_
      refine v_istore_n (pc := 33) (al2 := [(1, aI (mem 616 x2)), (0, aR 603), (2, aI x2)]) dX12_inner_33 (by decide) rfl ?_
      obtain ⟨o3, h⟩ := h
      refine m_iinc (pc := 34) (al2 := [(2, aI (x2 + 1)), (1, aI (mem 616 x2)), (0, aR 603)]) dX12_inner_34 2 rfl (by decide) o3 rfl ?_
      refine v_goto (pc := 37) (tgt := 4) dX12_inner_37 (by decide) ?_
      exact VG_sub (al' := [(0, aR 603), (1, aI (mem 616 x2)), (2, aI (x2 + 1))]) [2, 1, 0] rfl h

theorem dX12_isCompared_0 : decode cX12_isCompared 0 = .ok (.aload_n 0, 1) := by decide +kernel
theorem dX12_isCompared_1 : decode cX12_isCompared 1 = .ok (.getfield 281, 3) := by decide +kernel
theorem dX12_isCompared_4 : decode cX12_isCompared 4 = .ok (.iconst 1, 1) := by decide +kernel
theorem dX12_isCompared_5 : decode cX12_isCompared 5 = .ok (.isub, 1) := by decide +kernel
theorem dX12_isCompared_6 : decode cX12_isCompared 6 = .ok (.istore_n 1, 1) := by decide +kernel
theorem dX12_isCompared_7 : decode cX12_isCompared 7 = .ok (.iload_n 1, 1) := by decide +kernel
theorem dX12_isCompared_8 : decode cX12_isCompared 8 = .ok (.ifCond .lt 28, 3) := by decide +kernel
theorem dX12_isCompared_11 : decode cX12_isCompared 11 = .ok (.aload_n 0, 1) := by decide +kernel
theorem dX12_isCompared_12 : decode cX12_isCompared 12 = .ok (.getfield 51, 3) := by decide +kernel
theorem dX12_isCompared_15 : decode cX12_isCompared 15 = .ok (.iload_n 1, 1) := by decide +kernel
theorem dX12_isCompared_16 : decode cX12_isCompared 16 = .ok (.iaload, 1) := by decide +kernel
theorem dX12_isCompared_17 : decode cX12_isCompared 17 = .ok (.i2l, 1) := by decide +kernel
theorem dX12_isCompared_18 : decode cX12_isCompared 18 = .ok (.ldc2_w 290, 3) := by decide +kernel
theorem dX12_isCompared_21 : decode cX12_isCompared 21 = .ok (.ldc2_w 292, 3) := by decide +kernel
theorem dX12_isCompared_24 : decode cX12_isCompared 24 = .ok (.invokestatic 182, 3) := by decide +kernel
theorem dX12_isCompared_27 : decode cX12_isCompared 27 = .ok (.ifCond .eq 9, 3) := by decide +kernel
theorem dX12_isCompared_30 : decode cX12_isCompared 30 = .ok (.iinc 1 (-1), 3) := by decide +kernel
theorem dX12_isCompared_33 : decode cX12_isCompared 33 = .ok (.goto (-26), 3) := by decide +kernel
theorem dX12_isCompared_36 : decode cX12_isCompared 36 = .ok (.iload_n 1, 1) := by decide +kernel
theorem dX12_isCompared_37 : decode cX12_isCompared 37 = .ok (.ifCond .lt 26, 3) := by decide +kernel
theorem dX12_isCompared_40 : decode cX12_isCompared 40 = .ok (.aload_n 0, 1) := by decide +kernel
theorem dX12_isCompared_41 : decode cX12_isCompared 41 = .ok (.getfield 51, 3) := by decide +kernel
theorem dX12_isCompared_44 : decode cX12_isCompared 44 = .ok (.iload_n 1, 1) := by decide +kernel
theorem dX12_isCompared_45 : decode cX12_isCompared 45 = .ok (.iaload, 1) := by decide +kernel
theorem dX12_isCompared_46 : decode cX12_isCompared 46 = .ok (.i2l, 1) := by decide +kernel
theorem dX12_isCompared_47 : decode cX12_isCompared 47 = .ok (.ldc2_w 294, 3) := by decide +kernel
theorem dX12_isCompared_50 : decode cX12_isCompared 50 = .ok (.ldc2_w 296, 3) := by decide +kernel
theorem dX12_isCompared_53 : decode cX12_isCompared 53 = .ok (.invokestatic 182, 3) := by decide +kernel
theorem dX12_isCompared_56 : decode cX12_isCompared 56 = .ok (.ifCond .eq 7, 3) := by decide +kernel
theorem dX12_isCompared_59 : decode cX12_isCompared 59 = .ok (.iconst 1, 1) := by decide +kernel
theorem dX12_isCompared_60 : decode cX12_isCompared 60 = .ok (.goto 4, 3) := by decide +kernel
theorem dX12_isCompared_63 : decode cX12_isCompared 63 = .ok (.iconst 0, 1) := by decide +kernel
theorem dX12_isCompared_64 : decode cX12_isCompared 64 = .ok (.ireturn, 1) := by decide +kernel
set_option maxRecDepth 20000 in
theorem rX12_isCompared_0 {E : EN} (hE : Ep E) {k : Nat} {mem : Mm} {Q : Int → Mm → Prop}
    (h : (R32 ((mem 603 29) - 1)) ∧ VM E mX12_isCompared (k + 1) mem 7 [(0, aR 603), (1, aI ((mem 603 29) - 1))] [] (retI Q)) :
    VM E mX12_isCompared (k + 1) mem 0 [(0, aR 603)] [] (retI Q) := by
  refine v_aload_n (pc := 0) dX12_isCompared_0 0 rfl ?_
  refine m_getf (pc := 1) (t := 0) (v := (mem 603 29)) dX12_isCompared_1 flX12_281 rfl at603 rfl ?_
  refine v_iconst (pc := 4) dX12_isCompared_4 (by decide) ?_
  obtain ⟨o1, h⟩ := h
  refine m_isub (pc := 5) dX12_isCompared_5 o1 ?_
  refine v_istore_n (pc := 6) (al2 := [(1, aI ((mem 603 29) - 1)), (0, aR 603)]) dX12_isCompared_6 (by decide) rfl ?_
  exact VG_sub (al' := [(0, aR 603), (1, aI ((mem 603 29) - 1))]) [1, 0] rfl h
theorem eX12_isCompared {E : EN} {k : Nat} {mem : Mm} {Q : Int → Mm → Prop}  (h : VM E mX12_isCompared (k + 1) mem 0 [(0, aR 603)] [] (retI Q)) : CI E mX12_isCompared (k + 1) mem [aR 603] Q := CI_of rfl (Nat.le_of_ble_eq_true rfl) h (aNs_c (aNr_R _) (fun _ q => nomatch q))
set_option maxRecDepth 20000 in
theorem rX12_isCompared_7 {E : EN} (hE : Ep E) {k : Nat} {mem : Mm} {Q : Int → Mm → Prop} {x1 : Int}
    (h : ((x1 < 0 → ((x1 < 0 → Q 0 mem) ∧ (0 ≤ x1 → (0 ≤ x1 ∧ x1 < 400) ∧ (R64 (mem 616 x1) → CI E mX12_in k mem [aL (mem 616 x1), aL 25, aL 27] (fun r3 m2 => ((r3 = 0 → Q 0 m2) ∧ (¬ r3 = 0 → Q 1 m2))))))) ∧ (0 ≤ x1 → (0 ≤ x1 ∧ x1 < 400) ∧ (R64 (mem 616 x1) → CI E mX12_in k mem [aL (mem 616 x1), aL 20, aL 24] (fun r6 m5 => ((r6 = 0 → ((x1 < 0 → Q 0 m5) ∧ (0 ≤ x1 → (R64 (m5 616 x1) → CI E mX12_in k m5 [aL (m5 616 x1), aL 25, aL 27] (fun r8 m7 => ((r8 = 0 → Q 0 m7) ∧ (¬ r8 = 0 → Q 1 m7))))))) ∧ (¬ r6 = 0 → (R32 (x1 + (-1))) ∧ VM E mX12_isCompared (k + 1) m5 7 [(0, aR 603), (1, aI (x1 + (-1)))] [] (retI Q)))))))) :
    VM E mX12_isCompared (k + 1) mem 7 [(0, aR 603), (1, aI x1)] [] (retI Q) := by
  refine v_iload_n (pc := 7) dX12_isCompared_7 1 rfl ?_
  refine v_iflt (pc := 8) (tgt := 36) dX12_isCompared_8 (by decide) (fun c1 => ?_) (fun c1 => ?_)
  · have h := h.1 c1
    refine v_iload_n (pc := 36) dX12_isCompared_36 1 rfl ?_
    refine v_iflt (pc := 37) (tgt := 63) dX12_isCompared_37 (by decide) (fun c1 => ?_) (fun c1 => ?_)
    · have h := h.1 c1
      refine v_iconst (pc := 63) dX12_isCompared_63 (by decide) ?_
      exact m_retZ (pc := 64) dX12_isCompared_64 rfl (by decide) h
    · have h := h.2 c1
      refine v_aload_n (pc := 40) dX12_isCompared_40 0 rfl ?_
      refine m_getfin (pc := 41) (v := 616) hE dX12_isCompared_41 flX12_51 rfl at603 rfl ?_
      refine v_iload_n (pc := 44) dX12_isCompared_44 1 rfl ?_
      obtain ⟨o1, h⟩ := h
      refine m_iald (pc := 45) (v := (mem 616 x1)) dX12_isCompared_45 at616 o1.1 o1.2 rfl ?_
      refine v_i2l (pc := 46) dX12_isCompared_46 ?_
      refine v_ldc2 (pc := 47) (n := 25) dX12_isCompared_47 cnX12_294 (by decide) ?_
      refine v_ldc2 (pc := 50) (n := 27) dX12_isCompared_50 cnX12_296 (by decide) ?_
      refine m_invSI (pc := 53) (mi' := mX12_in) (rest := []) [aL (mem 616 x1), aL 25, aL 27] dX12_isCompared_53 msX12_in stX12_in lkX12_182 rfl (Nat.le_of_ble_eq_true rfl) (fun hn => CI_mono (h (aaL hn 0 rfl)) (fun r3 m2 h => ?_))
      refine v_ifeq (pc := 56) (tgt := 63) dX12_isCompared_56 (by decide) (fun c1 => ?_) (fun c1 => ?_)
      · have h := h.1 c1
        refine v_iconst (pc := 63) dX12_isCompared_63 (by decide) ?_
        exact m_retZ (pc := 64) dX12_isCompared_64 rfl (by decide) h
      · have h := h.2 c1
        refine v_iconst (pc := 59) dX12_isCompared_59 (by decide) ?_
        refine v_goto (pc := 60) (tgt := 64) dX12_isCompared_60 (by decide) ?_
        exact m_retZ (pc := 64) dX12_isCompared_64 rfl (by decide) h
  · have h := h.2 c1
    refine v_aload_n (pc := 11) dX12_isCompared_11 0 rfl ?_
    refine m_getfin (pc := 12) (v := 616) hE dX12_isCompared_12 flX12_51 rfl at603 rfl ?_
    refine v_iload_n (pc := 15) dX12_isCompared_15 1 rfl ?_
    obtain ⟨o4, h⟩ := h
    refine m_iald (pc := 16) (v := (mem 616 x1)) dX12_isCompared_16 at616 o4.1 o4.2 rfl ?_
    refine v_i2l (pc := 17) dX12_isCompared_17 ?_
    refine v_ldc2 (pc := 18) (n := 20) dX12_isCompared_18 cnX12_290 (by decide) ?_
    refine v_ldc2 (pc := 21) (n := 24) dX12_isCompared_21 cnX12_292 (by decide) ?_
    refine m_invSI (pc := 24) (mi' := mX12_in) (rest := []) [aL (mem 616 x1), aL 20, aL 24] dX12_isCompared_24 msX12_in stX12_in lkX12_182 rfl (Nat.le_of_ble_eq_true rfl) (fun hn => CI_mono (h (aaL hn 0 rfl)) (fun r6 m5 h => ?_))
    refine v_ifeq (pc := 27) (tgt := 36) dX12_isCompared_27 (by decide) (fun c1 => ?_) (fun c1 => ?_)
    · have h := h.1 c1
      refine v_iload_n (pc := 36) dX12_isCompared_36 1 rfl ?_
      refine v_iflt (pc := 37) (tgt := 63) dX12_isCompared_37 (by decide) (fun c1 => ?_) (fun c1 => ?_)
      · have h := h.1 c1
        refine v_iconst (pc := 63) dX12_isCompared_63 (by decide) ?_
        exact m_retZ (pc := 64) dX12_isCompared_64 rfl (by decide) h
      · have h := h.2 c1
        refine v_aload_n (pc := 40) dX12_isCompared_40 0 rfl ?_
        refine m_getfin (pc := 41) (v := 616) hE dX12_isCompared_41 flX12_51 rfl at603 rfl ?_
        refine v_iload_n (pc := 44) dX12_isCompared_44 1 rfl ?_
        refine m_iald (pc := 45) (v := (m5 616 x1)) dX12_isCompared_45 at616 o4.1 o4.2 rfl ?_
        refine v_i2l (pc := 46) dX12_isCompared_46 ?_
        refine v_ldc2 (pc := 47) (n := 25) dX12_isCompared_47 cnX12_294 (by decide) ?_
        refine v_ldc2 (pc := 50) (n := 27) dX12_isCompared_50 cnX12_296 (by decide) ?_
        refine m_invSI (pc := 53) (mi' := mX12_in) (rest := []) [aL (m5 616 x1), aL 25, aL 27] dX12_isCompared_53 msX12_in stX12_in lkX12_182 rfl (Nat.le_of_ble_eq_true rfl) (fun hn => CI_mono (h (aaL hn 0 rfl)) (fun r8 m7 h => ?_))
        refine v_ifeq (pc := 56) (tgt := 63) dX12_isCompared_56 (by decide) (fun c1 => ?_) (fun c1 => ?_)
        · have h := h.1 c1
          refine v_iconst (pc := 63) dX12_isCompared_63 (by decide) ?_
          exact m_retZ (pc := 64) dX12_isCompared_64 rfl (by decide) h
        · have h := h.2 c1
          refine v_iconst (pc := 59) dX12_isCompared_59 (by decide) ?_
          refine v_goto (pc := 60) (tgt := 64) dX12_isCompared_60 (by decide) ?_
          exact m_retZ (pc := 64) dX12_isCompared_64 rfl (by decide) h
    · have h := h.2 c1
      obtain ⟨o9, h⟩ := h
      refine m_iinc (pc := 30) (al2 := [(1, aI (x1 + (-1))), (0, aR 603)]) dX12_isCompared_30 1 rfl (by decide) o9 rfl ?_
      refine v_goto (pc := 33) (tgt := 7) dX12_isCompared_33 (by decide) ?_
      exact VG_sub (al' := [(0, aR 603), (1, aI (x1 + (-1)))]) [1, 0] rfl h

theorem dX12_partAt_0 : decode cX12_partAt 0 = .ok (.iconst (-1), 1) := by decide +kernel
theorem dX12_partAt_1 : decode cX12_partAt 1 = .ok (.istore_n 1, 1) := by decide +kernel
theorem dX12_partAt_2 : decode cX12_partAt 2 = .ok (.iconst 0, 1) := by decide +kernel
theorem dX12_partAt_3 : decode cX12_partAt 3 = .ok (.istore_n 2, 1) := by decide +kernel
theorem dX12_partAt_4 : decode cX12_partAt 4 = .ok (.iload_n 2, 1) := by decide +kernel
theorem dX12_partAt_5 : decode cX12_partAt 5 = .ok (.bipush 10, 2) := by decide +kernel
theorem dX12_partAt_7 : decode cX12_partAt 7 = .ok (.if_icmp .ge 30, 3) := by decide +kernel
theorem dX12_partAt_10 : decode cX12_partAt 10 = .ok (.aload_n 0, 1) := by decide +kernel
theorem dX12_partAt_11 : decode cX12_partAt 11 = .ok (.aload_n 0, 1) := by decide +kernel
theorem dX12_partAt_12 : decode cX12_partAt 12 = .ok (.getfield 77, 3) := by decide +kernel
theorem dX12_partAt_15 : decode cX12_partAt 15 = .ok (.iload_n 2, 1) := by decide +kernel
theorem dX12_partAt_16 : decode cX12_partAt 16 = .ok (.laload, 1) := by decide +kernel
theorem dX12_partAt_17 : decode cX12_partAt 17 = .ok (.invokevirtual 298, 3) := by decide +kernel
theorem dX12_partAt_20 : decode cX12_partAt 20 = .ok (.ifCond .eq 9, 3) := by decide +kernel
theorem dX12_partAt_23 : decode cX12_partAt 23 = .ok (.iload_n 2, 1) := by decide +kernel
theorem dX12_partAt_24 : decode cX12_partAt 24 = .ok (.iconst 1, 1) := by decide +kernel
theorem dX12_partAt_25 : decode cX12_partAt 25 = .ok (.iadd, 1) := by decide +kernel
theorem dX12_partAt_26 : decode cX12_partAt 26 = .ok (.goto 4, 3) := by decide +kernel
theorem dX12_partAt_29 : decode cX12_partAt 29 = .ok (.iload_n 1, 1) := by decide +kernel
theorem dX12_partAt_30 : decode cX12_partAt 30 = .ok (.istore_n 1, 1) := by decide +kernel
theorem dX12_partAt_31 : decode cX12_partAt 31 = .ok (.iinc 2 1, 3) := by decide +kernel
theorem dX12_partAt_34 : decode cX12_partAt 34 = .ok (.goto (-30), 3) := by decide +kernel
theorem dX12_partAt_37 : decode cX12_partAt 37 = .ok (.iload_n 1, 1) := by decide +kernel
theorem dX12_partAt_38 : decode cX12_partAt 38 = .ok (.ireturn, 1) := by decide +kernel
set_option maxRecDepth 20000 in
theorem rX12_partAt_0 {E : EN} (hE : Ep E) {k : Nat} {mem : Mm} {Q : Int → Mm → Prop}
    (h : VM E mX12_partAt (k + 1) mem 4 [(0, aR 603), (1, aI (-1)), (2, aI 0)] [] (retI Q)) :
    VM E mX12_partAt (k + 1) mem 0 [(0, aR 603)] [] (retI Q) := by
  refine v_iconst (pc := 0) dX12_partAt_0 (by decide) ?_
  refine v_istore_n (pc := 1) (al2 := [(1, aI (-1)), (0, aR 603)]) dX12_partAt_1 (by decide) rfl ?_
  refine v_iconst (pc := 2) dX12_partAt_2 (by decide) ?_
  refine v_istore_n (pc := 3) (al2 := [(2, aI 0), (1, aI (-1)), (0, aR 603)]) dX12_partAt_3 (by decide) rfl ?_
  exact VG_sub (al' := [(0, aR 603), (1, aI (-1)), (2, aI 0)]) [2, 1, 0] rfl h
theorem eX12_partAt {E : EN} {k : Nat} {mem : Mm} {Q : Int → Mm → Prop}  (h : VM E mX12_partAt (k + 1) mem 0 [(0, aR 603)] [] (retI Q)) : CI E mX12_partAt (k + 1) mem [aR 603] Q := CI_of rfl (Nat.le_of_ble_eq_true rfl) h (aNs_c (aNr_R _) (fun _ q => nomatch q))
set_option maxRecDepth 20000 in
theorem rX12_partAt_4 {E : EN} (hE : Ep E) {k : Nat} {mem : Mm} {Q : Int → Mm → Prop} {x1 x2 : Int}
    (h : ((10 ≤ x2 → Q x1 mem) ∧ (x2 < 10 → (0 ≤ x2 ∧ x2 < 10) ∧ (R64 (mem 618 x2) → CI E mX12_isWord k mem [aR 603, aL (mem 618 x2)] (fun r3 m2 => ((r3 = 0 → (R32 (x2 + 1)) ∧ VM E mX12_partAt (k + 1) m2 4 [(0, aR 603), (1, aI x1), (2, aI (x2 + 1))] [] (retI Q)) ∧ (¬ r3 = 0 → (R32 (x2 + 1)) ∧ VM E mX12_partAt (k + 1) m2 4 [(0, aR 603), (1, aI (x2 + 1)), (2, aI (x2 + 1))] [] (retI Q)))))))) :
    VM E mX12_partAt (k + 1) mem 4 [(0, aR 603), (1, aI x1), (2, aI x2)] [] (retI Q) := by
  refine v_iload_n (pc := 4) dX12_partAt_4 2 rfl ?_
  refine v_bipush (pc := 5) dX12_partAt_5 (by decide) ?_
  refine v_icmpge (pc := 7) (tgt := 37) dX12_partAt_7 (by decide) (fun c1 => ?_) (fun c1 => ?_)
  · have h := h.1 c1
    refine v_iload_n (pc := 37) dX12_partAt_37 1 rfl ?_
    exact m_retI (pc := 38) dX12_partAt_38 rfl h
  · have h := h.2 c1
    refine v_aload_n (pc := 10) dX12_partAt_10 0 rfl ?_
    refine v_aload_n (pc := 11) dX12_partAt_11 0 rfl ?_
    refine m_getfin (pc := 12) (v := 618) hE dX12_partAt_12 flX12_77 rfl at603 rfl ?_
    refine v_iload_n (pc := 15) dX12_partAt_15 2 rfl ?_
    obtain ⟨o1, h⟩ := h
    refine m_lald (pc := 16) (v := (mem 618 x2)) dX12_partAt_16 at618 o1.1 o1.2 rfl ?_
    refine m_invI (pc := 17) (mi' := mX12_isWord) (rest := []) [aL (mem 618 x2)] dX12_partAt_17 at603 (by decide) rfl msX12_isWord mvX12_isWord lkX12_298 rfl (Nat.le_of_ble_eq_true rfl) (fun hn => CI_mono (h (aaL hn 1 rfl)) (fun r3 m2 h => ?_))
    refine v_ifeq (pc := 20) (tgt := 29) dX12_partAt_20 (by decide) (fun c1 => ?_) (fun c1 => ?_)
    · have h := h.1 c1
      refine v_iload_n (pc := 29) dX12_partAt_29 1 rfl ?_
      refine v_istore_n (pc := 30) (al2 := [(1, aI x1), (0, aR 603), (2, aI x2)]) dX12_partAt_30 (by decide) rfl ?_
      obtain ⟨o4, h⟩ := h
      refine m_iinc (pc := 31) (al2 := [(2, aI (x2 + 1)), (1, aI x1), (0, aR 603)]) dX12_partAt_31 2 rfl (by decide) o4 rfl ?_
      refine v_goto (pc := 34) (tgt := 4) dX12_partAt_34 (by decide) ?_
      exact VG_sub (al' := [(0, aR 603), (1, aI x1), (2, aI (x2 + 1))]) [2, 1, 0] rfl h
    · have h := h.2 c1
      refine v_iload_n (pc := 23) dX12_partAt_23 2 rfl ?_
      refine v_iconst (pc := 24) dX12_partAt_24 (by decide) ?_
      obtain ⟨o5, h⟩ := h
      refine m_iadd (pc := 25) dX12_partAt_25 o5 ?_
      refine v_goto (pc := 26) (tgt := 30) dX12_partAt_26 (by decide) ?_
      refine v_istore_n (pc := 30) (al2 := [(1, aI (x2 + 1)), (0, aR 603), (2, aI x2)]) dX12_partAt_30 (by decide) rfl ?_
      refine m_iinc (pc := 31) (al2 := [(2, aI (x2 + 1)), (1, aI (x2 + 1)), (0, aR 603)]) dX12_partAt_31 2 rfl (by decide) o5 rfl ?_
      refine v_goto (pc := 34) (tgt := 4) dX12_partAt_34 (by decide) ?_
      exact VG_sub (al' := [(0, aR 603), (1, aI (x2 + 1)), (2, aI (x2 + 1))]) [2, 1, 0] rfl h

theorem dX12_orderPartAt_0 : decode cX12_orderPartAt 0 = .ok (.iconst (-1), 1) := by decide +kernel
theorem dX12_orderPartAt_1 : decode cX12_orderPartAt 1 = .ok (.istore_n 1, 1) := by decide +kernel
theorem dX12_orderPartAt_2 : decode cX12_orderPartAt 2 = .ok (.iconst 0, 1) := by decide +kernel
theorem dX12_orderPartAt_3 : decode cX12_orderPartAt 3 = .ok (.istore_n 2, 1) := by decide +kernel
theorem dX12_orderPartAt_4 : decode cX12_orderPartAt 4 = .ok (.iload_n 2, 1) := by decide +kernel
theorem dX12_orderPartAt_5 : decode cX12_orderPartAt 5 = .ok (.bipush 7, 2) := by decide +kernel
theorem dX12_orderPartAt_7 : decode cX12_orderPartAt 7 = .ok (.if_icmp .ge 30, 3) := by decide +kernel
theorem dX12_orderPartAt_10 : decode cX12_orderPartAt 10 = .ok (.aload_n 0, 1) := by decide +kernel
theorem dX12_orderPartAt_11 : decode cX12_orderPartAt 11 = .ok (.aload_n 0, 1) := by decide +kernel
theorem dX12_orderPartAt_12 : decode cX12_orderPartAt 12 = .ok (.getfield 89, 3) := by decide +kernel
theorem dX12_orderPartAt_15 : decode cX12_orderPartAt 15 = .ok (.iload_n 2, 1) := by decide +kernel
theorem dX12_orderPartAt_16 : decode cX12_orderPartAt 16 = .ok (.laload, 1) := by decide +kernel
theorem dX12_orderPartAt_17 : decode cX12_orderPartAt 17 = .ok (.invokevirtual 298, 3) := by decide +kernel
theorem dX12_orderPartAt_20 : decode cX12_orderPartAt 20 = .ok (.ifCond .eq 9, 3) := by decide +kernel
theorem dX12_orderPartAt_23 : decode cX12_orderPartAt 23 = .ok (.iload_n 2, 1) := by decide +kernel
theorem dX12_orderPartAt_24 : decode cX12_orderPartAt 24 = .ok (.iconst 1, 1) := by decide +kernel
theorem dX12_orderPartAt_25 : decode cX12_orderPartAt 25 = .ok (.iadd, 1) := by decide +kernel
theorem dX12_orderPartAt_26 : decode cX12_orderPartAt 26 = .ok (.goto 4, 3) := by decide +kernel
theorem dX12_orderPartAt_29 : decode cX12_orderPartAt 29 = .ok (.iload_n 1, 1) := by decide +kernel
theorem dX12_orderPartAt_30 : decode cX12_orderPartAt 30 = .ok (.istore_n 1, 1) := by decide +kernel
theorem dX12_orderPartAt_31 : decode cX12_orderPartAt 31 = .ok (.iinc 2 1, 3) := by decide +kernel
theorem dX12_orderPartAt_34 : decode cX12_orderPartAt 34 = .ok (.goto (-30), 3) := by decide +kernel
theorem dX12_orderPartAt_37 : decode cX12_orderPartAt 37 = .ok (.iload_n 1, 1) := by decide +kernel
theorem dX12_orderPartAt_38 : decode cX12_orderPartAt 38 = .ok (.ireturn, 1) := by decide +kernel
set_option maxRecDepth 20000 in
theorem rX12_orderPartAt_0 {E : EN} (hE : Ep E) {k : Nat} {mem : Mm} {Q : Int → Mm → Prop}
    (h : VM E mX12_orderPartAt (k + 1) mem 4 [(0, aR 603), (1, aI (-1)), (2, aI 0)] [] (retI Q)) :
    VM E mX12_orderPartAt (k + 1) mem 0 [(0, aR 603)] [] (retI Q) := by
  refine v_iconst (pc := 0) dX12_orderPartAt_0 (by decide) ?_
  refine v_istore_n (pc := 1) (al2 := [(1, aI (-1)), (0, aR 603)]) dX12_orderPartAt_1 (by decide) rfl ?_
  refine v_iconst (pc := 2) dX12_orderPartAt_2 (by decide) ?_
  refine v_istore_n (pc := 3) (al2 := [(2, aI 0), (1, aI (-1)), (0, aR 603)]) dX12_orderPartAt_3 (by decide) rfl ?_
  exact VG_sub (al' := [(0, aR 603), (1, aI (-1)), (2, aI 0)]) [2, 1, 0] rfl h
theorem eX12_orderPartAt {E : EN} {k : Nat} {mem : Mm} {Q : Int → Mm → Prop}  (h : VM E mX12_orderPartAt (k + 1) mem 0 [(0, aR 603)] [] (retI Q)) : CI E mX12_orderPartAt (k + 1) mem [aR 603] Q := CI_of rfl (Nat.le_of_ble_eq_true rfl) h (aNs_c (aNr_R _) (fun _ q => nomatch q))
set_option maxRecDepth 20000 in
theorem rX12_orderPartAt_4 {E : EN} (hE : Ep E) {k : Nat} {mem : Mm} {Q : Int → Mm → Prop} {x1 x2 : Int}
    (h : ((7 ≤ x2 → Q x1 mem) ∧ (x2 < 7 → (0 ≤ x2 ∧ x2 < 7) ∧ (R64 (mem 619 x2) → CI E mX12_isWord k mem [aR 603, aL (mem 619 x2)] (fun r3 m2 => ((r3 = 0 → (R32 (x2 + 1)) ∧ VM E mX12_orderPartAt (k + 1) m2 4 [(0, aR 603), (1, aI x1), (2, aI (x2 + 1))] [] (retI Q)) ∧ (¬ r3 = 0 → (R32 (x2 + 1)) ∧ VM E mX12_orderPartAt (k + 1) m2 4 [(0, aR 603), (1, aI (x2 + 1)), (2, aI (x2 + 1))] [] (retI Q)))))))) :
    VM E mX12_orderPartAt (k + 1) mem 4 [(0, aR 603), (1, aI x1), (2, aI x2)] [] (retI Q) := by
  refine v_iload_n (pc := 4) dX12_orderPartAt_4 2 rfl ?_
  refine v_bipush (pc := 5) dX12_orderPartAt_5 (by decide) ?_
  refine v_icmpge (pc := 7) (tgt := 37) dX12_orderPartAt_7 (by decide) (fun c1 => ?_) (fun c1 => ?_)
  · have h := h.1 c1
    refine v_iload_n (pc := 37) dX12_orderPartAt_37 1 rfl ?_
    exact m_retI (pc := 38) dX12_orderPartAt_38 rfl h
  · have h := h.2 c1
    refine v_aload_n (pc := 10) dX12_orderPartAt_10 0 rfl ?_
    refine v_aload_n (pc := 11) dX12_orderPartAt_11 0 rfl ?_
    refine m_getfin (pc := 12) (v := 619) hE dX12_orderPartAt_12 flX12_89 rfl at603 rfl ?_
    refine v_iload_n (pc := 15) dX12_orderPartAt_15 2 rfl ?_
    obtain ⟨o1, h⟩ := h
    refine m_lald (pc := 16) (v := (mem 619 x2)) dX12_orderPartAt_16 at619 o1.1 o1.2 rfl ?_
    refine m_invI (pc := 17) (mi' := mX12_isWord) (rest := []) [aL (mem 619 x2)] dX12_orderPartAt_17 at603 (by decide) rfl msX12_isWord mvX12_isWord lkX12_298 rfl (Nat.le_of_ble_eq_true rfl) (fun hn => CI_mono (h (aaL hn 1 rfl)) (fun r3 m2 h => ?_))
    refine v_ifeq (pc := 20) (tgt := 29) dX12_orderPartAt_20 (by decide) (fun c1 => ?_) (fun c1 => ?_)
    · have h := h.1 c1
      refine v_iload_n (pc := 29) dX12_orderPartAt_29 1 rfl ?_
      refine v_istore_n (pc := 30) (al2 := [(1, aI x1), (0, aR 603), (2, aI x2)]) dX12_orderPartAt_30 (by decide) rfl ?_
      obtain ⟨o4, h⟩ := h
      refine m_iinc (pc := 31) (al2 := [(2, aI (x2 + 1)), (1, aI x1), (0, aR 603)]) dX12_orderPartAt_31 2 rfl (by decide) o4 rfl ?_
      refine v_goto (pc := 34) (tgt := 4) dX12_orderPartAt_34 (by decide) ?_
      exact VG_sub (al' := [(0, aR 603), (1, aI x1), (2, aI (x2 + 1))]) [2, 1, 0] rfl h
    · have h := h.2 c1
      refine v_iload_n (pc := 23) dX12_orderPartAt_23 2 rfl ?_
      refine v_iconst (pc := 24) dX12_orderPartAt_24 (by decide) ?_
      obtain ⟨o5, h⟩ := h
      refine m_iadd (pc := 25) dX12_orderPartAt_25 o5 ?_
      refine v_goto (pc := 26) (tgt := 30) dX12_orderPartAt_26 (by decide) ?_
      refine v_istore_n (pc := 30) (al2 := [(1, aI (x2 + 1)), (0, aR 603), (2, aI x2)]) dX12_orderPartAt_30 (by decide) rfl ?_
      refine m_iinc (pc := 31) (al2 := [(2, aI (x2 + 1)), (1, aI (x2 + 1)), (0, aR 603)]) dX12_orderPartAt_31 2 rfl (by decide) o5 rfl ?_
      refine v_goto (pc := 34) (tgt := 4) dX12_orderPartAt_34 (by decide) ?_
      exact VG_sub (al' := [(0, aR 603), (1, aI (x2 + 1)), (2, aI (x2 + 1))]) [2, 1, 0] rfl h

theorem dX12_openBracket_0 : decode cX12_openBracket 0 = .ok (.aload_n 0, 1) := by decide +kernel
theorem dX12_openBracket_1 : decode cX12_openBracket 1 = .ok (.aload_n 0, 1) := by decide +kernel
theorem dX12_openBracket_2 : decode cX12_openBracket 2 = .ok (.getfield 302, 3) := by decide +kernel
theorem dX12_openBracket_5 : decode cX12_openBracket 5 = .ok (.bipush 8, 2) := by decide +kernel
theorem dX12_openBracket_7 : decode cX12_openBracket 7 = .ok (.if_icmp .ge 7, 3) := by decide +kernel
theorem dX12_openBracket_10 : decode cX12_openBracket 10 = .ok (.iconst 1, 1) := by decide +kernel
theorem dX12_openBracket_11 : decode cX12_openBracket 11 = .ok (.goto 4, 3) := by decide +kernel
theorem dX12_openBracket_14 : decode cX12_openBracket 14 = .ok (.iconst 0, 1) := by decide +kernel
theorem dX12_openBracket_15 : decode cX12_openBracket 15 = .ok (.invokevirtual 274, 3) := by decide +kernel
theorem dX12_openBracket_18 : decode cX12_openBracket 18 = .ok (.aload_n 0, 1) := by decide +kernel
theorem dX12_openBracket_19 : decode cX12_openBracket 19 = .ok (.getfield 241, 3) := by decide +kernel
theorem dX12_openBracket_22 : decode cX12_openBracket 22 = .ok (.ifCond .ne 19, 3) := by decide +kernel
theorem dX12_openBracket_25 : decode cX12_openBracket 25 = .ok (.aload_n 0, 1) := by decide +kernel
theorem dX12_openBracket_26 : decode cX12_openBracket 26 = .ok (.dup, 1) := by decide +kernel
theorem dX12_openBracket_27 : decode cX12_openBracket 27 = .ok (.getfield 302, 3) := by decide +kernel
theorem dX12_openBracket_30 : decode cX12_openBracket 30 = .ok (.iconst 1, 1) := by decide +kernel
theorem dX12_openBracket_31 : decode cX12_openBracket 31 = .ok (.iadd, 1) := by decide +kernel
theorem dX12_openBracket_32 : decode cX12_openBracket 32 = .ok (.putfield 302, 3) := by decide +kernel
theorem dX12_openBracket_35 : decode cX12_openBracket 35 = .ok (.aload_n 0, 1) := by decide +kernel
theorem dX12_openBracket_36 : decode cX12_openBracket 36 = .ok (.iload_n 1, 1) := by decide +kernel
theorem dX12_openBracket_37 : decode cX12_openBracket 37 = .ok (.iconst 0, 1) := by decide +kernel
theorem dX12_openBracket_38 : decode cX12_openBracket 38 = .ok (.invokevirtual 305, 3) := by decide +kernel
theorem dX12_openBracket_41 : decode cX12_openBracket 41 = .ok (.return_, 1) := by decide +kernel
set_option maxRecDepth 20000 in
theorem rX12_openBracket_0 {E : EN} (hE : Ep E) {k : Nat} {mem : Mm} {Q : Mm → Prop} {p0 : Int}
    (h : ((8 ≤ (mem 603 30) → (CV E mX12_must k mem [aR 603, aI 0] (fun m1 => ((¬ (m1 603 19) = 0 → Q m1) ∧ ((m1 603 19) = 0 → (R32 ((m1 603 30) + 1)) ∧ (R32 p0 → CV E mX12_push k (aUp m1 603 30 ((m1 603 30) + 1)) [aR 603, aI p0, aI 0] (fun m3 => Q m3))))))) ∧ ((mem 603 30) < 8 → (CV E mX12_must k mem [aR 603, aI 1] (fun m4 => ((¬ (m4 603 19) = 0 → Q m4) ∧ ((m4 603 19) = 0 → (R32 ((m4 603 30) + 1)) ∧ (R32 p0 → CV E mX12_push k (aUp m4 603 30 ((m4 603 30) + 1)) [aR 603, aI p0, aI 0] (fun m6 => Q m6))))))))) :
    VM E mX12_openBracket (k + 1) mem 0 [(0, aR 603), (1, aI p0)] [] (retV Q) := by
  refine v_aload_n (pc := 0) dX12_openBracket_0 0 rfl ?_
  refine v_aload_n (pc := 1) dX12_openBracket_1 0 rfl ?_
  refine m_getf (pc := 2) (t := 0) (v := (mem 603 30)) dX12_openBracket_2 flX12_302 rfl at603 rfl ?_
  refine v_bipush (pc := 5) dX12_openBracket_5 (by decide) ?_
  refine v_icmpge (pc := 7) (tgt := 14) dX12_openBracket_7 (by decide) (fun c1 => ?_) (fun c1 => ?_)
  · have h := h.1 c1
    refine v_iconst (pc := 14) dX12_openBracket_14 (by decide) ?_
    refine m_invV (pc := 15) (mi' := mX12_must) (rest := []) [aI 0] dX12_openBracket_15 at603 (by decide) rfl msX12_must mvX12_must lkX12_274 rfl (Nat.le_of_ble_eq_true rfl) (fun hn => CV_mono (h) (fun m1 h => ?_))
    refine v_aload_n (pc := 18) dX12_openBracket_18 0 rfl ?_
    refine m_getf (pc := 19) (t := 0) (v := (m1 603 19)) dX12_openBracket_19 flX12_241 rfl at603 rfl ?_
    refine v_ifne (pc := 22) (tgt := 41) dX12_openBracket_22 (by decide) (fun c1 => ?_) (fun c1 => ?_)
    · have h := h.1 c1
      exact m_retV (pc := 41) dX12_openBracket_41 rfl h
    · have h := h.2 c1
      refine v_aload_n (pc := 25) dX12_openBracket_25 0 rfl ?_
      refine v_dup (pc := 26) dX12_openBracket_26 rfl ?_
      refine m_getf (pc := 27) (t := 0) (v := (m1 603 30)) dX12_openBracket_27 flX12_302 rfl at603 rfl ?_
      refine v_iconst (pc := 30) dX12_openBracket_30 (by decide) ?_
      obtain ⟨o2, h⟩ := h
      refine m_iadd (pc := 31) dX12_openBracket_31 o2 ?_
      refine v_putf (pc := 32) dX12_openBracket_32 flX12_302 ⟨_, _, rfl, Or.inl rfl⟩ rfl (by decide) (fun q => nomatch q) (Or.inl fun _ => rfl) at603 ?_
      refine v_aload_n (pc := 35) dX12_openBracket_35 0 rfl ?_
      refine v_iload_n (pc := 36) dX12_openBracket_36 1 rfl ?_
      refine v_iconst (pc := 37) dX12_openBracket_37 (by decide) ?_
      refine m_invV (pc := 38) (mi' := mX12_push) (rest := []) [aI p0, aI 0] dX12_openBracket_38 at603 (by decide) rfl msX12_push mvX12_push lkX12_305 rfl (Nat.le_of_ble_eq_true rfl) (fun hn => CV_mono (h (aaI hn 1 rfl)) (fun m3 h => ?_))
      exact m_retV (pc := 41) dX12_openBracket_41 rfl h
  · have h := h.2 c1
    refine v_iconst (pc := 10) dX12_openBracket_10 (by decide) ?_
    refine v_goto (pc := 11) (tgt := 15) dX12_openBracket_11 (by decide) ?_
    refine m_invV (pc := 15) (mi' := mX12_must) (rest := []) [aI 1] dX12_openBracket_15 at603 (by decide) rfl msX12_must mvX12_must lkX12_274 rfl (Nat.le_of_ble_eq_true rfl) (fun hn => CV_mono (h) (fun m4 h => ?_))
    refine v_aload_n (pc := 18) dX12_openBracket_18 0 rfl ?_
    refine m_getf (pc := 19) (t := 0) (v := (m4 603 19)) dX12_openBracket_19 flX12_241 rfl at603 rfl ?_
    refine v_ifne (pc := 22) (tgt := 41) dX12_openBracket_22 (by decide) (fun c1 => ?_) (fun c1 => ?_)
    · have h := h.1 c1
      exact m_retV (pc := 41) dX12_openBracket_41 rfl h
    · have h := h.2 c1
      refine v_aload_n (pc := 25) dX12_openBracket_25 0 rfl ?_
      refine v_dup (pc := 26) dX12_openBracket_26 rfl ?_
      refine m_getf (pc := 27) (t := 0) (v := (m4 603 30)) dX12_openBracket_27 flX12_302 rfl at603 rfl ?_
      refine v_iconst (pc := 30) dX12_openBracket_30 (by decide) ?_
      obtain ⟨o5, h⟩ := h
      refine m_iadd (pc := 31) dX12_openBracket_31 o5 ?_
      refine v_putf (pc := 32) dX12_openBracket_32 flX12_302 ⟨_, _, rfl, Or.inl rfl⟩ rfl (by decide) (fun q => nomatch q) (Or.inl fun _ => rfl) at603 ?_
      refine v_aload_n (pc := 35) dX12_openBracket_35 0 rfl ?_
      refine v_iload_n (pc := 36) dX12_openBracket_36 1 rfl ?_
      refine v_iconst (pc := 37) dX12_openBracket_37 (by decide) ?_
      refine m_invV (pc := 38) (mi' := mX12_push) (rest := []) [aI p0, aI 0] dX12_openBracket_38 at603 (by decide) rfl msX12_push mvX12_push lkX12_305 rfl (Nat.le_of_ble_eq_true rfl) (fun hn => CV_mono (h (aaI hn 1 rfl)) (fun m6 h => ?_))
      exact m_retV (pc := 41) dX12_openBracket_41 rfl h
theorem eX12_openBracket {E : EN} {k : Nat} {mem : Mm} {Q : Mm → Prop} {p0 : Int} (hr_p0 : R32 p0) (h : VM E mX12_openBracket (k + 1) mem 0 [(0, aR 603), (1, aI p0)] [] (retV Q)) : CV E mX12_openBracket (k + 1) mem [aR 603, aI p0] Q := CV_of rfl (Nat.le_of_ble_eq_true rfl) h (aNs_c (aNr_R _) (aNs_c (aNr_I hr_p0) (fun _ q => nomatch q)))

theorem dX12_leaf_0 : decode cX12_leaf 0 = .ok (.aload_n 0, 1) := by decide +kernel
theorem dX12_leaf_1 : decode cX12_leaf 1 = .ok (.iload_n 1, 1) := by decide +kernel
theorem dX12_leaf_2 : decode cX12_leaf 2 = .ok (.ifCond .eq 16, 3) := by decide +kernel
theorem dX12_leaf_5 : decode cX12_leaf 5 = .ok (.aload_n 0, 1) := by decide +kernel
theorem dX12_leaf_6 : decode cX12_leaf 6 = .ok (.getfield 308, 3) := by decide +kernel
theorem dX12_leaf_9 : decode cX12_leaf 9 = .ok (.bipush 50, 2) := by decide +kernel
theorem dX12_leaf_11 : decode cX12_leaf 11 = .ok (.if_icmp .ge 7, 3) := by decide +kernel
theorem dX12_leaf_14 : decode cX12_leaf 14 = .ok (.iconst 1, 1) := by decide +kernel
theorem dX12_leaf_15 : decode cX12_leaf 15 = .ok (.goto 4, 3) := by decide +kernel
theorem dX12_leaf_18 : decode cX12_leaf 18 = .ok (.iconst 0, 1) := by decide +kernel
theorem dX12_leaf_19 : decode cX12_leaf 19 = .ok (.invokevirtual 274, 3) := by decide +kernel
theorem dX12_leaf_22 : decode cX12_leaf 22 = .ok (.aload_n 0, 1) := by decide +kernel
theorem dX12_leaf_23 : decode cX12_leaf 23 = .ok (.getfield 241, 3) := by decide +kernel
theorem dX12_leaf_26 : decode cX12_leaf 26 = .ok (.ifCond .ne 19, 3) := by decide +kernel
theorem dX12_leaf_29 : decode cX12_leaf 29 = .ok (.aload_n 0, 1) := by decide +kernel
theorem dX12_leaf_30 : decode cX12_leaf 30 = .ok (.iload_n 2, 1) := by decide +kernel
theorem dX12_leaf_31 : decode cX12_leaf 31 = .ok (.iload_n 3, 1) := by decide +kernel
theorem dX12_leaf_32 : decode cX12_leaf 32 = .ok (.invokevirtual 287, 3) := by decide +kernel
theorem dX12_leaf_35 : decode cX12_leaf 35 = .ok (.aload_n 0, 1) := by decide +kernel
theorem dX12_leaf_36 : decode cX12_leaf 36 = .ok (.dup, 1) := by decide +kernel
theorem dX12_leaf_37 : decode cX12_leaf 37 = .ok (.getfield 308, 3) := by decide +kernel
theorem dX12_leaf_40 : decode cX12_leaf 40 = .ok (.iconst 1, 1) := by decide +kernel
theorem dX12_leaf_41 : decode cX12_leaf 41 = .ok (.iadd, 1) := by decide +kernel
theorem dX12_leaf_42 : decode cX12_leaf 42 = .ok (.putfield 308, 3) := by decide +kernel
theorem dX12_leaf_45 : decode cX12_leaf 45 = .ok (.return_, 1) := by decide +kernel
set_option maxRecDepth 20000 in
theorem rX12_leaf_0 {E : EN} (hE : Ep E) {k : Nat} {mem : Mm} {Q : Mm → Prop} {p0 p1 p2 : Int}
    (h : ((p0 = 0 → (CV E mX12_must k mem [aR 603, aI 0] (fun m1 => ((¬ (m1 603 19) = 0 → Q m1) ∧ ((m1 603 19) = 0 → (R32 p1 → R32 p2 → CV E mX12_emit k m1 [aR 603, aI p1, aI p2] (fun m2 => (R32 ((m2 603 26) + 1)) ∧ Q (aUp m2 603 26 ((m2 603 26) + 1))))))))) ∧ (¬ p0 = 0 → ((50 ≤ (mem 603 26) → (CV E mX12_must k mem [aR 603, aI 0] (fun m4 => ((¬ (m4 603 19) = 0 → Q m4) ∧ ((m4 603 19) = 0 → (R32 p1 → R32 p2 → CV E mX12_emit k m4 [aR 603, aI p1, aI p2] (fun m5 => (R32 ((m5 603 26) + 1)) ∧ Q (aUp m5 603 26 ((m5 603 26) + 1))))))))) ∧ ((mem 603 26) < 50 → (CV E mX12_must k mem [aR 603, aI 1] (fun m7 => ((¬ (m7 603 19) = 0 → Q m7) ∧ ((m7 603 19) = 0 → (R32 p1 → R32 p2 → CV E mX12_emit k m7 [aR 603, aI p1, aI p2] (fun m8 => (R32 ((m8 603 26) + 1)) ∧ Q (aUp m8 603 26 ((m8 603 26) + 1))))))))))))) :
    VM E mX12_leaf (k + 1) mem 0 [(0, aR 603), (1, aI p0), (2, aI p1), (3, aI p2)] [] (retV Q) := by
  refine v_aload_n (pc := 0) dX12_leaf_0 0 rfl ?_
  refine v_iload_n (pc := 1) dX12_leaf_1 1 rfl ?_
  refine v_ifeq (pc := 2) (tgt := 18) dX12_leaf_2 (by decide) (fun c1 => ?_) (fun c1 => ?_)
  · have h := h.1 c1
    refine v_iconst (pc := 18) dX12_leaf_18 (by decide) ?_
    refine m_invV (pc := 19) (mi' := mX12_must) (rest := []) [aI 0] dX12_leaf_19 at603 (by decide) rfl msX12_must mvX12_must lkX12_274 rfl (Nat.le_of_ble_eq_true rfl) (fun hn => CV_mono (h) (fun m1 h => ?_))
    refine v_aload_n (pc := 22) dX12_leaf_22 0 rfl ?_
    refine m_getf (pc := 23) (t := 0) (v := (m1 603 19)) dX12_leaf_23 flX12_241 rfl at603 rfl ?_
    refine v_ifne (pc := 26) (tgt := 45) dX12_leaf_26 (by decide) (fun c1 => ?_) (fun c1 => ?_)
    · have h := h.1 c1
      exact m_retV (pc := 45) dX12_leaf_45 rfl h
    · have h := h.2 c1
      refine v_aload_n (pc := 29) dX12_leaf_29 0 rfl ?_
      refine v_iload_n (pc := 30) dX12_leaf_30 2 rfl ?_
      refine v_iload_n (pc := 31) dX12_leaf_31 3 rfl ?_
      refine m_invV (pc := 32) (mi' := mX12_emit) (rest := []) [aI p1, aI p2] dX12_leaf_32 at603 (by decide) rfl msX12_emit mvX12_emit lkX12_287 rfl (Nat.le_of_ble_eq_true rfl) (fun hn => CV_mono (h (aaI hn 1 rfl) (aaI hn 2 rfl)) (fun m2 h => ?_))
      refine v_aload_n (pc := 35) dX12_leaf_35 0 rfl ?_
      refine v_dup (pc := 36) dX12_leaf_36 rfl ?_
      refine m_getf (pc := 37) (t := 0) (v := (m2 603 26)) dX12_leaf_37 flX12_308 rfl at603 rfl ?_
      refine v_iconst (pc := 40) dX12_leaf_40 (by decide) ?_
      obtain ⟨o3, h⟩ := h
      refine m_iadd (pc := 41) dX12_leaf_41 o3 ?_
      refine v_putf (pc := 42) dX12_leaf_42 flX12_308 ⟨_, _, rfl, Or.inl rfl⟩ rfl (by decide) (fun q => nomatch q) (Or.inl fun _ => rfl) at603 ?_
      exact m_retV (pc := 45) dX12_leaf_45 rfl h
  · have h := h.2 c1
    refine v_aload_n (pc := 5) dX12_leaf_5 0 rfl ?_
    refine m_getf (pc := 6) (t := 0) (v := (mem 603 26)) dX12_leaf_6 flX12_308 rfl at603 rfl ?_
    refine v_bipush (pc := 9) dX12_leaf_9 (by decide) ?_
    refine v_icmpge (pc := 11) (tgt := 18) dX12_leaf_11 (by decide) (fun c1 => ?_) (fun c1 => ?_)
    · have h := h.1 c1
      refine v_iconst (pc := 18) dX12_leaf_18 (by decide) ?_
      refine m_invV (pc := 19) (mi' := mX12_must) (rest := []) [aI 0] dX12_leaf_19 at603 (by decide) rfl msX12_must mvX12_must lkX12_274 rfl (Nat.le_of_ble_eq_true rfl) (fun hn => CV_mono (h) (fun m4 h => ?_))
      refine v_aload_n (pc := 22) dX12_leaf_22 0 rfl ?_
      refine m_getf (pc := 23) (t := 0) (v := (m4 603 19)) dX12_leaf_23 flX12_241 rfl at603 rfl ?_
      refine v_ifne (pc := 26) (tgt := 45) dX12_leaf_26 (by decide) (fun c1 => ?_) (fun c1 => ?_)
      · have h := h.1 c1
        exact m_retV (pc := 45) dX12_leaf_45 rfl h
      · have h := h.2 c1
        refine v_aload_n (pc := 29) dX12_leaf_29 0 rfl ?_
        refine v_iload_n (pc := 30) dX12_leaf_30 2 rfl ?_
        refine v_iload_n (pc := 31) dX12_leaf_31 3 rfl ?_
        refine m_invV (pc := 32) (mi' := mX12_emit) (rest := []) [aI p1, aI p2] dX12_leaf_32 at603 (by decide) rfl msX12_emit mvX12_emit lkX12_287 rfl (Nat.le_of_ble_eq_true rfl) (fun hn => CV_mono (h (aaI hn 1 rfl) (aaI hn 2 rfl)) (fun m5 h => ?_))
        refine v_aload_n (pc := 35) dX12_leaf_35 0 rfl ?_
        refine v_dup (pc := 36) dX12_leaf_36 rfl ?_
        refine m_getf (pc := 37) (t := 0) (v := (m5 603 26)) dX12_leaf_37 flX12_308 rfl at603 rfl ?_
        refine v_iconst (pc := 40) dX12_leaf_40 (by decide) ?_
        obtain ⟨o6, h⟩ := h
        refine m_iadd (pc := 41) dX12_leaf_41 o6 ?_
        refine v_putf (pc := 42) dX12_leaf_42 flX12_308 ⟨_, _, rfl, Or.inl rfl⟩ rfl (by decide) (fun q => nomatch q) (Or.inl fun _ => rfl) at603 ?_
        exact m_retV (pc := 45) dX12_leaf_45 rfl h
    · have h := h.2 c1
      refine v_iconst (pc := 14) dX12_leaf_14 (by decide) ?_
      refine v_goto (pc := 15) (tgt := 19) dX12_leaf_15 (by decide) ?_
      refine m_invV (pc := 19) (mi' := mX12_must) (rest := []) [aI 1] dX12_leaf_19 at603 (by decide) rfl msX12_must mvX12_must lkX12_274 rfl (Nat.le_of_ble_eq_true rfl) (fun hn => CV_mono (h) (fun m7 h => ?_))
      refine v_aload_n (pc := 22) dX12_leaf_22 0 rfl ?_
      refine m_getf (pc := 23) (t := 0) (v := (m7 603 19)) dX12_leaf_23 flX12_241 rfl at603 rfl ?_
      refine v_ifne (pc := 26) (tgt := 45) dX12_leaf_26 (by decide) (fun c1 => ?_) (fun c1 => ?_)
      · have h := h.1 c1
        exact m_retV (pc := 45) dX12_leaf_45 rfl h
      · have h := h.2 c1
        refine v_aload_n (pc := 29) dX12_leaf_29 0 rfl ?_
        refine v_iload_n (pc := 30) dX12_leaf_30 2 rfl ?_
        refine v_iload_n (pc := 31) dX12_leaf_31 3 rfl ?_
        refine m_invV (pc := 32) (mi' := mX12_emit) (rest := []) [aI p1, aI p2] dX12_leaf_32 at603 (by decide) rfl msX12_emit mvX12_emit lkX12_287 rfl (Nat.le_of_ble_eq_true rfl) (fun hn => CV_mono (h (aaI hn 1 rfl) (aaI hn 2 rfl)) (fun m8 h => ?_))
        refine v_aload_n (pc := 35) dX12_leaf_35 0 rfl ?_
        refine v_dup (pc := 36) dX12_leaf_36 rfl ?_
        refine m_getf (pc := 37) (t := 0) (v := (m8 603 26)) dX12_leaf_37 flX12_308 rfl at603 rfl ?_
        refine v_iconst (pc := 40) dX12_leaf_40 (by decide) ?_
        obtain ⟨o9, h⟩ := h
        refine m_iadd (pc := 41) dX12_leaf_41 o9 ?_
        refine v_putf (pc := 42) dX12_leaf_42 flX12_308 ⟨_, _, rfl, Or.inl rfl⟩ rfl (by decide) (fun q => nomatch q) (Or.inl fun _ => rfl) at603 ?_
        exact m_retV (pc := 45) dX12_leaf_45 rfl h
theorem eX12_leaf {E : EN} {k : Nat} {mem : Mm} {Q : Mm → Prop} {p0 p1 p2 : Int} (hr_p0 : R32 p0) (hr_p1 : R32 p1) (hr_p2 : R32 p2) (h : VM E mX12_leaf (k + 1) mem 0 [(0, aR 603), (1, aI p0), (2, aI p1), (3, aI p2)] [] (retV Q)) : CV E mX12_leaf (k + 1) mem [aR 603, aI p0, aI p1, aI p2] Q := CV_of rfl (Nat.le_of_ble_eq_true rfl) h (aNs_c (aNr_R _) (aNs_c (aNr_I hr_p0) (aNs_c (aNr_I hr_p1) (aNs_c (aNr_I hr_p2) (fun _ q => nomatch q)))))

theorem dX12_readPart_0 : decode cX12_readPart 0 = .ok (.aload_n 0, 1) := by decide +kernel
theorem dX12_readPart_1 : decode cX12_readPart 1 = .ok (.bipush 91, 2) := by decide +kernel
theorem dX12_readPart_3 : decode cX12_readPart 3 = .ok (.invokevirtual 311, 3) := by decide +kernel
theorem dX12_readPart_6 : decode cX12_readPart 6 = .ok (.ifCond .eq 11, 3) := by decide +kernel
theorem dX12_readPart_9 : decode cX12_readPart 9 = .ok (.aload_n 0, 1) := by decide +kernel
theorem dX12_readPart_10 : decode cX12_readPart 10 = .ok (.bipush 32, 2) := by decide +kernel
theorem dX12_readPart_12 : decode cX12_readPart 12 = .ok (.invokevirtual 314, 3) := by decide +kernel
theorem dX12_readPart_15 : decode cX12_readPart 15 = .ok (.iconst 1, 1) := by decide +kernel
theorem dX12_readPart_16 : decode cX12_readPart 16 = .ok (.ireturn, 1) := by decide +kernel
theorem dX12_readPart_17 : decode cX12_readPart 17 = .ok (.aload_n 0, 1) := by decide +kernel
theorem dX12_readPart_18 : decode cX12_readPart 18 = .ok (.getfield 317, 3) := by decide +kernel
theorem dX12_readPart_21 : decode cX12_readPart 21 = .ok (.ifCond .eq 10, 3) := by decide +kernel
theorem dX12_readPart_24 : decode cX12_readPart 24 = .ok (.aload_n 0, 1) := by decide +kernel
theorem dX12_readPart_25 : decode cX12_readPart 25 = .ok (.invokevirtual 320, 3) := by decide +kernel
theorem dX12_readPart_28 : decode cX12_readPart 28 = .ok (.goto 7, 3) := by decide +kernel
theorem dX12_readPart_31 : decode cX12_readPart 31 = .ok (.aload_n 0, 1) := by decide +kernel
theorem dX12_readPart_32 : decode cX12_readPart 32 = .ok (.invokevirtual 324, 3) := by decide +kernel
theorem dX12_readPart_35 : decode cX12_readPart 35 = .ok (.istore_n 1, 1) := by decide +kernel
theorem dX12_readPart_36 : decode cX12_readPart 36 = .ok (.aload_n 0, 1) := by decide +kernel
theorem dX12_readPart_37 : decode cX12_readPart 37 = .ok (.getfield 261, 3) := by decide +kernel
theorem dX12_readPart_40 : decode cX12_readPart 40 = .ok (.iconst 2, 1) := by decide +kernel
theorem dX12_readPart_41 : decode cX12_readPart 41 = .ok (.if_icmp .ne 18, 3) := by decide +kernel
theorem dX12_readPart_44 : decode cX12_readPart 44 = .ok (.aload_n 0, 1) := by decide +kernel
theorem dX12_readPart_45 : decode cX12_readPart 45 = .ok (.getfield 251, 3) := by decide +kernel
theorem dX12_readPart_48 : decode cX12_readPart 48 = .ok (.ldc2_w 327, 3) := by decide +kernel
theorem dX12_readPart_51 : decode cX12_readPart 51 = .ok (.lcmp, 1) := by decide +kernel
theorem dX12_readPart_52 : decode cX12_readPart 52 = .ok (.ifCond .gt 7, 3) := by decide +kernel
theorem dX12_readPart_55 : decode cX12_readPart 55 = .ok (.iconst 1, 1) := by decide +kernel
theorem dX12_readPart_56 : decode cX12_readPart 56 = .ok (.goto 4, 3) := by decide +kernel
theorem dX12_readPart_59 : decode cX12_readPart 59 = .ok (.iconst 0, 1) := by decide +kernel
theorem dX12_readPart_60 : decode cX12_readPart 60 = .ok (.istore_n 2, 1) := by decide +kernel
theorem dX12_readPart_61 : decode cX12_readPart 61 = .ok (.aload_n 0, 1) := by decide +kernel
theorem dX12_readPart_62 : decode cX12_readPart 62 = .ok (.iload_n 1, 1) := by decide +kernel
theorem dX12_readPart_63 : decode cX12_readPart 63 = .ok (.iconst (-1), 1) := by decide +kernel
theorem dX12_readPart_64 : decode cX12_readPart 64 = .ok (.if_icmp .ne 7, 3) := by decide +kernel
theorem dX12_readPart_67 : decode cX12_readPart 67 = .ok (.iload_n 2, 1) := by decide +kernel
theorem dX12_readPart_68 : decode cX12_readPart 68 = .ok (.ifCond .eq 7, 3) := by decide +kernel
theorem dX12_readPart_71 : decode cX12_readPart 71 = .ok (.iconst 1, 1) := by decide +kernel
theorem dX12_readPart_72 : decode cX12_readPart 72 = .ok (.goto 4, 3) := by decide +kernel
theorem dX12_readPart_75 : decode cX12_readPart 75 = .ok (.iconst 0, 1) := by decide +kernel
theorem dX12_readPart_76 : decode cX12_readPart 76 = .ok (.iload_n 1, 1) := by decide +kernel
theorem dX12_readPart_77 : decode cX12_readPart 77 = .ok (.iconst (-1), 1) := by decide +kernel
theorem dX12_readPart_78 : decode cX12_readPart 78 = .ok (.if_icmp .ne 7, 3) := by decide +kernel
theorem dX12_readPart_81 : decode cX12_readPart 81 = .ok (.iconst 0, 1) := by decide +kernel
theorem dX12_readPart_82 : decode cX12_readPart 82 = .ok (.goto 4, 3) := by decide +kernel
theorem dX12_readPart_85 : decode cX12_readPart 85 = .ok (.iload_n 1, 1) := by decide +kernel
theorem dX12_readPart_86 : decode cX12_readPart 86 = .ok (.iload_n 2, 1) := by decide +kernel
theorem dX12_readPart_87 : decode cX12_readPart 87 = .ok (.ifCond .eq 11, 3) := by decide +kernel
theorem dX12_readPart_90 : decode cX12_readPart 90 = .ok (.aload_n 0, 1) := by decide +kernel
theorem dX12_readPart_91 : decode cX12_readPart 91 = .ok (.getfield 251, 3) := by decide +kernel
theorem dX12_readPart_94 : decode cX12_readPart 94 = .ok (.l2i, 1) := by decide +kernel
theorem dX12_readPart_95 : decode cX12_readPart 95 = .ok (.goto 4, 3) := by decide +kernel
theorem dX12_readPart_98 : decode cX12_readPart 98 = .ok (.iconst 0, 1) := by decide +kernel
theorem dX12_readPart_99 : decode cX12_readPart 99 = .ok (.invokevirtual 329, 3) := by decide +kernel
theorem dX12_readPart_102 : decode cX12_readPart 102 = .ok (.aload_n 0, 1) := by decide +kernel
theorem dX12_readPart_103 : decode cX12_readPart 103 = .ok (.getfield 317, 3) := by decide +kernel
theorem dX12_readPart_106 : decode cX12_readPart 106 = .ok (.ifCond .eq 47, 3) := by decide +kernel
theorem dX12_readPart_109 : decode cX12_readPart 109 = .ok (.iload_n 1, 1) := by decide +kernel
theorem dX12_readPart_110 : decode cX12_readPart 110 = .ok (.iconst 5, 1) := by decide +kernel
theorem dX12_readPart_111 : decode cX12_readPart 111 = .ok (.if_icmp .lt 42, 3) := by decide +kernel
theorem dX12_readPart_114 : decode cX12_readPart 114 = .ok (.aload_n 0, 1) := by decide +kernel
theorem dX12_readPart_115 : decode cX12_readPart 115 = .ok (.getfield 241, 3) := by decide +kernel
theorem dX12_readPart_118 : decode cX12_readPart 118 = .ok (.ifCond .ne 35, 3) := by decide +kernel
theorem dX12_readPart_121 : decode cX12_readPart 121 = .ok (.aload_n 0, 1) := by decide +kernel
theorem dX12_readPart_122 : decode cX12_readPart 122 = .ok (.getfield 278, 3) := by decide +kernel
theorem dX12_readPart_125 : decode cX12_readPart 125 = .ok (.iconst 1, 1) := by decide +kernel
theorem dX12_readPart_126 : decode cX12_readPart 126 = .ok (.isub, 1) := by decide +kernel
theorem dX12_readPart_127 : decode cX12_readPart 127 = .ok (.istore_n 3, 1) := by decide +kernel
theorem dX12_readPart_128 : decode cX12_readPart 128 = .ok (.aload_n 0, 1) := by decide +kernel
theorem dX12_readPart_129 : decode cX12_readPart 129 = .ok (.getfield 48, 3) := by decide +kernel
theorem dX12_readPart_132 : decode cX12_readPart 132 = .ok (.iload_n 3, 1) := by decide +kernel
theorem dX12_readPart_133 : decode cX12_readPart 133 = .ok (.aload_n 0, 1) := by decide +kernel
theorem dX12_readPart_134 : decode cX12_readPart 134 = .ok (.lconst 0, 1) := by decide +kernel
theorem dX12_readPart_135 : decode cX12_readPart 135 = .ok (.iload_n 1, 1) := by decide +kernel
theorem dX12_readPart_136 : decode cX12_readPart 136 = .ok (.iconst 5, 1) := by decide +kernel
theorem dX12_readPart_137 : decode cX12_readPart 137 = .ok (.if_icmp .ne 9, 3) := by decide +kernel
theorem dX12_readPart_140 : decode cX12_readPart 140 = .ok (.ldc2_w 227, 3) := by decide +kernel
theorem dX12_readPart_143 : decode cX12_readPart 143 = .ok (.goto 6, 3) := by decide +kernel
theorem dX12_readPart_146 : decode cX12_readPart 146 = .ok (.ldc2_w 186, 3) := by decide +kernel
theorem dX12_readPart_149 : decode cX12_readPart 149 = .ok (.invokevirtual 333, 3) := by decide +kernel
theorem dX12_readPart_152 : decode cX12_readPart 152 = .ok (.iastore, 1) := by decide +kernel
theorem dX12_readPart_153 : decode cX12_readPart 153 = .ok (.iconst 3, 1) := by decide +kernel
theorem dX12_readPart_154 : decode cX12_readPart 154 = .ok (.ireturn, 1) := by decide +kernel
set_option maxRecDepth 20000 in
theorem rX12_readPart_0 {E : EN} (hE : Ep E) {k : Nat} {mem : Mm} {Q : Int → Mm → Prop}
    (h : (CI E mX12_isSign k mem [aR 603, aI 91] (fun r2 m1 => ((r2 = 0 → (((m1 603 20) = 0 → (CI E mX12_partAt k m1 [aR 603] (fun r4 m3 => ((¬ (m3 603 16) = 2 → VM E mX12_readPart (k + 1) m3 59 [(0, aR 603), (1, aI r4)] [] (retI Q)) ∧ ((m3 603 16) = 2 → ((1000 < (m3 603 17) → VM E mX12_readPart (k + 1) m3 59 [(0, aR 603), (1, aI r4)] [] (retI Q)) ∧ ((m3 603 17) ≤ 1000 → ((¬ r4 = (-1) → ((¬ r4 = (-1) → (R32 (m3 603 17)) ∧ (R32 r4 → R32 (m3 603 17) → CV E mX12_leaf k m3 [aR 603, aI 1, aI r4, aI (m3 603 17)] (fun m6 => (((m6 603 20) = 0 → VM E mX12_readPart (k + 1) m6 153 [] [] (retI Q)) ∧ (¬ (m6 603 20) = 0 → ((r4 < 5 → VM E mX12_readPart (k + 1) m6 153 [] [] (retI Q)) ∧ (5 ≤ r4 → ((¬ (m6 603 19) = 0 → VM E mX12_readPart (k + 1) m6 153 [] [] (retI Q)) ∧ ((m6 603 19) = 0 → (R32 ((m6 603 23) - 1)) ∧ ((¬ r4 = 5 → (CI E mX12_number k m6 [aR 603, aL 0, aL 31] (fun r9 m8 => (0 ≤ ((m6 603 23) - 1) ∧ ((m6 603 23) - 1) < 400) ∧ VM E mX12_readPart (k + 1) (aUp m8 615 ((m6 603 23) - 1) r9) 153 [] [] (retI Q)))) ∧ (r4 = 5 → (CI E mX12_number k m6 [aR 603, aL 0, aL 9] (fun r12 m11 => (0 ≤ ((m6 603 23) - 1) ∧ ((m6 603 23) - 1) < 400) ∧ VM E mX12_readPart (k + 1) (aUp m11 615 ((m6 603 23) - 1) r12) 153 [] [] (retI Q)))))))))))))) ∧ (r4 = (-1) → (R32 (m3 603 17)) ∧ (R32 (m3 603 17) → CV E mX12_leaf k m3 [aR 603, aI 1, aI 0, aI (m3 603 17)] (fun m15 => (((m15 603 20) = 0 → VM E mX12_readPart (k + 1) m15 153 [] [] (retI Q)) ∧ (¬ (m15 603 20) = 0 → ((r4 < 5 → VM E mX12_readPart (k + 1) m15 153 [] [] (retI Q)) ∧ (5 ≤ r4 → ((¬ (m15 603 19) = 0 → VM E mX12_readPart (k + 1) m15 153 [] [] (retI Q)) ∧ ((m15 603 19) = 0 → (R32 ((m15 603 23) - 1)) ∧ ((¬ r4 = 5 → (CI E mX12_number k m15 [aR 603, aL 0, aL 31] (fun r18 m17 => (0 ≤ ((m15 603 23) - 1) ∧ ((m15 603 23) - 1) < 400) ∧ VM E mX12_readPart (k + 1) (aUp m17 615 ((m15 603 23) - 1) r18) 153 [] [] (retI Q)))) ∧ (r4 = 5 → (CI E mX12_number k m15 [aR 603, aL 0, aL 9] (fun r21 m20 => (0 ≤ ((m15 603 23) - 1) ∧ ((m15 603 23) - 1) < 400) ∧ VM E mX12_readPart (k + 1) (aUp m20 615 ((m15 603 23) - 1) r21) 153 [] [] (retI Q)))))))))))))))) ∧ (r4 = (-1) → ((¬ r4 = (-1) → (R32 (m3 603 17)) ∧ (R32 r4 → R32 (m3 603 17) → CV E mX12_leaf k m3 [aR 603, aI 1, aI r4, aI (m3 603 17)] (fun m24 => (((m24 603 20) = 0 → VM E mX12_readPart (k + 1) m24 153 [] [] (retI Q)) ∧ (¬ (m24 603 20) = 0 → ((r4 < 5 → VM E mX12_readPart (k + 1) m24 153 [] [] (retI Q)) ∧ (5 ≤ r4 → ((¬ (m24 603 19) = 0 → VM E mX12_readPart (k + 1) m24 153 [] [] (retI Q)) ∧ ((m24 603 19) = 0 → (R32 ((m24 603 23) - 1)) ∧ ((¬ r4 = 5 → (CI E mX12_number k m24 [aR 603, aL 0, aL 31] (fun r27 m26 => (0 ≤ ((m24 603 23) - 1) ∧ ((m24 603 23) - 1) < 400) ∧ VM E mX12_readPart (k + 1) (aUp m26 615 ((m24 603 23) - 1) r27) 153 [] [] (retI Q)))) ∧ (r4 = 5 → (CI E mX12_number k m24 [aR 603, aL 0, aL 9] (fun r30 m29 => (0 ≤ ((m24 603 23) - 1) ∧ ((m24 603 23) - 1) < 400) ∧ VM E mX12_readPart (k + 1) (aUp m29 615 ((m24 603 23) - 1) r30) 153 [] [] (retI Q)))))))))))))) ∧ (r4 = (-1) → (R32 (m3 603 17)) ∧ (R32 (m3 603 17) → CV E mX12_leaf k m3 [aR 603, aI 1, aI 0, aI (m3 603 17)] (fun m33 => (((m33 603 20) = 0 → VM E mX12_readPart (k + 1) m33 153 [] [] (retI Q)) ∧ (¬ (m33 603 20) = 0 → ((r4 < 5 → VM E mX12_readPart (k + 1) m33 153 [] [] (retI Q)) ∧ (5 ≤ r4 → ((¬ (m33 603 19) = 0 → VM E mX12_readPart (k + 1) m33 153 [] [] (retI Q)) ∧ ((m33 603 19) = 0 → (R32 ((m33 603 23) - 1)) ∧ ((¬ r4 = 5 → (CI E mX12_number k m33 [aR 603, aL 0, aL 31] (fun r36 m35 => (0 ≤ ((m33 603 23) - 1) ∧ ((m33 603 23) - 1) < 400) ∧ VM E mX12_readPart (k + 1) (aUp m35 615 ((m33 603 23) - 1) r36) 153 [] [] (retI Q)))) ∧ (r4 = 5 → (CI E mX12_number k m33 [aR 603, aL 0, aL 9] (fun r39 m38 => (0 ≤ ((m33 603 23) - 1) ∧ ((m33 603 23) - 1) < 400) ∧ VM E mX12_readPart (k + 1) (aUp m38 615 ((m33 603 23) - 1) r39) 153 [] [] (retI Q)))))))))))))))))))))))) ∧ (¬ (m1 603 20) = 0 → (CI E mX12_orderPartAt k m1 [aR 603] (fun r42 m41 => ((¬ (m41 603 16) = 2 → VM E mX12_readPart (k + 1) m41 59 [(0, aR 603), (1, aI r42)] [] (retI Q)) ∧ ((m41 603 16) = 2 → ((1000 < (m41 603 17) → VM E mX12_readPart (k + 1) m41 59 [(0, aR 603), (1, aI r42)] [] (retI Q)) ∧ ((m41 603 17) ≤ 1000 → ((¬ r42 = (-1) → ((¬ r42 = (-1) → (R32 (m41 603 17)) ∧ (R32 r42 → R32 (m41 603 17) → CV E mX12_leaf k m41 [aR 603, aI 1, aI r42, aI (m41 603 17)] (fun m44 => (((m44 603 20) = 0 → VM E mX12_readPart (k + 1) m44 153 [] [] (retI Q)) ∧ (¬ (m44 603 20) = 0 → ((r42 < 5 → VM E mX12_readPart (k + 1) m44 153 [] [] (retI Q)) ∧ (5 ≤ r42 → ((¬ (m44 603 19) = 0 → VM E mX12_readPart (k + 1) m44 153 [] [] (retI Q)) ∧ ((m44 603 19) = 0 → (R32 ((m44 603 23) - 1)) ∧ ((¬ r42 = 5 → (CI E mX12_number k m44 [aR 603, aL 0, aL 31] (fun r47 m46 => (0 ≤ ((m44 603 23) - 1) ∧ ((m44 603 23) - 1) < 400) ∧ VM E mX12_readPart (k + 1) (aUp m46 615 ((m44 603 23) - 1) r47) 153 [] [] (retI Q)))) ∧ (r42 = 5 → (CI E mX12_number k m44 [aR 603, aL 0, aL 9] (fun r50 m49 => (0 ≤ ((m44 603 23) - 1) ∧ ((m44 603 23) - 1) < 400) ∧ VM E mX12_readPart (k + 1) (aUp m49 615 ((m44 603 23) - 1) r50) 153 [] [] (retI Q)))))))))))))) ∧ (r42 = (-1) → (R32 (m41 603 17)) ∧ (R32 (m41 603 17) → CV E mX12_leaf k m41 [aR 603, aI 1, aI 0, aI (m41 603 17)] (fun m53 => (((m53 603 20) = 0 → VM E mX12_readPart (k + 1) m53 153 [] [] (retI Q)) ∧ (¬ (m53 603 20) = 0 → ((r42 < 5 → VM E mX12_readPart (k + 1) m53 153 [] [] (retI Q)) ∧ (5 ≤ r42 → ((¬ (m53 603 19) = 0 → VM E mX12_readPart (k + 1) m53 153 [] [] (retI Q)) ∧ ((m53 603 19) = 0 → (R32 ((m53 603 23) - 1)) ∧ ((¬ r42 = 5 → (CI E mX12_number k m53 [aR 603, aL 0, aL 31] (fun r56 m55 => (0 ≤ ((m53 603 23) - 1) ∧ ((m53 603 23) - 1) < 400) ∧ VM E mX12_readPart (k + 1) (aUp m55 615 ((m53 603 23) - 1) r56) 153 [] [] (retI Q)))) ∧ (r42 = 5 → (CI E mX12_number k m53 [aR 603, aL 0, aL 9] (fun r59 m58 => (0 ≤ ((m53 603 23) - 1) ∧ ((m53 603 23) - 1) < 400) ∧ VM E mX12_readPart (k + 1) (aUp m58 615 ((m53 603 23) - 1) r59) 153 [] [] (retI Q)))))))))))))))) ∧ (r42 = (-1) → ((¬ r42 = (-1) → (R32 (m41 603 17)) ∧ (R32 r42 → R32 (m41 603 17) → CV E mX12_leaf k m41 [aR 603, aI 1, aI r42, aI (m41 603 17)] (fun m62 => (((m62 603 20) = 0 → VM E mX12_readPart (k + 1) m62 153 [] [] (retI Q)) ∧ (¬ (m62 603 20) = 0 → ((r42 < 5 → VM E mX12_readPart (k + 1) m62 153 [] [] (retI Q)) ∧ (5 ≤ r42 → ((¬ (m62 603 19) = 0 → VM E mX12_readPart (k + 1) m62 153 [] [] (retI Q)) ∧ ((m62 603 19) = 0 → (R32 ((m62 603 23) - 1)) ∧ ((¬ r42 = 5 → (CI E mX12_number k m62 [aR 603, aL 0, aL 31] (fun r65 m64 => (0 ≤ ((m62 603 23) - 1) ∧ ((m62 603 23) - 1) < 400) ∧ VM E mX12_readPart (k + 1) (aUp m64 615 ((m62 603 23) - 1) r65) 153 [] [] (retI Q)))) ∧ (r42 = 5 → (CI E mX12_number k m62 [aR 603, aL 0, aL 9] (fun r68 m67 => (0 ≤ ((m62 603 23) - 1) ∧ ((m62 603 23) - 1) < 400) ∧ VM E mX12_readPart (k + 1) (aUp m67 615 ((m62 603 23) - 1) r68) 153 [] [] (retI Q)))))))))))))) ∧ (r42 = (-1) → (R32 (m41 603 17)) ∧ (R32 (m41 603 17) → CV E mX12_leaf k m41 [aR 603, aI 1, aI 0, aI (m41 603 17)] (fun m71 => (((m71 603 20) = 0 → VM E mX12_readPart (k + 1) m71 153 [] [] (retI Q)) ∧ (¬ (m71 603 20) = 0 → ((r42 < 5 → VM E mX12_readPart (k + 1) m71 153 [] [] (retI Q)) ∧ (5 ≤ r42 → ((¬ (m71 603 19) = 0 → VM E mX12_readPart (k + 1) m71 153 [] [] (retI Q)) ∧ ((m71 603 19) = 0 → (R32 ((m71 603 23) - 1)) ∧ ((¬ r42 = 5 → (CI E mX12_number k m71 [aR 603, aL 0, aL 31] (fun r74 m73 => (0 ≤ ((m71 603 23) - 1) ∧ ((m71 603 23) - 1) < 400) ∧ VM E mX12_readPart (k + 1) (aUp m73 615 ((m71 603 23) - 1) r74) 153 [] [] (retI Q)))) ∧ (r42 = 5 → (CI E mX12_number k m71 [aR 603, aL 0, aL 9] (fun r77 m76 => (0 ≤ ((m71 603 23) - 1) ∧ ((m71 603 23) - 1) < 400) ∧ VM E mX12_readPart (k + 1) (aUp m76 615 ((m71 603 23) - 1) r77) 153 [] [] (retI Q)))))))))))))))))))))))))) ∧ (¬ r2 = 0 → (CV E mX12_openBracket k m1 [aR 603, aI 32] (fun m79 => Q 1 m79))))))) :
    VM E mX12_readPart (k + 1) mem 0 [(0, aR 603)] [] (retI Q) := by
  refine v_aload_n (pc := 0) dX12_readPart_0 0 rfl ?_
  refine v_bipush (pc := 1) dX12_readPart_1 (by decide) ?_
  refine m_invI (pc := 3) (mi' := mX12_isSign) (rest := []) [aI 91] dX12_readPart_3 at603 (by decide) rfl msX12_isSign mvX12_isSign lkX12_311 rfl (Nat.le_of_ble_eq_true rfl) (fun hn => CI_mono (h) (fun r2 m1 h => ?_))
  refine v_ifeq (pc := 6) (tgt := 17) dX12_readPart_6 (by decide) (fun c1 => ?_) (fun c1 => ?_)
  · have h := h.1 c1
    refine v_aload_n (pc := 17) dX12_readPart_17 0 rfl ?_
    refine m_getf (pc := 18) (t := 0) (v := (m1 603 20)) dX12_readPart_18 flX12_317 rfl at603 rfl ?_
    refine v_ifeq (pc := 21) (tgt := 31) dX12_readPart_21 (by decide) (fun c1 => ?_) (fun c1 => ?_)
    · have h := h.1 c1
      refine v_aload_n (pc := 31) dX12_readPart_31 0 rfl ?_
      refine m_invI (pc := 32) (mi' := mX12_partAt) (rest := []) [] dX12_readPart_32 at603 (by decide) rfl msX12_partAt mvX12_partAt lkX12_324 rfl (Nat.le_of_ble_eq_true rfl) (fun hn => CI_mono (h) (fun r4 m3 h => ?_))
      refine v_istore_n (pc := 35) (al2 := [(1, aI r4), (0, aR 603)]) dX12_readPart_35 (by decide) rfl ?_
      refine v_aload_n (pc := 36) dX12_readPart_36 1 rfl ?_
      refine m_getf (pc := 37) (t := 0) (v := (m3 603 16)) dX12_readPart_37 flX12_261 rfl at603 rfl ?_
      refine v_iconst (pc := 40) dX12_readPart_40 (by decide) ?_
      refine v_icmpne (pc := 41) (tgt := 59) dX12_readPart_41 (by decide) (fun c1 => ?_) (fun c1 => ?_)
      · have h := h.1 c1
        exact VG_sub (al' := [(0, aR 603), (1, aI r4)]) [1, 0] rfl h
      · have h := h.2 c1
        refine v_aload_n (pc := 44) dX12_readPart_44 1 rfl ?_
        refine m_getf (pc := 45) (t := 1) (v := (m3 603 17)) dX12_readPart_45 flX12_251 rfl at603 rfl ?_
        refine v_ldc2 (pc := 48) (n := 1000) dX12_readPart_48 cnX12_327 (by decide) ?_
        refine v_lcmpgt (pc := 51) (tgt := 59) dX12_readPart_51 dX12_readPart_52 (by decide) (fun c1 => ?_) (fun c1 => ?_)
        · have h := h.1 c1
          exact VG_sub (al' := [(0, aR 603), (1, aI r4)]) [1, 0] rfl h
        · have h := h.2 c1
          refine v_iconst (pc := 55) dX12_readPart_55 (by decide) ?_
          refine v_goto (pc := 56) (tgt := 60) dX12_readPart_56 (by decide) ?_
          refine v_istore_n (pc := 60) (al2 := [(2, aI 1), (1, aI r4), (0, aR 603)]) dX12_readPart_60 (by decide) rfl ?_
          refine v_aload_n (pc := 61) dX12_readPart_61 2 rfl ?_
          refine v_iload_n (pc := 62) dX12_readPart_62 1 rfl ?_
          refine v_iconst (pc := 63) dX12_readPart_63 (by decide) ?_
          refine v_icmpne (pc := 64) (tgt := 71) dX12_readPart_64 (by decide) (fun c1 => ?_) (fun c1 => ?_)
          · have h := h.1 c1
            refine v_iconst (pc := 71) dX12_readPart_71 (by decide) ?_
            refine v_goto (pc := 72) (tgt := 76) dX12_readPart_72 (by decide) ?_
            refine v_iload_n (pc := 76) dX12_readPart_76 1 rfl ?_
            refine v_iconst (pc := 77) dX12_readPart_77 (by decide) ?_
            refine v_icmpne (pc := 78) (tgt := 85) dX12_readPart_78 (by decide) (fun c1 => ?_) (fun c1 => ?_)
            · have h := h.1 c1
              refine v_iload_n (pc := 85) dX12_readPart_85 1 rfl ?_
              refine v_iload_n (pc := 86) dX12_readPart_86 0 rfl ?_
              refine v_ifeq (pc := 87) (tgt := 98) dX12_readPart_87 (by decide) (fun c1 => absurd c1 (by decide)) (fun c1 => ?_)
              refine v_aload_n (pc := 90) dX12_readPart_90 2 rfl ?_
              refine m_getf (pc := 91) (t := 1) (v := (m3 603 17)) dX12_readPart_91 flX12_251 rfl at603 rfl ?_
              obtain ⟨o5, h⟩ := h
              refine m_l2i (pc := 94) dX12_readPart_94 o5 ?_
              refine v_goto (pc := 95) (tgt := 99) dX12_readPart_95 (by decide) ?_
              refine m_invV (pc := 99) (mi' := mX12_leaf) (rest := []) [aI 1, aI r4, aI (m3 603 17)] dX12_readPart_99 at603 (by decide) rfl msX12_leaf mvX12_leaf lkX12_329 rfl (Nat.le_of_ble_eq_true rfl) (fun hn => CV_mono (h (aaI hn 2 rfl) (aaI hn 3 rfl)) (fun m6 h => ?_))
              refine v_aload_n (pc := 102) dX12_readPart_102 2 rfl ?_
              refine m_getf (pc := 103) (t := 0) (v := (m6 603 20)) dX12_readPart_103 flX12_317 rfl at603 rfl ?_
              refine v_ifeq (pc := 106) (tgt := 153) dX12_readPart_106 (by decide) (fun c1 => ?_) (fun c1 => ?_)
              · have h := h.1 c1
                exact VG_sub (al' := []) [] rfl h
              · have h := h.2 c1
                refine v_iload_n (pc := 109) dX12_readPart_109 1 rfl ?_
                refine v_iconst (pc := 110) dX12_readPart_110 (by decide) ?_
                refine v_icmplt (pc := 111) (tgt := 153) dX12_readPart_111 (by decide) (fun c1 => ?_) (fun c1 => ?_)
                · have h := h.1 c1
                  exact VG_sub (al' := []) [] rfl h
                · have h := h.2 c1
                  refine v_aload_n (pc := 114) dX12_readPart_114 2 rfl ?_
                  refine m_getf (pc := 115) (t := 0) (v := (m6 603 19)) dX12_readPart_115 flX12_241 rfl at603 rfl ?_
                  refine v_ifne (pc := 118) (tgt := 153) dX12_readPart_118 (by decide) (fun c1 => ?_) (fun c1 => ?_)
                  · have h := h.1 c1
                    exact VG_sub (al' := []) [] rfl h
                  · have h := h.2 c1
                    refine v_aload_n (pc := 121) dX12_readPart_121 2 rfl ?_
                    refine m_getf (pc := 122) (t := 0) (v := (m6 603 23)) dX12_readPart_122 flX12_278 rfl at603 rfl ?_
                    refine v_iconst (pc := 125) dX12_readPart_125 (by decide) ?_
                    obtain ⟨o7, h⟩ := h
                    refine m_isub (pc := 126) dX12_readPart_126 o7 ?_
                    refine v_istore_n (pc := 127) (al2 := [(3, aI ((m6 603 23) - 1)), (2, aI 1), (1, aI r4), (0, aR 603)]) dX12_readPart_127 (by decide) rfl ?_
                    refine v_aload_n (pc := 128) dX12_readPart_128 3 rfl ?_
                    refine m_getfin (pc := 129) (v := 615) hE dX12_readPart_129 flX12_48 rfl at603 rfl ?_
                    refine v_iload_n (pc := 132) dX12_readPart_132 0 rfl ?_
                    refine v_aload_n (pc := 133) dX12_readPart_133 3 rfl ?_
                    refine v_lconst0 (pc := 134) dX12_readPart_134 ?_
                    refine v_iload_n (pc := 135) dX12_readPart_135 2 rfl ?_
                    refine v_iconst (pc := 136) dX12_readPart_136 (by decide) ?_
                    refine v_icmpne (pc := 137) (tgt := 146) dX12_readPart_137 (by decide) (fun c1 => ?_) (fun c1 => ?_)
                    · have h := h.1 c1
                      refine v_ldc2 (pc := 146) (n := 31) dX12_readPart_146 cnX12_186 (by decide) ?_
                      refine m_invI (pc := 149) (mi' := mX12_number) (rest := [aI ((m6 603 23) - 1), aR 615]) [aL 0, aL 31] dX12_readPart_149 at603 (by decide) rfl msX12_number mvX12_number lkX12_333 rfl (Nat.le_of_ble_eq_true rfl) (fun hn => CI_mono (h) (fun r9 m8 h => ?_))
                      obtain ⟨o10, h⟩ := h
                      refine v_iast (pc := 152) dX12_readPart_152 at615 o10.1 o10.2 ?_
                      exact VG_sub (al' := []) [] rfl h
                    · have h := h.2 c1
                      refine v_ldc2 (pc := 140) (n := 9) dX12_readPart_140 cnX12_227 (by decide) ?_
                      refine v_goto (pc := 143) (tgt := 149) dX12_readPart_143 (by decide) ?_
                      refine m_invI (pc := 149) (mi' := mX12_number) (rest := [aI ((m6 603 23) - 1), aR 615]) [aL 0, aL 9] dX12_readPart_149 at603 (by decide) rfl msX12_number mvX12_number lkX12_333 rfl (Nat.le_of_ble_eq_true rfl) (fun hn => CI_mono (h) (fun r12 m11 h => ?_))
                      obtain ⟨o13, h⟩ := h
                      refine v_iast (pc := 152) dX12_readPart_152 at615 o13.1 o13.2 ?_
                      exact VG_sub (al' := []) [] rfl h
            · have h := h.2 c1
              refine v_iconst (pc := 81) dX12_readPart_81 (by decide) ?_
              refine v_goto (pc := 82) (tgt := 86) dX12_readPart_82 (by decide) ?_
              refine v_iload_n (pc := 86) dX12_readPart_86 0 rfl ?_
              refine v_ifeq (pc := 87) (tgt := 98) dX12_readPart_87 (by decide) (fun c1 => absurd c1 (by decide)) (fun c1 => ?_)
              refine v_aload_n (pc := 90) dX12_readPart_90 2 rfl ?_
              refine m_getf (pc := 91) (t := 1) (v := (m3 603 17)) dX12_readPart_91 flX12_251 rfl at603 rfl ?_
              obtain ⟨o14, h⟩ := h
              refine m_l2i (pc := 94) dX12_readPart_94 o14 ?_
              refine v_goto (pc := 95) (tgt := 99) dX12_readPart_95 (by decide) ?_
              refine m_invV (pc := 99) (mi' := mX12_leaf) (rest := []) [aI 1, aI 0, aI (m3 603 17)] dX12_readPart_99 at603 (by decide) rfl msX12_leaf mvX12_leaf lkX12_329 rfl (Nat.le_of_ble_eq_true rfl) (fun hn => CV_mono (h (aaI hn 3 rfl)) (fun m15 h => ?_))
              refine v_aload_n (pc := 102) dX12_readPart_102 2 rfl ?_
              refine m_getf (pc := 103) (t := 0) (v := (m15 603 20)) dX12_readPart_103 flX12_317 rfl at603 rfl ?_
              refine v_ifeq (pc := 106) (tgt := 153) dX12_readPart_106 (by decide) (fun c1 => ?_) (fun c1 => ?_)
              · have h := h.1 c1
                exact VG_sub (al' := []) [] rfl h
              · have h := h.2 c1
                refine v_iload_n (pc := 109) dX12_readPart_109 1 rfl ?_
                refine v_iconst (pc := 110) dX12_readPart_110 (by decide) ?_
                refine v_icmplt (pc := 111) (tgt := 153) dX12_readPart_111 (by decide) (fun c1 => ?_) (fun c1 => ?_)
                · have h := h.1 c1
                  exact VG_sub (al' := []) [] rfl h
                · have h := h.2 c1
                  refine v_aload_n (pc := 114) dX12_readPart_114 2 rfl ?_
                  refine m_getf (pc := 115) (t := 0) (v := (m15 603 19)) dX12_readPart_115 flX12_241 rfl at603 rfl ?_
                  refine v_ifne (pc := 118) (tgt := 153) dX12_readPart_118 (by decide) (fun c1 => ?_) (fun c1 => ?_)
                  · have h := h.1 c1
                    exact VG_sub (al' := []) [] rfl h
                  · have h := h.2 c1
                    refine v_aload_n (pc := 121) dX12_readPart_121 2 rfl ?_
                    refine m_getf (pc := 122) (t := 0) (v := (m15 603 23)) dX12_readPart_122 flX12_278 rfl at603 rfl ?_
                    refine v_iconst (pc := 125) dX12_readPart_125 (by decide) ?_
                    obtain ⟨o16, h⟩ := h
                    refine m_isub (pc := 126) dX12_readPart_126 o16 ?_
                    refine v_istore_n (pc := 127) (al2 := [(3, aI ((m15 603 23) - 1)), (2, aI 1), (1, aI r4), (0, aR 603)]) dX12_readPart_127 (by decide) rfl ?_
                    refine v_aload_n (pc := 128) dX12_readPart_128 3 rfl ?_
                    refine m_getfin (pc := 129) (v := 615) hE dX12_readPart_129 flX12_48 rfl at603 rfl ?_
                    refine v_iload_n (pc := 132) dX12_readPart_132 0 rfl ?_
                    refine v_aload_n (pc := 133) dX12_readPart_133 3 rfl ?_
                    refine v_lconst0 (pc := 134) dX12_readPart_134 ?_
                    refine v_iload_n (pc := 135) dX12_readPart_135 2 rfl ?_
                    refine v_iconst (pc := 136) dX12_readPart_136 (by decide) ?_
                    refine v_icmpne (pc := 137) (tgt := 146) dX12_readPart_137 (by decide) (fun c1 => ?_) (fun c1 => ?_)
                    · have h := h.1 c1
                      refine v_ldc2 (pc := 146) (n := 31) dX12_readPart_146 cnX12_186 (by decide) ?_
                      refine m_invI (pc := 149) (mi' := mX12_number) (rest := [aI ((m15 603 23) - 1), aR 615]) [aL 0, aL 31] dX12_readPart_149 at603 (by decide) rfl msX12_number mvX12_number lkX12_333 rfl (Nat.le_of_ble_eq_true rfl) (fun hn => CI_mono (h) (fun r18 m17 h => ?_))
                      obtain ⟨o19, h⟩ := h
                      refine v_iast (pc := 152) dX12_readPart_152 at615 o19.1 o19.2 ?_
                      exact VG_sub (al' := []) [] rfl h
                    · have h := h.2 c1
                      refine v_ldc2 (pc := 140) (n := 9) dX12_readPart_140 cnX12_227 (by decide) ?_
                      refine v_goto (pc := 143) (tgt := 149) dX12_readPart_143 (by decide) ?_
                      refine m_invI (pc := 149) (mi' := mX12_number) (rest := [aI ((m15 603 23) - 1), aR 615]) [aL 0, aL 9] dX12_readPart_149 at603 (by decide) rfl msX12_number mvX12_number lkX12_333 rfl (Nat.le_of_ble_eq_true rfl) (fun hn => CI_mono (h) (fun r21 m20 h => ?_))
                      obtain ⟨o22, h⟩ := h
                      refine v_iast (pc := 152) dX12_readPart_152 at615 o22.1 o22.2 ?_
                      exact VG_sub (al' := []) [] rfl h
          · have h := h.2 c1
            refine v_iload_n (pc := 67) dX12_readPart_67 0 rfl ?_
            refine v_ifeq (pc := 68) (tgt := 75) dX12_readPart_68 (by decide) (fun c1 => absurd c1 (by decide)) (fun c1 => ?_)
            refine v_iconst (pc := 71) dX12_readPart_71 (by decide) ?_
            refine v_goto (pc := 72) (tgt := 76) dX12_readPart_72 (by decide) ?_
            refine v_iload_n (pc := 76) dX12_readPart_76 1 rfl ?_
            refine v_iconst (pc := 77) dX12_readPart_77 (by decide) ?_
            refine v_icmpne (pc := 78) (tgt := 85) dX12_readPart_78 (by decide) (fun c1 => ?_) (fun c1 => ?_)
            · have h := h.1 c1
              refine v_iload_n (pc := 85) dX12_readPart_85 1 rfl ?_
              refine v_iload_n (pc := 86) dX12_readPart_86 0 rfl ?_
              refine v_ifeq (pc := 87) (tgt := 98) dX12_readPart_87 (by decide) (fun c1 => absurd c1 (by decide)) (fun c1 => ?_)
              refine v_aload_n (pc := 90) dX12_readPart_90 2 rfl ?_
              refine m_getf (pc := 91) (t := 1) (v := (m3 603 17)) dX12_readPart_91 flX12_251 rfl at603 rfl ?_
              obtain ⟨o23, h⟩ := h
              refine m_l2i (pc := 94) dX12_readPart_94 o23 ?_
              refine v_goto (pc := 95) (tgt := 99) dX12_readPart_95 (by decide) ?_
              refine m_invV (pc := 99) (mi' := mX12_leaf) (rest := []) [aI 1, aI r4, aI (m3 603 17)] dX12_readPart_99 at603 (by decide) rfl msX12_leaf mvX12_leaf lkX12_329 rfl (Nat.le_of_ble_eq_true rfl) (fun hn => CV_mono (h (aaI hn 2 rfl) (aaI hn 3 rfl)) (fun m24 h => ?_))
              refine v_aload_n (pc := 102) dX12_readPart_102 2 rfl ?_
              refine m_getf (pc := 103) (t := 0) (v := (m24 603 20)) dX12_readPart_103 flX12_317 rfl at603 rfl ?_
              refine v_ifeq (pc := 106) (tgt := 153) dX12_readPart_106 (by decide) (fun c1 => ?_) (fun c1 => ?_)
              · have h := h.1 c1
                exact VG_sub (al' := []) [] rfl h
              · have h := h.2 c1
                refine v_iload_n (pc := 109) dX12_readPart_109 1 rfl ?_
                refine v_iconst (pc := 110) dX12_readPart_110 (by decide) ?_
                refine v_icmplt (pc := 111) (tgt := 153) dX12_readPart_111 (by decide) (fun c1 => ?_) (fun c1 => ?_)
                · have h := h.1 c1
                  exact VG_sub (al' := []) [] rfl h
                · have h := h.2 c1
                  refine v_aload_n (pc := 114) dX12_readPart_114 2 rfl ?_
                  refine m_getf (pc := 115) (t := 0) (v := (m24 603 19)) dX12_readPart_115 flX12_241 rfl at603 rfl ?_
                  refine v_ifne (pc := 118) (tgt := 153) dX12_readPart_118 (by decide) (fun c1 => ?_) (fun c1 => ?_)
                  · have h := h.1 c1
                    exact VG_sub (al' := []) [] rfl h
                  · have h := h.2 c1
                    refine v_aload_n (pc := 121) dX12_readPart_121 2 rfl ?_
                    refine m_getf (pc := 122) (t := 0) (v := (m24 603 23)) dX12_readPart_122 flX12_278 rfl at603 rfl ?_
                    refine v_iconst (pc := 125) dX12_readPart_125 (by decide) ?_
                    obtain ⟨o25, h⟩ := h
                    refine m_isub (pc := 126) dX12_readPart_126 o25 ?_
                    refine v_istore_n (pc := 127) (al2 := [(3, aI ((m24 603 23) - 1)), (2, aI 1), (1, aI r4), (0, aR 603)]) dX12_readPart_127 (by decide) rfl ?_
                    refine v_aload_n (pc := 128) dX12_readPart_128 3 rfl ?_
                    refine m_getfin (pc := 129) (v := 615) hE dX12_readPart_129 flX12_48 rfl at603 rfl ?_
                    refine v_iload_n (pc := 132) dX12_readPart_132 0 rfl ?_
                    refine v_aload_n (pc := 133) dX12_readPart_133 3 rfl ?_
                    refine v_lconst0 (pc := 134) dX12_readPart_134 ?_
                    refine v_iload_n (pc := 135) dX12_readPart_135 2 rfl ?_
                    refine v_iconst (pc := 136) dX12_readPart_136 (by decide) ?_
                    refine v_icmpne (pc := 137) (tgt := 146) dX12_readPart_137 (by decide) (fun c1 => ?_) (fun c1 => ?_)
                    · have h := h.1 c1
                      refine v_ldc2 (pc := 146) (n := 31) dX12_readPart_146 cnX12_186 (by decide) ?_
                      refine m_invI (pc := 149) (mi' := mX12_number) (rest := [aI ((m24 603 23) - 1), aR 615]) [aL 0, aL 31] dX12_readPart_149 at603 (by decide) rfl msX12_number mvX12_number lkX12_333 rfl (Nat.le_of_ble_eq_true rfl) (fun hn => CI_mono (h) (fun r27 m26 h => ?_))
                      obtain ⟨o28, h⟩ := h
                      refine v_iast (pc := 152) dX12_readPart_152 at615 o28.1 o28.2 ?_
                      exact VG_sub (al' := []) [] rfl h
                    · have h := h.2 c1
                      refine v_ldc2 (pc := 140) (n := 9) dX12_readPart_140 cnX12_227 (by decide) ?_
                      refine v_goto (pc := 143) (tgt := 149) dX12_readPart_143 (by decide) ?_
                      refine m_invI (pc := 149) (mi' := mX12_number) (rest := [aI ((m24 603 23) - 1), aR 615]) [aL 0, aL 9] dX12_readPart_149 at603 (by decide) rfl msX12_number mvX12_number lkX12_333 rfl (Nat.le_of_ble_eq_true rfl) (fun hn => CI_mono (h) (fun r30 m29 h => ?_))
                      obtain ⟨o31, h⟩ := h
                      refine v_iast (pc := 152) dX12_readPart_152 at615 o31.1 o31.2 ?_
                      exact VG_sub (al' := []) [] rfl h
            · have h := h.2 c1
              refine v_iconst (pc := 81) dX12_readPart_81 (by decide) ?_
              refine v_goto (pc := 82) (tgt := 86) dX12_readPart_82 (by decide) ?_
              refine v_iload_n (pc := 86) dX12_readPart_86 0 rfl ?_
              refine v_ifeq (pc := 87) (tgt := 98) dX12_readPart_87 (by decide) (fun c1 => absurd c1 (by decide)) (fun c1 => ?_)
              refine v_aload_n (pc := 90) dX12_readPart_90 2 rfl ?_
              refine m_getf (pc := 91) (t := 1) (v := (m3 603 17)) dX12_readPart_91 flX12_251 rfl at603 rfl ?_
              obtain ⟨o32, h⟩ := h
              refine m_l2i (pc := 94) dX12_readPart_94 o32 ?_
              refine v_goto (pc := 95) (tgt := 99) dX12_readPart_95 (by decide) ?_
              refine m_invV (pc := 99) (mi' := mX12_leaf) (rest := []) [aI 1, aI 0, aI (m3 603 17)] dX12_readPart_99 at603 (by decide) rfl msX12_leaf mvX12_leaf lkX12_329 rfl (Nat.le_of_ble_eq_true rfl) (fun hn => CV_mono (h (aaI hn 3 rfl)) (fun m33 h => ?_))
              refine v_aload_n (pc := 102) dX12_readPart_102 2 rfl ?_
              refine m_getf (pc := 103) (t := 0) (v := (m33 603 20)) dX12_readPart_103 flX12_317 rfl at603 rfl ?_
              refine v_ifeq (pc := 106) (tgt := 153) dX12_readPart_106 (by decide) (fun c1 => ?_) (fun c1 => ?_)
              · have h := h.1 c1
                exact VG_sub (al' := []) [] rfl h
              · have h := h.2 c1
                refine v_iload_n (pc := 109) dX12_readPart_109 1 rfl ?_
                refine v_iconst (pc := 110) dX12_readPart_110 (by decide) ?_
                refine v_icmplt (pc := 111) (tgt := 153) dX12_readPart_111 (by decide) (fun c1 => ?_) (fun c1 => ?_)
                · have h := h.1 c1
                  exact VG_sub (al' := []) [] rfl h
                · have h := h.2 c1
                  refine v_aload_n (pc := 114) dX12_readPart_114 2 rfl ?_
                  refine m_getf (pc := 115) (t := 0) (v := (m33 603 19)) dX12_readPart_115 flX12_241 rfl at603 rfl ?_
                  refine v_ifne (pc := 118) (tgt := 153) dX12_readPart_118 (by decide) (fun c1 => ?_) (fun c1 => ?_)
                  · have h := h.1 c1
                    exact VG_sub (al' := []) [] rfl h
                  · have h := h.2 c1
                    refine v_aload_n (pc := 121) dX12_readPart_121 2 rfl ?_
                    refine m_getf (pc := 122) (t := 0) (v := (m33 603 23)) dX12_readPart_122 flX12_278 rfl at603 rfl ?_
                    refine v_iconst (pc := 125) dX12_readPart_125 (by decide) ?_
                    obtain ⟨o34, h⟩ := h
                    refine m_isub (pc := 126) dX12_readPart_126 o34 ?_
                    refine v_istore_n (pc := 127) (al2 := [(3, aI ((m33 603 23) - 1)), (2, aI 1), (1, aI r4), (0, aR 603)]) dX12_readPart_127 (by decide) rfl ?_
                    refine v_aload_n (pc := 128) dX12_readPart_128 3 rfl ?_
                    refine m_getfin (pc := 129) (v := 615) hE dX12_readPart_129 flX12_48 rfl at603 rfl ?_
                    refine v_iload_n (pc := 132) dX12_readPart_132 0 rfl ?_
                    refine v_aload_n (pc := 133) dX12_readPart_133 3 rfl ?_
                    refine v_lconst0 (pc := 134) dX12_readPart_134 ?_
                    refine v_iload_n (pc := 135) dX12_readPart_135 2 rfl ?_
                    refine v_iconst (pc := 136) dX12_readPart_136 (by decide) ?_
                    refine v_icmpne (pc := 137) (tgt := 146) dX12_readPart_137 (by decide) (fun c1 => ?_) (fun c1 => ?_)
                    · have h := h.1 c1
                      refine v_ldc2 (pc := 146) (n := 31) dX12_readPart_146 cnX12_186 (by decide) ?_
                      refine m_invI (pc := 149) (mi' := mX12_number) (rest := [aI ((m33 603 23) - 1), aR 615]) [aL 0, aL 31] dX12_readPart_149 at603 (by decide) rfl msX12_number mvX12_number lkX12_333 rfl (Nat.le_of_ble_eq_true rfl) (fun hn => CI_mono (h) (fun r36 m35 h => ?_))
                      obtain ⟨o37, h⟩ := h
                      refine v_iast (pc := 152) dX12_readPart_152 at615 o37.1 o37.2 ?_
                      exact VG_sub (al' := []) [] rfl h
                    · have h := h.2 c1
                      refine v_ldc2 (pc := 140) (n := 9) dX12_readPart_140 cnX12_227 (by decide) ?_
                      refine v_goto (pc := 143) (tgt := 149) dX12_readPart_143 (by decide) ?_
                      refine m_invI (pc := 149) (mi' := mX12_number) (rest := [aI ((m33 603 23) - 1), aR 615]) [aL 0, aL 9] dX12_readPart_149 at603 (by decide) rfl msX12_number mvX12_number lkX12_333 rfl (Nat.le_of_ble_eq_true rfl) (fun hn => CI_mono (h) (fun r39 m38 h => ?_))
                      obtain ⟨o40, h⟩ := h
                      refine v_iast (pc := 152) dX12_readPart_152 at615 o40.1 o40.2 ?_
                      exact VG_sub (al' := []) [] rfl h
    · have h := h.2 c1
      refine v_aload_n (pc := 24) dX12_readPart_24 0 rfl ?_
      refine m_invI (pc := 25) (mi' := mX12_orderPartAt) (rest := []) [] dX12_readPart_25 at603 (by decide) rfl msX12_orderPartAt mvX12_orderPartAt lkX12_320 rfl (Nat.le_of_ble_eq_true rfl) (fun hn => CI_mono (h) (fun r42 m41 h => ?_))
      refine v_goto (pc := 28) (tgt := 35) dX12_readPart_28 (by decide) ?_
      refine v_istore_n (pc := 35) (al2 := [(1, aI r42), (0, aR 603)]) dX12_readPart_35 (by decide) rfl ?_
      refine v_aload_n (pc := 36) dX12_readPart_36 1 rfl ?_
      refine m_getf (pc := 37) (t := 0) (v := (m41 603 16)) dX12_readPart_37 flX12_261 rfl at603 rfl ?_
      refine v_iconst (pc := 40) dX12_readPart_40 (by decide) ?_
      refine v_icmpne (pc := 41) (tgt := 59) dX12_readPart_41 (by decide) (fun c1 => ?_) (fun c1 => ?_)
      · have h := h.1 c1
        exact VG_sub (al' := [(0, aR 603), (1, aI r42)]) [1, 0] rfl h
      · have h := h.2 c1
        refine v_aload_n (pc := 44) dX12_readPart_44 1 rfl ?_
        refine m_getf (pc := 45) (t := 1) (v := (m41 603 17)) dX12_readPart_45 flX12_251 rfl at603 rfl ?_
        refine v_ldc2 (pc := 48) (n := 1000) dX12_readPart_48 cnX12_327 (by decide) ?_
        refine v_lcmpgt (pc := 51) (tgt := 59) dX12_readPart_51 dX12_readPart_52 (by decide) (fun c1 => ?_) (fun c1 => ?_)
        · have h := h.1 c1
          exact VG_sub (al' := [(0, aR 603), (1, aI r42)]) [1, 0] rfl h
        · have h := h.2 c1
          refine v_iconst (pc := 55) dX12_readPart_55 (by decide) ?_
          refine v_goto (pc := 56) (tgt := 60) dX12_readPart_56 (by decide) ?_
          refine v_istore_n (pc := 60) (al2 := [(2, aI 1), (1, aI r42), (0, aR 603)]) dX12_readPart_60 (by decide) rfl ?_
          refine v_aload_n (pc := 61) dX12_readPart_61 2 rfl ?_
          refine v_iload_n (pc := 62) dX12_readPart_62 1 rfl ?_
          refine v_iconst (pc := 63) dX12_readPart_63 (by decide) ?_
          refine v_icmpne (pc := 64) (tgt := 71) dX12_readPart_64 (by decide) (fun c1 => ?_) (fun c1 => ?_)
          · have h := h.1 c1
            refine v_iconst (pc := 71) dX12_readPart_71 (by decide) ?_
            refine v_goto (pc := 72) (tgt := 76) dX12_readPart_72 (by decide) ?_
            refine v_iload_n (pc := 76) dX12_readPart_76 1 rfl ?_
            refine v_iconst (pc := 77) dX12_readPart_77 (by decide) ?_
            refine v_icmpne (pc := 78) (tgt := 85) dX12_readPart_78 (by decide) (fun c1 => ?_) (fun c1 => ?_)
            · have h := h.1 c1
              refine v_iload_n (pc := 85) dX12_readPart_85 1 rfl ?_
              refine v_iload_n (pc := 86) dX12_readPart_86 0 rfl ?_
              refine v_ifeq (pc := 87) (tgt := 98) dX12_readPart_87 (by decide) (fun c1 => absurd c1 (by decide)) (fun c1 => ?_)
              refine v_aload_n (pc := 90) dX12_readPart_90 2 rfl ?_
              refine m_getf (pc := 91) (t := 1) (v := (m41 603 17)) dX12_readPart_91 flX12_251 rfl at603 rfl ?_
              obtain ⟨o43, h⟩ := h
              refine m_l2i (pc := 94) dX12_readPart_94 o43 ?_
              refine v_goto (pc := 95) (tgt := 99) dX12_readPart_95 (by decide) ?_
              refine m_invV (pc := 99) (mi' := mX12_leaf) (rest := []) [aI 1, aI r42, aI (m41 603 17)] dX12_readPart_99 at603 (by decide) rfl msX12_leaf mvX12_leaf lkX12_329 rfl (Nat.le_of_ble_eq_true rfl) (fun hn => CV_mono (h (aaI hn 2 rfl) (aaI hn 3 rfl)) (fun m44 h => ?_))
              refine v_aload_n (pc := 102) dX12_readPart_102 2 rfl ?_
              refine m_getf (pc := 103) (t := 0) (v := (m44 603 20)) dX12_readPart_103 flX12_317 rfl at603 rfl ?_
              refine v_ifeq (pc := 106) (tgt := 153) dX12_readPart_106 (by decide) (fun c1 => ?_) (fun c1 => ?_)
              · have h := h.1 c1
                exact VG_sub (al' := []) [] rfl h
              · have h := h.2 c1
                refine v_iload_n (pc := 109) dX12_readPart_109 1 rfl ?_
                refine v_iconst (pc := 110) dX12_readPart_110 (by decide) ?_
                refine v_icmplt (pc := 111) (tgt := 153) dX12_readPart_111 (by decide) (fun c1 => ?_) (fun c1 => ?_)
                · have h := h.1 c1
                  exact VG_sub (al' := []) [] rfl h
                · have h := h.2 c1
                  refine v_aload_n (pc := 114) dX12_readPart_114 2 rfl ?_
                  refine m_getf (pc := 115) (t := 0) (v := (m44 603 19)) dX12_readPart_115 flX12_241 rfl at603 rfl ?_
                  refine v_ifne (pc := 118) (tgt := 153) dX12_readPart_118 (by decide) (fun c1 => ?_) (fun c1 => ?_)
                  · have h := h.1 c1
                    exact VG_sub (al' := []) [] rfl h
                  · have h := h.2 c1
                    refine v_aload_n (pc := 121) dX12_readPart_121 2 rfl ?_
                    refine m_getf (pc := 122) (t := 0) (v := (m44 603 23)) dX12_readPart_122 flX12_278 rfl at603 rfl ?_
                    refine v_iconst (pc := 125) dX12_readPart_125 (by decide) ?_
                    obtain ⟨o45, h⟩ := h
                    refine m_isub (pc := 126) dX12_readPart_126 o45 ?_
                    refine v_istore_n (pc := 127) (al2 := [(3, aI ((m44 603 23) - 1)), (2, aI 1), (1, aI r42), (0, aR 603)]) dX12_readPart_127 (by decide) rfl ?_
                    refine v_aload_n (pc := 128) dX12_readPart_128 3 rfl ?_
                    refine m_getfin (pc := 129) (v := 615) hE dX12_readPart_129 flX12_48 rfl at603 rfl ?_
                    refine v_iload_n (pc := 132) dX12_readPart_132 0 rfl ?_
                    refine v_aload_n (pc := 133) dX12_readPart_133 3 rfl ?_
                    refine v_lconst0 (pc := 134) dX12_readPart_134 ?_
                    refine v_iload_n (pc := 135) dX12_readPart_135 2 rfl ?_
                    refine v_iconst (pc := 136) dX12_readPart_136 (by decide) ?_
                    refine v_icmpne (pc := 137) (tgt := 146) dX12_readPart_137 (by decide) (fun c1 => ?_) (fun c1 => ?_)
                    · have h := h.1 c1
                      refine v_ldc2 (pc := 146) (n := 31) dX12_readPart_146 cnX12_186 (by decide) ?_
                      refine m_invI (pc := 149) (mi' := mX12_number) (rest := [aI ((m44 603 23) - 1), aR 615]) [aL 0, aL 31] dX12_readPart_149 at603 (by decide) rfl msX12_number mvX12_number lkX12_333 rfl (Nat.le_of_ble_eq_true rfl) (fun hn => CI_mono (h) (fun r47 m46 h => ?_))
                      obtain ⟨o48, h⟩ := h
                      refine v_iast (pc := 152) dX12_readPart_152 at615 o48.1 o48.2 ?_
                      exact VG_sub (al' := []) [] rfl h
                    · have h := h.2 c1
                      refine v_ldc2 (pc := 140) (n := 9) dX12_readPart_140 cnX12_227 (by decide) ?_
                      refine v_goto (pc := 143) (tgt := 149) dX12_readPart_143 (by decide) ?_
                      refine m_invI (pc := 149) (mi' := mX12_number) (rest := [aI ((m44 603 23) - 1), aR 615]) [aL 0, aL 9] dX12_readPart_149 at603 (by decide) rfl msX12_number mvX12_number lkX12_333 rfl (Nat.le_of_ble_eq_true rfl) (fun hn => CI_mono (h) (fun r50 m49 h => ?_))
                      obtain ⟨o51, h⟩ := h
                      refine v_iast (pc := 152) dX12_readPart_152 at615 o51.1 o51.2 ?_
                      exact VG_sub (al' := []) [] rfl h
            · have h := h.2 c1
              refine v_iconst (pc := 81) dX12_readPart_81 (by decide) ?_
              refine v_goto (pc := 82) (tgt := 86) dX12_readPart_82 (by decide) ?_
              refine v_iload_n (pc := 86) dX12_readPart_86 0 rfl ?_
              refine v_ifeq (pc := 87) (tgt := 98) dX12_readPart_87 (by decide) (fun c1 => absurd c1 (by decide)) (fun c1 => ?_)
              refine v_aload_n (pc := 90) dX12_readPart_90 2 rfl ?_
              refine m_getf (pc := 91) (t := 1) (v := (m41 603 17)) dX12_readPart_91 flX12_251 rfl at603 rfl ?_
              obtain ⟨o52, h⟩ := h
              refine m_l2i (pc := 94) dX12_readPart_94 o52 ?_
              refine v_goto (pc := 95) (tgt := 99) dX12_readPart_95 (by decide) ?_
              refine m_invV (pc := 99) (mi' := mX12_leaf) (rest := []) [aI 1, aI 0, aI (m41 603 17)] dX12_readPart_99 at603 (by decide) rfl msX12_leaf mvX12_leaf lkX12_329 rfl (Nat.le_of_ble_eq_true rfl) (fun hn => CV_mono (h (aaI hn 3 rfl)) (fun m53 h => ?_))
              refine v_aload_n (pc := 102) dX12_readPart_102 2 rfl ?_
              refine m_getf (pc := 103) (t := 0) (v := (m53 603 20)) dX12_readPart_103 flX12_317 rfl at603 rfl ?_
              refine v_ifeq (pc := 106) (tgt := 153) dX12_readPart_106 (by decide) (fun c1 => ?_) (fun c1 => ?_)
              · have h := h.1 c1
                exact VG_sub (al' := []) [] rfl h
              · have h := h.2 c1
                refine v_iload_n (pc := 109) dX12_readPart_109 1 rfl ?_
                refine v_iconst (pc := 110) dX12_readPart_110 (by decide) ?_
                refine v_icmplt (pc := 111) (tgt := 153) dX12_readPart_111 (by decide) (fun c1 => ?_) (fun c1 => ?_)
                · have h := h.1 c1
                  exact VG_sub (al' := []) [] rfl h
                · have h := h.2 c1
                  refine v_aload_n (pc := 114) dX12_readPart_114 2 rfl ?_
                  refine m_getf (pc := 115) (t := 0) (v := (m53 603 19)) dX12_readPart_115 flX12_241 rfl at603 rfl ?_
                  refine v_ifne (pc := 118) (tgt := 153) dX12_readPart_118 (by decide) (fun c1 => ?_) (fun c1 => ?_)
                  · have h := h.1 c1
                    exact VG_sub (al' := []) [] rfl h
                  · have h := h.2 c1
                    refine v_aload_n (pc := 121) dX12_readPart_121 2 rfl ?_
                    refine m_getf (pc := 122) (t := 0) (v := (m53 603 23)) dX12_readPart_122 flX12_278 rfl at603 rfl ?_
                    refine v_iconst (pc := 125) dX12_readPart_125 (by decide) ?_
                    obtain ⟨o54, h⟩ := h
                    refine m_isub (pc := 126) dX12_readPart_126 o54 ?_
                    refine v_istore_n (pc := 127) (al2 := [(3, aI ((m53 603 23) - 1)), (2, aI 1), (1, aI r42), (0, aR 603)]) dX12_readPart_127 (by decide) rfl ?_
                    refine v_aload_n (pc := 128) dX12_readPart_128 3 rfl ?_
                    refine m_getfin (pc := 129) (v := 615) hE dX12_readPart_129 flX12_48 rfl at603 rfl ?_
                    refine v_iload_n (pc := 132) dX12_readPart_132 0 rfl ?_
                    refine v_aload_n (pc := 133) dX12_readPart_133 3 rfl ?_
                    refine v_lconst0 (pc := 134) dX12_readPart_134 ?_
                    refine v_iload_n (pc := 135) dX12_readPart_135 2 rfl ?_
                    refine v_iconst (pc := 136) dX12_readPart_136 (by decide) ?_
                    refine v_icmpne (pc := 137) (tgt := 146) dX12_readPart_137 (by decide) (fun c1 => ?_) (fun c1 => ?_)
                    · have h := h.1 c1
                      refine v_ldc2 (pc := 146) (n := 31) dX12_readPart_146 cnX12_186 (by decide) ?_
                      refine m_invI (pc := 149) (mi' := mX12_number) (rest := [aI ((m53 603 23) - 1), aR 615]) [aL 0, aL 31] dX12_readPart_149 at603 (by decide) rfl msX12_number mvX12_number lkX12_333 rfl (Nat.le_of_ble_eq_true rfl) (fun hn => CI_mono (h) (fun r56 m55 h => ?_))
                      obtain ⟨o57, h⟩ := h
                      refine v_iast (pc := 152) dX12_readPart_152 at615 o57.1 o57.2 ?_
                      exact VG_sub (al' := []) [] rfl h
                    · have h := h.2 c1
                      refine v_ldc2 (pc := 140) (n := 9) dX12_readPart_140 cnX12_227 (by decide) ?_
                      refine v_goto (pc := 143) (tgt := 149) dX12_readPart_143 (by decide) ?_
                      refine m_invI (pc := 149) (mi' := mX12_number) (rest := [aI ((m53 603 23) - 1), aR 615]) [aL 0, aL 9] dX12_readPart_149 at603 (by decide) rfl msX12_number mvX12_number lkX12_333 rfl (Nat.le_of_ble_eq_true rfl) (fun hn => CI_mono (h) (fun r59 m58 h => ?_))
                      obtain ⟨o60, h⟩ := h
                      refine v_iast (pc := 152) dX12_readPart_152 at615 o60.1 o60.2 ?_
                      exact VG_sub (al' := []) [] rfl h
          · have h := h.2 c1
            refine v_iload_n (pc := 67) dX12_readPart_67 0 rfl ?_
            refine v_ifeq (pc := 68) (tgt := 75) dX12_readPart_68 (by decide) (fun c1 => absurd c1 (by decide)) (fun c1 => ?_)
            refine v_iconst (pc := 71) dX12_readPart_71 (by decide) ?_
            refine v_goto (pc := 72) (tgt := 76) dX12_readPart_72 (by decide) ?_
            refine v_iload_n (pc := 76) dX12_readPart_76 1 rfl ?_
            refine v_iconst (pc := 77) dX12_readPart_77 (by decide) ?_
            refine v_icmpne (pc := 78) (tgt := 85) dX12_readPart_78 (by decide) (fun c1 => ?_) (fun c1 => ?_)
            · have h := h.1 c1
              refine v_iload_n (pc := 85) dX12_readPart_85 1 rfl ?_
              refine v_iload_n (pc := 86) dX12_readPart_86 0 rfl ?_
              refine v_ifeq (pc := 87) (tgt := 98) dX12_readPart_87 (by decide) (fun c1 => absurd c1 (by decide)) (fun c1 => ?_)
              refine v_aload_n (pc := 90) dX12_readPart_90 2 rfl ?_
              refine m_getf (pc := 91) (t := 1) (v := (m41 603 17)) dX12_readPart_91 flX12_251 rfl at603 rfl ?_
              obtain ⟨o61, h⟩ := h
              refine m_l2i (pc := 94) dX12_readPart_94 o61 ?_
              refine v_goto (pc := 95) (tgt := 99) dX12_readPart_95 (by decide) ?_
              refine m_invV (pc := 99) (mi' := mX12_leaf) (rest := []) [aI 1, aI r42, aI (m41 603 17)] dX12_readPart_99 at603 (by decide) rfl msX12_leaf mvX12_leaf lkX12_329 rfl (Nat.le_of_ble_eq_true rfl) (fun hn => CV_mono (h (aaI hn 2 rfl) (aaI hn 3 rfl)) (fun m62 h => ?_))
              refine v_aload_n (pc := 102) dX12_readPart_102 2 rfl ?_
              refine m_getf (pc := 103) (t := 0) (v := (m62 603 20)) dX12_readPart_103 flX12_317 rfl at603 rfl ?_
              refine v_ifeq (pc := 106) (tgt := 153) dX12_readPart_106 (by decide) (fun c1 => ?_) (fun c1 => ?_)
              · have h := h.1 c1
                exact VG_sub (al' := []) [] rfl h
              · have h := h.2 c1
                refine v_iload_n (pc := 109) dX12_readPart_109 1 rfl ?_
                refine v_iconst (pc := 110) dX12_readPart_110 (by decide) ?_
                refine v_icmplt (pc := 111) (tgt := 153) dX12_readPart_111 (by decide) (fun c1 => ?_) (fun c1 => ?_)
                · have h := h.1 c1
                  exact VG_sub (al' := []) [] rfl h
                · have h := h.2 c1
                  refine v_aload_n (pc := 114) dX12_readPart_114 2 rfl ?_
                  refine m_getf (pc := 115) (t := 0) (v := (m62 603 19)) dX12_readPart_115 flX12_241 rfl at603 rfl ?_
                  refine v_ifne (pc := 118) (tgt := 153) dX12_readPart_118 (by decide) (fun c1 => ?_) (fun c1 => ?_)
                  · have h := h.1 c1
                    exact VG_sub (al' := []) [] rfl h
                  · have h := h.2 c1
                    refine v_aload_n (pc := 121) dX12_readPart_121 2 rfl ?_
                    refine m_getf (pc := 122) (t := 0) (v := (m62 603 23)) dX12_readPart_122 flX12_278 rfl at603 rfl ?_
                    refine v_iconst (pc := 125) dX12_readPart_125 (by decide) ?_
                    obtain ⟨o63, h⟩ := h
                    refine m_isub (pc := 126) dX12_readPart_126 o63 ?_
                    refine v_istore_n (pc := 127) (al2 := [(3, aI ((m62 603 23) - 1)), (2, aI 1), (1, aI r42), (0, aR 603)]) dX12_readPart_127 (by decide) rfl ?_
                    refine v_aload_n (pc := 128) dX12_readPart_128 3 rfl ?_
                    refine m_getfin (pc := 129) (v := 615) hE dX12_readPart_129 flX12_48 rfl at603 rfl ?_
                    refine v_iload_n (pc := 132) dX12_readPart_132 0 rfl ?_
                    refine v_aload_n (pc := 133) dX12_readPart_133 3 rfl ?_
                    refine v_lconst0 (pc := 134) dX12_readPart_134 ?_
                    refine v_iload_n (pc := 135) dX12_readPart_135 2 rfl ?_
                    refine v_iconst (pc := 136) dX12_readPart_136 (by decide) ?_
                    refine v_icmpne (pc := 137) (tgt := 146) dX12_readPart_137 (by decide) (fun c1 => ?_) (fun c1 => ?_)
                    · have h := h.1 c1
                      refine v_ldc2 (pc := 146) (n := 31) dX12_readPart_146 cnX12_186 (by decide) ?_
                      refine m_invI (pc := 149) (mi' := mX12_number) (rest := [aI ((m62 603 23) - 1), aR 615]) [aL 0, aL 31] dX12_readPart_149 at603 (by decide) rfl msX12_number mvX12_number lkX12_333 rfl (Nat.le_of_ble_eq_true rfl) (fun hn => CI_mono (h) (fun r65 m64 h => ?_))
                      obtain ⟨o66, h⟩ := h
                      refine v_iast (pc := 152) dX12_readPart_152 at615 o66.1 o66.2 ?_
                      exact VG_sub (al' := []) [] rfl h
                    · have h := h.2 c1
                      refine v_ldc2 (pc := 140) (n := 9) dX12_readPart_140 cnX12_227 (by decide) ?_
                      refine v_goto (pc := 143) (tgt := 149) dX12_readPart_143 (by decide) ?_
                      refine m_invI (pc := 149) (mi' := mX12_number) (rest := [aI ((m62 603 23) - 1), aR 615]) [aL 0, aL 9] dX12_readPart_149 at603 (by decide) rfl msX12_number mvX12_number lkX12_333 rfl (Nat.le_of_ble_eq_true rfl) (fun hn => CI_mono (h) (fun r68 m67 h => ?_))
                      obtain ⟨o69, h⟩ := h
                      refine v_iast (pc := 152) dX12_readPart_152 at615 o69.1 o69.2 ?_
                      exact VG_sub (al' := []) [] rfl h
            · have h := h.2 c1
              refine v_iconst (pc := 81) dX12_readPart_81 (by decide) ?_
              refine v_goto (pc := 82) (tgt := 86) dX12_readPart_82 (by decide) ?_
              refine v_iload_n (pc := 86) dX12_readPart_86 0 rfl ?_
              refine v_ifeq (pc := 87) (tgt := 98) dX12_readPart_87 (by decide) (fun c1 => absurd c1 (by decide)) (fun c1 => ?_)
              refine v_aload_n (pc := 90) dX12_readPart_90 2 rfl ?_
              refine m_getf (pc := 91) (t := 1) (v := (m41 603 17)) dX12_readPart_91 flX12_251 rfl at603 rfl ?_
              obtain ⟨o70, h⟩ := h
              refine m_l2i (pc := 94) dX12_readPart_94 o70 ?_
              refine v_goto (pc := 95) (tgt := 99) dX12_readPart_95 (by decide) ?_
              refine m_invV (pc := 99) (mi' := mX12_leaf) (rest := []) [aI 1, aI 0, aI (m41 603 17)] dX12_readPart_99 at603 (by decide) rfl msX12_leaf mvX12_leaf lkX12_329 rfl (Nat.le_of_ble_eq_true rfl) (fun hn => CV_mono (h (aaI hn 3 rfl)) (fun m71 h => ?_))
              refine v_aload_n (pc := 102) dX12_readPart_102 2 rfl ?_
              refine m_getf (pc := 103) (t := 0) (v := (m71 603 20)) dX12_readPart_103 flX12_317 rfl at603 rfl ?_
              refine v_ifeq (pc := 106) (tgt := 153) dX12_readPart_106 (by decide) (fun c1 => ?_) (fun c1 => ?_)
              · have h := h.1 c1
                exact VG_sub (al' := []) [] rfl h
              · have h := h.2 c1
                refine v_iload_n (pc := 109) dX12_readPart_109 1 rfl ?_
                refine v_iconst (pc := 110) dX12_readPart_110 (by decide) ?_
                refine v_icmplt (pc := 111) (tgt := 153) dX12_readPart_111 (by decide) (fun c1 => ?_) (fun c1 => ?_)
                · have h := h.1 c1
                  exact VG_sub (al' := []) [] rfl h
                · have h := h.2 c1
                  refine v_aload_n (pc := 114) dX12_readPart_114 2 rfl ?_
                  refine m_getf (pc := 115) (t := 0) (v := (m71 603 19)) dX12_readPart_115 flX12_241 rfl at603 rfl ?_
                  refine v_ifne (pc := 118) (tgt := 153) dX12_readPart_118 (by decide) (fun c1 => ?_) (fun c1 => ?_)
                  · have h := h.1 c1
                    exact VG_sub (al' := []) [] rfl h
                  · have h := h.2 c1
                    refine v_aload_n (pc := 121) dX12_readPart_121 2 rfl ?_
                    refine m_getf (pc := 122) (t := 0) (v := (m71 603 23)) dX12_readPart_122 flX12_278 rfl at603 rfl ?_
                    refine v_iconst (pc := 125) dX12_readPart_125 (by decide) ?_
                    obtain ⟨o72, h⟩ := h
                    refine m_isub (pc := 126) dX12_readPart_126 o72 ?_
                    refine v_istore_n (pc := 127) (al2 := [(3, aI ((m71 603 23) - 1)), (2, aI 1), (1, aI r42), (0, aR 603)]) dX12_readPart_127 (by decide) rfl ?_
                    refine v_aload_n (pc := 128) dX12_readPart_128 3 rfl ?_
                    refine m_getfin (pc := 129) (v := 615) hE dX12_readPart_129 flX12_48 rfl at603 rfl ?_
                    refine v_iload_n (pc := 132) dX12_readPart_132 0 rfl ?_
                    refine v_aload_n (pc := 133) dX12_readPart_133 3 rfl ?_
                    refine v_lconst0 (pc := 134) dX12_readPart_134 ?_
                    refine v_iload_n (pc := 135) dX12_readPart_135 2 rfl ?_
                    refine v_iconst (pc := 136) dX12_readPart_136 (by decide) ?_
                    refine v_icmpne (pc := 137) (tgt := 146) dX12_readPart_137 (by decide) (fun c1 => ?_) (fun c1 => ?_)
                    · have h := h.1 c1
                      refine v_ldc2 (pc := 146) (n := 31) dX12_readPart_146 cnX12_186 (by decide) ?_
                      refine m_invI (pc := 149) (mi' := mX12_number) (rest := [aI ((m71 603 23) - 1), aR 615]) [aL 0, aL 31] dX12_readPart_149 at603 (by decide) rfl msX12_number mvX12_number lkX12_333 rfl (Nat.le_of_ble_eq_true rfl) (fun hn => CI_mono (h) (fun r74 m73 h => ?_))
                      obtain ⟨o75, h⟩ := h
                      refine v_iast (pc := 152) dX12_readPart_152 at615 o75.1 o75.2 ?_
                      exact VG_sub (al' := []) [] rfl h
                    · have h := h.2 c1
                      refine v_ldc2 (pc := 140) (n := 9) dX12_readPart_140 cnX12_227 (by decide) ?_
                      refine v_goto (pc := 143) (tgt := 149) dX12_readPart_143 (by decide) ?_
                      refine m_invI (pc := 149) (mi' := mX12_number) (rest := [aI ((m71 603 23) - 1), aR 615]) [aL 0, aL 9] dX12_readPart_149 at603 (by decide) rfl msX12_number mvX12_number lkX12_333 rfl (Nat.le_of_ble_eq_true rfl) (fun hn => CI_mono (h) (fun r77 m76 h => ?_))
                      obtain ⟨o78, h⟩ := h
                      refine v_iast (pc := 152) dX12_readPart_152 at615 o78.1 o78.2 ?_
                      exact VG_sub (al' := []) [] rfl h
  · have h := h.2 c1
    refine v_aload_n (pc := 9) dX12_readPart_9 0 rfl ?_
    refine v_bipush (pc := 10) dX12_readPart_10 (by decide) ?_
    refine m_invV (pc := 12) (mi' := mX12_openBracket) (rest := []) [aI 32] dX12_readPart_12 at603 (by decide) rfl msX12_openBracket mvX12_openBracket lkX12_314 rfl (Nat.le_of_ble_eq_true rfl) (fun hn => CV_mono (h) (fun m79 h => ?_))
    refine v_iconst (pc := 15) dX12_readPart_15 (by decide) ?_
    exact m_retI (pc := 16) dX12_readPart_16 rfl h
theorem eX12_readPart {E : EN} {k : Nat} {mem : Mm} {Q : Int → Mm → Prop}  (h : VM E mX12_readPart (k + 1) mem 0 [(0, aR 603)] [] (retI Q)) : CI E mX12_readPart (k + 1) mem [aR 603] Q := CI_of rfl (Nat.le_of_ble_eq_true rfl) h (aNs_c (aNr_R _) (fun _ q => nomatch q))
set_option maxRecDepth 20000 in
theorem rX12_readPart_59 {E : EN} (hE : Ep E) {k : Nat} {mem : Mm} {Q : Int → Mm → Prop} {x1 : Int}
    (h : ((¬ x1 = (-1) → ((¬ x1 = (-1) → (R32 x1 → CV E mX12_leaf k mem [aR 603, aI 1, aI x1, aI 0] (fun m1 => (((m1 603 20) = 0 → VM E mX12_readPart (k + 1) m1 153 [] [] (retI Q)) ∧ (¬ (m1 603 20) = 0 → ((x1 < 5 → VM E mX12_readPart (k + 1) m1 153 [] [] (retI Q)) ∧ (5 ≤ x1 → ((¬ (m1 603 19) = 0 → VM E mX12_readPart (k + 1) m1 153 [] [] (retI Q)) ∧ ((m1 603 19) = 0 → (R32 ((m1 603 23) - 1)) ∧ ((¬ x1 = 5 → (CI E mX12_number k m1 [aR 603, aL 0, aL 31] (fun r4 m3 => (0 ≤ ((m1 603 23) - 1) ∧ ((m1 603 23) - 1) < 400) ∧ VM E mX12_readPart (k + 1) (aUp m3 615 ((m1 603 23) - 1) r4) 153 [] [] (retI Q)))) ∧ (x1 = 5 → (CI E mX12_number k m1 [aR 603, aL 0, aL 9] (fun r7 m6 => (0 ≤ ((m1 603 23) - 1) ∧ ((m1 603 23) - 1) < 400) ∧ VM E mX12_readPart (k + 1) (aUp m6 615 ((m1 603 23) - 1) r7) 153 [] [] (retI Q)))))))))))))) ∧ (x1 = (-1) → (CV E mX12_leaf k mem [aR 603, aI 1, aI 0, aI 0] (fun m9 => (((m9 603 20) = 0 → VM E mX12_readPart (k + 1) m9 153 [] [] (retI Q)) ∧ (¬ (m9 603 20) = 0 → ((x1 < 5 → VM E mX12_readPart (k + 1) m9 153 [] [] (retI Q)) ∧ (5 ≤ x1 → ((¬ (m9 603 19) = 0 → VM E mX12_readPart (k + 1) m9 153 [] [] (retI Q)) ∧ ((m9 603 19) = 0 → (R32 ((m9 603 23) - 1)) ∧ ((¬ x1 = 5 → (CI E mX12_number k m9 [aR 603, aL 0, aL 31] (fun r12 m11 => (0 ≤ ((m9 603 23) - 1) ∧ ((m9 603 23) - 1) < 400) ∧ VM E mX12_readPart (k + 1) (aUp m11 615 ((m9 603 23) - 1) r12) 153 [] [] (retI Q)))) ∧ (x1 = 5 → (CI E mX12_number k m9 [aR 603, aL 0, aL 9] (fun r15 m14 => (0 ≤ ((m9 603 23) - 1) ∧ ((m9 603 23) - 1) < 400) ∧ VM E mX12_readPart (k + 1) (aUp m14 615 ((m9 603 23) - 1) r15) 153 [] [] (retI Q)))))))))))))))) ∧ (x1 = (-1) → ((¬ x1 = (-1) → (R32 x1 → CV E mX12_leaf k mem [aR 603, aI 0, aI x1, aI 0] (fun m17 => (((m17 603 20) = 0 → VM E mX12_readPart (k + 1) m17 153 [] [] (retI Q)) ∧ (¬ (m17 603 20) = 0 → ((x1 < 5 → VM E mX12_readPart (k + 1) m17 153 [] [] (retI Q)) ∧ (5 ≤ x1 → ((¬ (m17 603 19) = 0 → VM E mX12_readPart (k + 1) m17 153 [] [] (retI Q)) ∧ ((m17 603 19) = 0 → (R32 ((m17 603 23) - 1)) ∧ ((¬ x1 = 5 → (CI E mX12_number k m17 [aR 603, aL 0, aL 31] (fun r20 m19 => (0 ≤ ((m17 603 23) - 1) ∧ ((m17 603 23) - 1) < 400) ∧ VM E mX12_readPart (k + 1) (aUp m19 615 ((m17 603 23) - 1) r20) 153 [] [] (retI Q)))) ∧ (x1 = 5 → (CI E mX12_number k m17 [aR 603, aL 0, aL 9] (fun r23 m22 => (0 ≤ ((m17 603 23) - 1) ∧ ((m17 603 23) - 1) < 400) ∧ VM E mX12_readPart (k + 1) (aUp m22 615 ((m17 603 23) - 1) r23) 153 [] [] (retI Q)))))))))))))) ∧ (x1 = (-1) → (CV E mX12_leaf k mem [aR 603, aI 0, aI 0, aI 0] (fun m25 => (((m25 603 20) = 0 → VM E mX12_readPart (k + 1) m25 153 [] [] (retI Q)) ∧ (¬ (m25 603 20) = 0 → ((x1 < 5 → VM E mX12_readPart (k + 1) m25 153 [] [] (retI Q)) ∧ (5 ≤ x1 → ((¬ (m25 603 19) = 0 → VM E mX12_readPart (k + 1) m25 153 [] [] (retI Q)) ∧ ((m25 603 19) = 0 → (R32 ((m25 603 23) - 1)) ∧ ((¬ x1 = 5 → (CI E mX12_number k m25 [aR 603, aL 0, aL 31] (fun r28 m27 => (0 ≤ ((m25 603 23) - 1) ∧ ((m25 603 23) - 1) < 400) ∧ VM E mX12_readPart (k + 1) (aUp m27 615 ((m25 603 23) - 1) r28) 153 [] [] (retI Q)))) ∧ (x1 = 5 → (CI E mX12_number k m25 [aR 603, aL 0, aL 9] (fun r31 m30 => (0 ≤ ((m25 603 23) - 1) ∧ ((m25 603 23) - 1) < 400) ∧ VM E mX12_readPart (k + 1) (aUp m30 615 ((m25 603 23) - 1) r31) 153 [] [] (retI Q)))))))))))))))))) :
    VM E mX12_readPart (k + 1) mem 59 [(0, aR 603), (1, aI x1)] [] (retI Q) := by
  refine v_iconst (pc := 59) dX12_readPart_59 (by decide) ?_
  refine v_istore_n (pc := 60) (al2 := [(2, aI 0), (0, aR 603), (1, aI x1)]) dX12_readPart_60 (by decide) rfl ?_
  refine v_aload_n (pc := 61) dX12_readPart_61 1 rfl ?_
  refine v_iload_n (pc := 62) dX12_readPart_62 2 rfl ?_
  refine v_iconst (pc := 63) dX12_readPart_63 (by decide) ?_
  refine v_icmpne (pc := 64) (tgt := 71) dX12_readPart_64 (by decide) (fun c1 => ?_) (fun c1 => ?_)
  · have h := h.1 c1
    refine v_iconst (pc := 71) dX12_readPart_71 (by decide) ?_
    refine v_goto (pc := 72) (tgt := 76) dX12_readPart_72 (by decide) ?_
    refine v_iload_n (pc := 76) dX12_readPart_76 2 rfl ?_
    refine v_iconst (pc := 77) dX12_readPart_77 (by decide) ?_
    refine v_icmpne (pc := 78) (tgt := 85) dX12_readPart_78 (by decide) (fun c1 => ?_) (fun c1 => ?_)
    · have h := h.1 c1
      refine v_iload_n (pc := 85) dX12_readPart_85 2 rfl ?_
      refine v_iload_n (pc := 86) dX12_readPart_86 0 rfl ?_
      refine v_ifeq (pc := 87) (tgt := 98) dX12_readPart_87 (by decide) (fun c1 => ?_) (fun c1 => absurd c1 (by decide))
      refine v_iconst (pc := 98) dX12_readPart_98 (by decide) ?_
      refine m_invV (pc := 99) (mi' := mX12_leaf) (rest := []) [aI 1, aI x1, aI 0] dX12_readPart_99 at603 (by decide) rfl msX12_leaf mvX12_leaf lkX12_329 rfl (Nat.le_of_ble_eq_true rfl) (fun hn => CV_mono (h (aaI hn 2 rfl)) (fun m1 h => ?_))
      refine v_aload_n (pc := 102) dX12_readPart_102 1 rfl ?_
      refine m_getf (pc := 103) (t := 0) (v := (m1 603 20)) dX12_readPart_103 flX12_317 rfl at603 rfl ?_
      refine v_ifeq (pc := 106) (tgt := 153) dX12_readPart_106 (by decide) (fun c1 => ?_) (fun c1 => ?_)
      · have h := h.1 c1
        exact VG_sub (al' := []) [] rfl h
      · have h := h.2 c1
        refine v_iload_n (pc := 109) dX12_readPart_109 2 rfl ?_
        refine v_iconst (pc := 110) dX12_readPart_110 (by decide) ?_
        refine v_icmplt (pc := 111) (tgt := 153) dX12_readPart_111 (by decide) (fun c1 => ?_) (fun c1 => ?_)
        · have h := h.1 c1
          exact VG_sub (al' := []) [] rfl h
        · have h := h.2 c1
          refine v_aload_n (pc := 114) dX12_readPart_114 1 rfl ?_
          refine m_getf (pc := 115) (t := 0) (v := (m1 603 19)) dX12_readPart_115 flX12_241 rfl at603 rfl ?_
          refine v_ifne (pc := 118) (tgt := 153) dX12_readPart_118 (by decide) (fun c1 => ?_) (fun c1 => ?_)
          · have h := h.1 c1
            exact VG_sub (al' := []) [] rfl h
          · have h := h.2 c1
            refine v_aload_n (pc := 121) dX12_readPart_121 1 rfl ?_
            refine m_getf (pc := 122) (t := 0) (v := (m1 603 23)) dX12_readPart_122 flX12_278 rfl at603 rfl ?_
            refine v_iconst (pc := 125) dX12_readPart_125 (by decide) ?_
            obtain ⟨o2, h⟩ := h
            refine m_isub (pc := 126) dX12_readPart_126 o2 ?_
            refine v_istore_n (pc := 127) (al2 := [(3, aI ((m1 603 23) - 1)), (2, aI 0), (0, aR 603), (1, aI x1)]) dX12_readPart_127 (by decide) rfl ?_
            refine v_aload_n (pc := 128) dX12_readPart_128 2 rfl ?_
            refine m_getfin (pc := 129) (v := 615) hE dX12_readPart_129 flX12_48 rfl at603 rfl ?_
            refine v_iload_n (pc := 132) dX12_readPart_132 0 rfl ?_
            refine v_aload_n (pc := 133) dX12_readPart_133 2 rfl ?_
            refine v_lconst0 (pc := 134) dX12_readPart_134 ?_
            refine v_iload_n (pc := 135) dX12_readPart_135 3 rfl ?_
            refine v_iconst (pc := 136) dX12_readPart_136 (by decide) ?_
            refine v_icmpne (pc := 137) (tgt := 146) dX12_readPart_137 (by decide) (fun c1 => ?_) (fun c1 => ?_)
            · have h := h.1 c1
              refine v_ldc2 (pc := 146) (n := 31) dX12_readPart_146 cnX12_186 (by decide) ?_
              refine m_invI (pc := 149) (mi' := mX12_number) (rest := [aI ((m1 603 23) - 1), aR 615]) [aL 0, aL 31] dX12_readPart_149 at603 (by decide) rfl msX12_number mvX12_number lkX12_333 rfl (Nat.le_of_ble_eq_true rfl) (fun hn => CI_mono (h) (fun r4 m3 h => ?_))
              obtain ⟨o5, h⟩ := h
              refine v_iast (pc := 152) dX12_readPart_152 at615 o5.1 o5.2 ?_
              exact VG_sub (al' := []) [] rfl h
            · have h := h.2 c1
              refine v_ldc2 (pc := 140) (n := 9) dX12_readPart_140 cnX12_227 (by decide) ?_
              refine v_goto (pc := 143) (tgt := 149) dX12_readPart_143 (by decide) ?_
              refine m_invI (pc := 149) (mi' := mX12_number) (rest := [aI ((m1 603 23) - 1), aR 615]) [aL 0, aL 9] dX12_readPart_149 at603 (by decide) rfl msX12_number mvX12_number lkX12_333 rfl (Nat.le_of_ble_eq_true rfl) (fun hn => CI_mono (h) (fun r7 m6 h => ?_))
              obtain ⟨o8, h⟩ := h
              refine v_iast (pc := 152) dX12_readPart_152 at615 o8.1 o8.2 ?_
              exact VG_sub (al' := []) [] rfl h
    · have h := h.2 c1
      refine v_iconst (pc := 81) dX12_readPart_81 (by decide) ?_
      refine v_goto (pc := 82) (tgt := 86) dX12_readPart_82 (by decide) ?_
      refine v_iload_n (pc := 86) dX12_readPart_86 0 rfl ?_
      refine v_ifeq (pc := 87) (tgt := 98) dX12_readPart_87 (by decide) (fun c1 => ?_) (fun c1 => absurd c1 (by decide))
      refine v_iconst (pc := 98) dX12_readPart_98 (by decide) ?_
      refine m_invV (pc := 99) (mi' := mX12_leaf) (rest := []) [aI 1, aI 0, aI 0] dX12_readPart_99 at603 (by decide) rfl msX12_leaf mvX12_leaf lkX12_329 rfl (Nat.le_of_ble_eq_true rfl) (fun hn => CV_mono (h) (fun m9 h => ?_))
      refine v_aload_n (pc := 102) dX12_readPart_102 1 rfl ?_
      refine m_getf (pc := 103) (t := 0) (v := (m9 603 20)) dX12_readPart_103 flX12_317 rfl at603 rfl ?_
      refine v_ifeq (pc := 106) (tgt := 153) dX12_readPart_106 (by decide) (fun c1 => ?_) (fun c1 => ?_)
      · have h := h.1 c1
        exact VG_sub (al' := []) [] rfl h
      · have h := h.2 c1
        refine v_iload_n (pc := 109) dX12_readPart_109 2 rfl ?_
        refine v_iconst (pc := 110) dX12_readPart_110 (by decide) ?_
        refine v_icmplt (pc := 111) (tgt := 153) dX12_readPart_111 (by decide) (fun c1 => ?_) (fun c1 => ?_)
        · have h := h.1 c1
          exact VG_sub (al' := []) [] rfl h
        · have h := h.2 c1
          refine v_aload_n (pc := 114) dX12_readPart_114 1 rfl ?_
          refine m_getf (pc := 115) (t := 0) (v := (m9 603 19)) dX12_readPart_115 flX12_241 rfl at603 rfl ?_
          refine v_ifne (pc := 118) (tgt := 153) dX12_readPart_118 (by decide) (fun c1 => ?_) (fun c1 => ?_)
          · have h := h.1 c1
            exact VG_sub (al' := []) [] rfl h
          · have h := h.2 c1
            refine v_aload_n (pc := 121) dX12_readPart_121 1 rfl ?_
            refine m_getf (pc := 122) (t := 0) (v := (m9 603 23)) dX12_readPart_122 flX12_278 rfl at603 rfl ?_
            refine v_iconst (pc := 125) dX12_readPart_125 (by decide) ?_
            obtain ⟨o10, h⟩ := h
            refine m_isub (pc := 126) dX12_readPart_126 o10 ?_
            refine v_istore_n (pc := 127) (al2 := [(3, aI ((m9 603 23) - 1)), (2, aI 0), (0, aR 603), (1, aI x1)]) dX12_readPart_127 (by decide) rfl ?_
            refine v_aload_n (pc := 128) dX12_readPart_128 2 rfl ?_
            refine m_getfin (pc := 129) (v := 615) hE dX12_readPart_129 flX12_48 rfl at603 rfl ?_
            refine v_iload_n (pc := 132) dX12_readPart_132 0 rfl ?_
            refine v_aload_n (pc := 133) dX12_readPart_133 2 rfl ?_
            refine v_lconst0 (pc := 134) dX12_readPart_134 ?_
            refine v_iload_n (pc := 135) dX12_readPart_135 3 rfl ?_
            refine v_iconst (pc := 136) dX12_readPart_136 (by decide) ?_
            refine v_icmpne (pc := 137) (tgt := 146) dX12_readPart_137 (by decide) (fun c1 => ?_) (fun c1 => ?_)
            · have h := h.1 c1
              refine v_ldc2 (pc := 146) (n := 31) dX12_readPart_146 cnX12_186 (by decide) ?_
              refine m_invI (pc := 149) (mi' := mX12_number) (rest := [aI ((m9 603 23) - 1), aR 615]) [aL 0, aL 31] dX12_readPart_149 at603 (by decide) rfl msX12_number mvX12_number lkX12_333 rfl (Nat.le_of_ble_eq_true rfl) (fun hn => CI_mono (h) (fun r12 m11 h => ?_))
              obtain ⟨o13, h⟩ := h
              refine v_iast (pc := 152) dX12_readPart_152 at615 o13.1 o13.2 ?_
              exact VG_sub (al' := []) [] rfl h
            · have h := h.2 c1
              refine v_ldc2 (pc := 140) (n := 9) dX12_readPart_140 cnX12_227 (by decide) ?_
              refine v_goto (pc := 143) (tgt := 149) dX12_readPart_143 (by decide) ?_
              refine m_invI (pc := 149) (mi' := mX12_number) (rest := [aI ((m9 603 23) - 1), aR 615]) [aL 0, aL 9] dX12_readPart_149 at603 (by decide) rfl msX12_number mvX12_number lkX12_333 rfl (Nat.le_of_ble_eq_true rfl) (fun hn => CI_mono (h) (fun r15 m14 h => ?_))
              obtain ⟨o16, h⟩ := h
              refine v_iast (pc := 152) dX12_readPart_152 at615 o16.1 o16.2 ?_
              exact VG_sub (al' := []) [] rfl h
  · have h := h.2 c1
    refine v_iload_n (pc := 67) dX12_readPart_67 0 rfl ?_
    refine v_ifeq (pc := 68) (tgt := 75) dX12_readPart_68 (by decide) (fun c1 => ?_) (fun c1 => absurd c1 (by decide))
    refine v_iconst (pc := 75) dX12_readPart_75 (by decide) ?_
    refine v_iload_n (pc := 76) dX12_readPart_76 2 rfl ?_
    refine v_iconst (pc := 77) dX12_readPart_77 (by decide) ?_
    refine v_icmpne (pc := 78) (tgt := 85) dX12_readPart_78 (by decide) (fun c1 => ?_) (fun c1 => ?_)
    · have h := h.1 c1
      refine v_iload_n (pc := 85) dX12_readPart_85 2 rfl ?_
      refine v_iload_n (pc := 86) dX12_readPart_86 0 rfl ?_
      refine v_ifeq (pc := 87) (tgt := 98) dX12_readPart_87 (by decide) (fun c1 => ?_) (fun c1 => absurd c1 (by decide))
      refine v_iconst (pc := 98) dX12_readPart_98 (by decide) ?_
      refine m_invV (pc := 99) (mi' := mX12_leaf) (rest := []) [aI 0, aI x1, aI 0] dX12_readPart_99 at603 (by decide) rfl msX12_leaf mvX12_leaf lkX12_329 rfl (Nat.le_of_ble_eq_true rfl) (fun hn => CV_mono (h (aaI hn 2 rfl)) (fun m17 h => ?_))
      refine v_aload_n (pc := 102) dX12_readPart_102 1 rfl ?_
      refine m_getf (pc := 103) (t := 0) (v := (m17 603 20)) dX12_readPart_103 flX12_317 rfl at603 rfl ?_
      refine v_ifeq (pc := 106) (tgt := 153) dX12_readPart_106 (by decide) (fun c1 => ?_) (fun c1 => ?_)
      · have h := h.1 c1
        exact VG_sub (al' := []) [] rfl h
      · have h := h.2 c1
        refine v_iload_n (pc := 109) dX12_readPart_109 2 rfl ?_
        refine v_iconst (pc := 110) dX12_readPart_110 (by decide) ?_
        refine v_icmplt (pc := 111) (tgt := 153) dX12_readPart_111 (by decide) (fun c1 => ?_) (fun c1 => ?_)
        · have h := h.1 c1
          exact VG_sub (al' := []) [] rfl h
        · have h := h.2 c1
          refine v_aload_n (pc := 114) dX12_readPart_114 1 rfl ?_
          refine m_getf (pc := 115) (t := 0) (v := (m17 603 19)) dX12_readPart_115 flX12_241 rfl at603 rfl ?_
          refine v_ifne (pc := 118) (tgt := 153) dX12_readPart_118 (by decide) (fun c1 => ?_) (fun c1 => ?_)
          · have h := h.1 c1
            exact VG_sub (al' := []) [] rfl h
          · have h := h.2 c1
            refine v_aload_n (pc := 121) dX12_readPart_121 1 rfl ?_
            refine m_getf (pc := 122) (t := 0) (v := (m17 603 23)) dX12_readPart_122 flX12_278 rfl at603 rfl ?_
            refine v_iconst (pc := 125) dX12_readPart_125 (by decide) ?_
            obtain ⟨o18, h⟩ := h
            refine m_isub (pc := 126) dX12_readPart_126 o18 ?_
            refine v_istore_n (pc := 127) (al2 := [(3, aI ((m17 603 23) - 1)), (2, aI 0), (0, aR 603), (1, aI x1)]) dX12_readPart_127 (by decide) rfl ?_
            refine v_aload_n (pc := 128) dX12_readPart_128 2 rfl ?_
            refine m_getfin (pc := 129) (v := 615) hE dX12_readPart_129 flX12_48 rfl at603 rfl ?_
            refine v_iload_n (pc := 132) dX12_readPart_132 0 rfl ?_
            refine v_aload_n (pc := 133) dX12_readPart_133 2 rfl ?_
            refine v_lconst0 (pc := 134) dX12_readPart_134 ?_
            refine v_iload_n (pc := 135) dX12_readPart_135 3 rfl ?_
            refine v_iconst (pc := 136) dX12_readPart_136 (by decide) ?_
            refine v_icmpne (pc := 137) (tgt := 146) dX12_readPart_137 (by decide) (fun c1 => ?_) (fun c1 => ?_)
            · have h := h.1 c1
              refine v_ldc2 (pc := 146) (n := 31) dX12_readPart_146 cnX12_186 (by decide) ?_
              refine m_invI (pc := 149) (mi' := mX12_number) (rest := [aI ((m17 603 23) - 1), aR 615]) [aL 0, aL 31] dX12_readPart_149 at603 (by decide) rfl msX12_number mvX12_number lkX12_333 rfl (Nat.le_of_ble_eq_true rfl) (fun hn => CI_mono (h) (fun r20 m19 h => ?_))
              obtain ⟨o21, h⟩ := h
              refine v_iast (pc := 152) dX12_readPart_152 at615 o21.1 o21.2 ?_
              exact VG_sub (al' := []) [] rfl h
            · have h := h.2 c1
              refine v_ldc2 (pc := 140) (n := 9) dX12_readPart_140 cnX12_227 (by decide) ?_
              refine v_goto (pc := 143) (tgt := 149) dX12_readPart_143 (by decide) ?_
              refine m_invI (pc := 149) (mi' := mX12_number) (rest := [aI ((m17 603 23) - 1), aR 615]) [aL 0, aL 9] dX12_readPart_149 at603 (by decide) rfl msX12_number mvX12_number lkX12_333 rfl (Nat.le_of_ble_eq_true rfl) (fun hn => CI_mono (h) (fun r23 m22 h => ?_))
              obtain ⟨o24, h⟩ := h
              refine v_iast (pc := 152) dX12_readPart_152 at615 o24.1 o24.2 ?_
              exact VG_sub (al' := []) [] rfl h
    · have h := h.2 c1
      refine v_iconst (pc := 81) dX12_readPart_81 (by decide) ?_
      refine v_goto (pc := 82) (tgt := 86) dX12_readPart_82 (by decide) ?_
      refine v_iload_n (pc := 86) dX12_readPart_86 0 rfl ?_
      refine v_ifeq (pc := 87) (tgt := 98) dX12_readPart_87 (by decide) (fun c1 => ?_) (fun c1 => absurd c1 (by decide))
      refine v_iconst (pc := 98) dX12_readPart_98 (by decide) ?_
      refine m_invV (pc := 99) (mi' := mX12_leaf) (rest := []) [aI 0, aI 0, aI 0] dX12_readPart_99 at603 (by decide) rfl msX12_leaf mvX12_leaf lkX12_329 rfl (Nat.le_of_ble_eq_true rfl) (fun hn => CV_mono (h) (fun m25 h => ?_))
      refine v_aload_n (pc := 102) dX12_readPart_102 1 rfl ?_
      refine m_getf (pc := 103) (t := 0) (v := (m25 603 20)) dX12_readPart_103 flX12_317 rfl at603 rfl ?_
      refine v_ifeq (pc := 106) (tgt := 153) dX12_readPart_106 (by decide) (fun c1 => ?_) (fun c1 => ?_)
      · have h := h.1 c1
        exact VG_sub (al' := []) [] rfl h
      · have h := h.2 c1
        refine v_iload_n (pc := 109) dX12_readPart_109 2 rfl ?_
        refine v_iconst (pc := 110) dX12_readPart_110 (by decide) ?_
        refine v_icmplt (pc := 111) (tgt := 153) dX12_readPart_111 (by decide) (fun c1 => ?_) (fun c1 => ?_)
        · have h := h.1 c1
          exact VG_sub (al' := []) [] rfl h
        · have h := h.2 c1
          refine v_aload_n (pc := 114) dX12_readPart_114 1 rfl ?_
          refine m_getf (pc := 115) (t := 0) (v := (m25 603 19)) dX12_readPart_115 flX12_241 rfl at603 rfl ?_
          refine v_ifne (pc := 118) (tgt := 153) dX12_readPart_118 (by decide) (fun c1 => ?_) (fun c1 => ?_)
          · have h := h.1 c1
            exact VG_sub (al' := []) [] rfl h
          · have h := h.2 c1
            refine v_aload_n (pc := 121) dX12_readPart_121 1 rfl ?_
            refine m_getf (pc := 122) (t := 0) (v := (m25 603 23)) dX12_readPart_122 flX12_278 rfl at603 rfl ?_
            refine v_iconst (pc := 125) dX12_readPart_125 (by decide) ?_
            obtain ⟨o26, h⟩ := h
            refine m_isub (pc := 126) dX12_readPart_126 o26 ?_
            refine v_istore_n (pc := 127) (al2 := [(3, aI ((m25 603 23) - 1)), (2, aI 0), (0, aR 603), (1, aI x1)]) dX12_readPart_127 (by decide) rfl ?_
            refine v_aload_n (pc := 128) dX12_readPart_128 2 rfl ?_
            refine m_getfin (pc := 129) (v := 615) hE dX12_readPart_129 flX12_48 rfl at603 rfl ?_
            refine v_iload_n (pc := 132) dX12_readPart_132 0 rfl ?_
            refine v_aload_n (pc := 133) dX12_readPart_133 2 rfl ?_
            refine v_lconst0 (pc := 134) dX12_readPart_134 ?_
            refine v_iload_n (pc := 135) dX12_readPart_135 3 rfl ?_
            refine v_iconst (pc := 136) dX12_readPart_136 (by decide) ?_
            refine v_icmpne (pc := 137) (tgt := 146) dX12_readPart_137 (by decide) (fun c1 => ?_) (fun c1 => ?_)
            · have h := h.1 c1
              refine v_ldc2 (pc := 146) (n := 31) dX12_readPart_146 cnX12_186 (by decide) ?_
              refine m_invI (pc := 149) (mi' := mX12_number) (rest := [aI ((m25 603 23) - 1), aR 615]) [aL 0, aL 31] dX12_readPart_149 at603 (by decide) rfl msX12_number mvX12_number lkX12_333 rfl (Nat.le_of_ble_eq_true rfl) (fun hn => CI_mono (h) (fun r28 m27 h => ?_))
              obtain ⟨o29, h⟩ := h
              refine v_iast (pc := 152) dX12_readPart_152 at615 o29.1 o29.2 ?_
              exact VG_sub (al' := []) [] rfl h
            · have h := h.2 c1
              refine v_ldc2 (pc := 140) (n := 9) dX12_readPart_140 cnX12_227 (by decide) ?_
              refine v_goto (pc := 143) (tgt := 149) dX12_readPart_143 (by decide) ?_
              refine m_invI (pc := 149) (mi' := mX12_number) (rest := [aI ((m25 603 23) - 1), aR 615]) [aL 0, aL 9] dX12_readPart_149 at603 (by decide) rfl msX12_number mvX12_number lkX12_333 rfl (Nat.le_of_ble_eq_true rfl) (fun hn => CI_mono (h) (fun r31 m30 h => ?_))
              obtain ⟨o32, h⟩ := h
              refine v_iast (pc := 152) dX12_readPart_152 at615 o32.1 o32.2 ?_
              exact VG_sub (al' := []) [] rfl h
set_option maxRecDepth 20000 in
theorem rX12_readPart_153 {E : EN} (hE : Ep E) {k : Nat} {mem : Mm} {Q : Int → Mm → Prop}
    (h : Q 3 mem) :
    VM E mX12_readPart (k + 1) mem 153 [] [] (retI Q) := by
  refine v_iconst (pc := 153) dX12_readPart_153 (by decide) ?_
  exact m_retI (pc := 154) dX12_readPart_154 rfl h

theorem dX12_readPlain_0 : decode cX12_readPlain 0 = .ok (.aload_n 0, 1) := by decide +kernel
theorem dX12_readPlain_1 : decode cX12_readPlain 1 = .ok (.ldc2_w 337, 3) := by decide +kernel
theorem dX12_readPlain_4 : decode cX12_readPlain 4 = .ok (.invokevirtual 298, 3) := by decide +kernel
theorem dX12_readPlain_7 : decode cX12_readPlain 7 = .ok (.ifCond .eq 16, 3) := by decide +kernel
theorem dX12_readPlain_10 : decode cX12_readPlain 10 = .ok (.aload_n 0, 1) := by decide +kernel
theorem dX12_readPlain_11 : decode cX12_readPlain 11 = .ok (.bipush 28, 2) := by decide +kernel
theorem dX12_readPlain_13 : decode cX12_readPlain 13 = .ok (.iconst 0, 1) := by decide +kernel
theorem dX12_readPlain_14 : decode cX12_readPlain 14 = .ok (.invokevirtual 305, 3) := by decide +kernel
theorem dX12_readPlain_17 : decode cX12_readPlain 17 = .ok (.aload_n 0, 1) := by decide +kernel
theorem dX12_readPlain_18 : decode cX12_readPlain 18 = .ok (.invokevirtual 245, 3) := by decide +kernel
theorem dX12_readPlain_21 : decode cX12_readPlain 21 = .ok (.iconst 0, 1) := by decide +kernel
theorem dX12_readPlain_22 : decode cX12_readPlain 22 = .ok (.ireturn, 1) := by decide +kernel
theorem dX12_readPlain_23 : decode cX12_readPlain 23 = .ok (.aload_n 0, 1) := by decide +kernel
theorem dX12_readPlain_24 : decode cX12_readPlain 24 = .ok (.bipush 40, 2) := by decide +kernel
theorem dX12_readPlain_26 : decode cX12_readPlain 26 = .ok (.invokevirtual 311, 3) := by decide +kernel
theorem dX12_readPlain_29 : decode cX12_readPlain 29 = .ok (.ifCond .eq 11, 3) := by decide +kernel
theorem dX12_readPlain_32 : decode cX12_readPlain 32 = .ok (.aload_n 0, 1) := by decide +kernel
theorem dX12_readPlain_33 : decode cX12_readPlain 33 = .ok (.bipush 31, 2) := by decide +kernel
theorem dX12_readPlain_35 : decode cX12_readPlain 35 = .ok (.invokevirtual 314, 3) := by decide +kernel
theorem dX12_readPlain_38 : decode cX12_readPlain 38 = .ok (.iconst 0, 1) := by decide +kernel
theorem dX12_readPlain_39 : decode cX12_readPlain 39 = .ok (.ireturn, 1) := by decide +kernel
theorem dX12_readPlain_40 : decode cX12_readPlain 40 = .ok (.aload_n 0, 1) := by decide +kernel
theorem dX12_readPlain_41 : decode cX12_readPlain 41 = .ok (.invokevirtual 339, 3) := by decide +kernel
theorem dX12_readPlain_44 : decode cX12_readPlain 44 = .ok (.ireturn, 1) := by decide +kernel
set_option maxRecDepth 20000 in
theorem rX12_readPlain_0 {E : EN} (hE : Ep E) {k : Nat} {mem : Mm} {Q : Int → Mm → Prop}
    (h : (CI E mX12_isWord k mem [aR 603, aL 14836] (fun r2 m1 => ((r2 = 0 → (CI E mX12_isSign k m1 [aR 603, aI 40] (fun r4 m3 => ((r4 = 0 → (CI E mX12_readPart k m3 [aR 603] (fun r6 m5 => Q r6 m5))) ∧ (¬ r4 = 0 → (CV E mX12_openBracket k m3 [aR 603, aI 31] (fun m7 => Q 0 m7))))))) ∧ (¬ r2 = 0 → (CV E mX12_push k m1 [aR 603, aI 28, aI 0] (fun m8 => (CV E mX12_next k m8 [aR 603] (fun m9 => Q 0 m9))))))))) :
    VM E mX12_readPlain (k + 1) mem 0 [(0, aR 603)] [] (retI Q) := by
  refine v_aload_n (pc := 0) dX12_readPlain_0 0 rfl ?_
  refine v_ldc2 (pc := 1) (n := 14836) dX12_readPlain_1 cnX12_337 (by decide) ?_
  refine m_invI (pc := 4) (mi' := mX12_isWord) (rest := []) [aL 14836] dX12_readPlain_4 at603 (by decide) rfl msX12_isWord mvX12_isWord lkX12_298 rfl (Nat.le_of_ble_eq_true rfl) (fun hn => CI_mono (h) (fun r2 m1 h => ?_))
  refine v_ifeq (pc := 7) (tgt := 23) dX12_readPlain_7 (by decide) (fun c1 => ?_) (fun c1 => ?_)
  · have h := h.1 c1
    refine v_aload_n (pc := 23) dX12_readPlain_23 0 rfl ?_
    refine v_bipush (pc := 24) dX12_readPlain_24 (by decide) ?_
    refine m_invI (pc := 26) (mi' := mX12_isSign) (rest := []) [aI 40] dX12_readPlain_26 at603 (by decide) rfl msX12_isSign mvX12_isSign lkX12_311 rfl (Nat.le_of_ble_eq_true rfl) (fun hn => CI_mono (h) (fun r4 m3 h => ?_))
    refine v_ifeq (pc := 29) (tgt := 40) dX12_readPlain_29 (by decide) (fun c1 => ?_) (fun c1 => ?_)
    · have h := h.1 c1
      refine v_aload_n (pc := 40) dX12_readPlain_40 0 rfl ?_
      refine m_invI (pc := 41) (mi' := mX12_readPart) (rest := []) [] dX12_readPlain_41 at603 (by decide) rfl msX12_readPart mvX12_readPart lkX12_339 rfl (Nat.le_of_ble_eq_true rfl) (fun hn => CI_mono (h) (fun r6 m5 h => ?_))
      exact m_retI (pc := 44) dX12_readPlain_44 rfl h
    · have h := h.2 c1
      refine v_aload_n (pc := 32) dX12_readPlain_32 0 rfl ?_
      refine v_bipush (pc := 33) dX12_readPlain_33 (by decide) ?_
      refine m_invV (pc := 35) (mi' := mX12_openBracket) (rest := []) [aI 31] dX12_readPlain_35 at603 (by decide) rfl msX12_openBracket mvX12_openBracket lkX12_314 rfl (Nat.le_of_ble_eq_true rfl) (fun hn => CV_mono (h) (fun m7 h => ?_))
      refine v_iconst (pc := 38) dX12_readPlain_38 (by decide) ?_
      exact m_retI (pc := 39) dX12_readPlain_39 rfl h
  · have h := h.2 c1
    refine v_aload_n (pc := 10) dX12_readPlain_10 0 rfl ?_
    refine v_bipush (pc := 11) dX12_readPlain_11 (by decide) ?_
    refine v_iconst (pc := 13) dX12_readPlain_13 (by decide) ?_
    refine m_invV (pc := 14) (mi' := mX12_push) (rest := []) [aI 28, aI 0] dX12_readPlain_14 at603 (by decide) rfl msX12_push mvX12_push lkX12_305 rfl (Nat.le_of_ble_eq_true rfl) (fun hn => CV_mono (h) (fun m8 h => ?_))
    refine v_aload_n (pc := 17) dX12_readPlain_17 0 rfl ?_
    refine m_invV (pc := 18) (mi' := mX12_next) (rest := []) [] dX12_readPlain_18 at603 (by decide) rfl msX12_next mvX12_next lkX12_245 rfl (Nat.le_of_ble_eq_true rfl) (fun hn => CV_mono (h) (fun m9 h => ?_))
    refine v_iconst (pc := 21) dX12_readPlain_21 (by decide) ?_
    exact m_retI (pc := 22) dX12_readPlain_22 rfl h
theorem eX12_readPlain {E : EN} {k : Nat} {mem : Mm} {Q : Int → Mm → Prop}  (h : VM E mX12_readPlain (k + 1) mem 0 [(0, aR 603)] [] (retI Q)) : CI E mX12_readPlain (k + 1) mem [aR 603] Q := CI_of rfl (Nat.le_of_ble_eq_true rfl) h (aNs_c (aNr_R _) (fun _ q => nomatch q))

theorem dX12_behindSum_0 : decode cX12_behindSum 0 = .ok (.aload_n 0, 1) := by decide +kernel
theorem dX12_behindSum_1 : decode cX12_behindSum 1 = .ok (.bipush 43, 2) := by decide +kernel
theorem dX12_behindSum_3 : decode cX12_behindSum 3 = .ok (.invokevirtual 311, 3) := by decide +kernel
theorem dX12_behindSum_6 : decode cX12_behindSum 6 = .ok (.ifCond .eq 8, 3) := by decide +kernel
theorem dX12_behindSum_9 : decode cX12_behindSum 9 = .ok (.bipush 20, 2) := by decide +kernel
theorem dX12_behindSum_11 : decode cX12_behindSum 11 = .ok (.goto 60, 3) := by decide +kernel
theorem dX12_behindSum_14 : decode cX12_behindSum 14 = .ok (.aload_n 0, 1) := by decide +kernel
theorem dX12_behindSum_15 : decode cX12_behindSum 15 = .ok (.bipush 45, 2) := by decide +kernel
theorem dX12_behindSum_17 : decode cX12_behindSum 17 = .ok (.invokevirtual 311, 3) := by decide +kernel
theorem dX12_behindSum_20 : decode cX12_behindSum 20 = .ok (.ifCond .eq 8, 3) := by decide +kernel
theorem dX12_behindSum_23 : decode cX12_behindSum 23 = .ok (.bipush 21, 2) := by decide +kernel
theorem dX12_behindSum_25 : decode cX12_behindSum 25 = .ok (.goto 46, 3) := by decide +kernel
theorem dX12_behindSum_28 : decode cX12_behindSum 28 = .ok (.aload_n 0, 1) := by decide +kernel
theorem dX12_behindSum_29 : decode cX12_behindSum 29 = .ok (.bipush 42, 2) := by decide +kernel
theorem dX12_behindSum_31 : decode cX12_behindSum 31 = .ok (.invokevirtual 311, 3) := by decide +kernel
theorem dX12_behindSum_34 : decode cX12_behindSum 34 = .ok (.ifCond .eq 8, 3) := by decide +kernel
theorem dX12_behindSum_37 : decode cX12_behindSum 37 = .ok (.bipush 22, 2) := by decide +kernel
theorem dX12_behindSum_39 : decode cX12_behindSum 39 = .ok (.goto 32, 3) := by decide +kernel
theorem dX12_behindSum_42 : decode cX12_behindSum 42 = .ok (.aload_n 0, 1) := by decide +kernel
theorem dX12_behindSum_43 : decode cX12_behindSum 43 = .ok (.bipush 47, 2) := by decide +kernel
theorem dX12_behindSum_45 : decode cX12_behindSum 45 = .ok (.invokevirtual 311, 3) := by decide +kernel
theorem dX12_behindSum_48 : decode cX12_behindSum 48 = .ok (.ifCond .eq 8, 3) := by decide +kernel
theorem dX12_behindSum_51 : decode cX12_behindSum 51 = .ok (.bipush 23, 2) := by decide +kernel
theorem dX12_behindSum_53 : decode cX12_behindSum 53 = .ok (.goto 18, 3) := by decide +kernel
theorem dX12_behindSum_56 : decode cX12_behindSum 56 = .ok (.aload_n 0, 1) := by decide +kernel
theorem dX12_behindSum_57 : decode cX12_behindSum 57 = .ok (.bipush 37, 2) := by decide +kernel
theorem dX12_behindSum_59 : decode cX12_behindSum 59 = .ok (.invokevirtual 311, 3) := by decide +kernel
theorem dX12_behindSum_62 : decode cX12_behindSum 62 = .ok (.ifCond .eq 8, 3) := by decide +kernel
theorem dX12_behindSum_65 : decode cX12_behindSum 65 = .ok (.bipush 24, 2) := by decide +kernel
theorem dX12_behindSum_67 : decode cX12_behindSum 67 = .ok (.goto 4, 3) := by decide +kernel
theorem dX12_behindSum_70 : decode cX12_behindSum 70 = .ok (.iconst (-1), 1) := by decide +kernel
theorem dX12_behindSum_71 : decode cX12_behindSum 71 = .ok (.istore_n 2, 1) := by decide +kernel
theorem dX12_behindSum_72 : decode cX12_behindSum 72 = .ok (.iload_n 2, 1) := by decide +kernel
theorem dX12_behindSum_73 : decode cX12_behindSum 73 = .ok (.iconst (-1), 1) := by decide +kernel
theorem dX12_behindSum_74 : decode cX12_behindSum 74 = .ok (.if_icmp .eq 23, 3) := by decide +kernel
theorem dX12_behindSum_77 : decode cX12_behindSum 77 = .ok (.aload_n 0, 1) := by decide +kernel
theorem dX12_behindSum_78 : decode cX12_behindSum 78 = .ok (.iload_n 2, 1) := by decide +kernel
theorem dX12_behindSum_79 : decode cX12_behindSum 79 = .ok (.invokestatic 284, 3) := by decide +kernel
theorem dX12_behindSum_82 : decode cX12_behindSum 82 = .ok (.invokevirtual 342, 3) := by decide +kernel
theorem dX12_behindSum_85 : decode cX12_behindSum 85 = .ok (.aload_n 0, 1) := by decide +kernel
theorem dX12_behindSum_86 : decode cX12_behindSum 86 = .ok (.iload_n 2, 1) := by decide +kernel
theorem dX12_behindSum_87 : decode cX12_behindSum 87 = .ok (.iconst 0, 1) := by decide +kernel
theorem dX12_behindSum_88 : decode cX12_behindSum 88 = .ok (.invokevirtual 305, 3) := by decide +kernel
theorem dX12_behindSum_91 : decode cX12_behindSum 91 = .ok (.aload_n 0, 1) := by decide +kernel
theorem dX12_behindSum_92 : decode cX12_behindSum 92 = .ok (.invokevirtual 245, 3) := by decide +kernel
theorem dX12_behindSum_95 : decode cX12_behindSum 95 = .ok (.iconst 1, 1) := by decide +kernel
theorem dX12_behindSum_96 : decode cX12_behindSum 96 = .ok (.ireturn, 1) := by decide +kernel
theorem dX12_behindSum_97 : decode cX12_behindSum 97 = .ok (.aload_n 0, 1) := by decide +kernel
theorem dX12_behindSum_98 : decode cX12_behindSum 98 = .ok (.invokevirtual 345, 3) := by decide +kernel
theorem dX12_behindSum_101 : decode cX12_behindSum 101 = .ok (.istore_n 3, 1) := by decide +kernel
theorem dX12_behindSum_102 : decode cX12_behindSum 102 = .ok (.iload_n 3, 1) := by decide +kernel
theorem dX12_behindSum_103 : decode cX12_behindSum 103 = .ok (.bipush 32, 2) := by decide +kernel
theorem dX12_behindSum_105 : decode cX12_behindSum 105 = .ok (.if_icmp .ne 47, 3) := by decide +kernel
theorem dX12_behindSum_108 : decode cX12_behindSum 108 = .ok (.aload_n 0, 1) := by decide +kernel
theorem dX12_behindSum_109 : decode cX12_behindSum 109 = .ok (.aload_n 0, 1) := by decide +kernel
theorem dX12_behindSum_110 : decode cX12_behindSum 110 = .ok (.bipush 93, 2) := by decide +kernel
theorem dX12_behindSum_112 : decode cX12_behindSum 112 = .ok (.invokevirtual 311, 3) := by decide +kernel
theorem dX12_behindSum_115 : decode cX12_behindSum 115 = .ok (.invokevirtual 274, 3) := by decide +kernel
theorem dX12_behindSum_118 : decode cX12_behindSum 118 = .ok (.aload_n 0, 1) := by decide +kernel
theorem dX12_behindSum_119 : decode cX12_behindSum 119 = .ok (.getfield 241, 3) := by decide +kernel
theorem dX12_behindSum_122 : decode cX12_behindSum 122 = .ok (.ifCond .ne 28, 3) := by decide +kernel
theorem dX12_behindSum_125 : decode cX12_behindSum 125 = .ok (.aload_n 0, 1) := by decide +kernel
theorem dX12_behindSum_126 : decode cX12_behindSum 126 = .ok (.iconst 5, 1) := by decide +kernel
theorem dX12_behindSum_127 : decode cX12_behindSum 127 = .ok (.invokevirtual 342, 3) := by decide +kernel
theorem dX12_behindSum_130 : decode cX12_behindSum 130 = .ok (.aload_n 0, 1) := by decide +kernel
theorem dX12_behindSum_131 : decode cX12_behindSum 131 = .ok (.dup, 1) := by decide +kernel
theorem dX12_behindSum_132 : decode cX12_behindSum 132 = .ok (.getfield 281, 3) := by decide +kernel
theorem dX12_behindSum_135 : decode cX12_behindSum 135 = .ok (.iconst 1, 1) := by decide +kernel
theorem dX12_behindSum_136 : decode cX12_behindSum 136 = .ok (.isub, 1) := by decide +kernel
theorem dX12_behindSum_137 : decode cX12_behindSum 137 = .ok (.putfield 281, 3) := by decide +kernel
theorem dX12_behindSum_140 : decode cX12_behindSum 140 = .ok (.aload_n 0, 1) := by decide +kernel
theorem dX12_behindSum_141 : decode cX12_behindSum 141 = .ok (.dup, 1) := by decide +kernel
theorem dX12_behindSum_142 : decode cX12_behindSum 142 = .ok (.getfield 302, 3) := by decide +kernel
theorem dX12_behindSum_145 : decode cX12_behindSum 145 = .ok (.iconst 1, 1) := by decide +kernel
theorem dX12_behindSum_146 : decode cX12_behindSum 146 = .ok (.isub, 1) := by decide +kernel
theorem dX12_behindSum_147 : decode cX12_behindSum 147 = .ok (.putfield 302, 3) := by decide +kernel
theorem dX12_behindSum_150 : decode cX12_behindSum 150 = .ok (.iconst 3, 1) := by decide +kernel
theorem dX12_behindSum_151 : decode cX12_behindSum 151 = .ok (.ireturn, 1) := by decide +kernel
theorem dX12_behindSum_152 : decode cX12_behindSum 152 = .ok (.iload_n 3, 1) := by decide +kernel
theorem dX12_behindSum_153 : decode cX12_behindSum 153 = .ok (.iconst (-1), 1) := by decide +kernel
theorem dX12_behindSum_154 : decode cX12_behindSum 154 = .ok (.if_icmp .ne 9, 3) := by decide +kernel
theorem dX12_behindSum_157 : decode cX12_behindSum 157 = .ok (.iload_n 1, 1) := by decide +kernel
theorem dX12_behindSum_158 : decode cX12_behindSum 158 = .ok (.ifCond .ne 5, 3) := by decide +kernel
theorem dX12_behindSum_161 : decode cX12_behindSum 161 = .ok (.iconst 4, 1) := by decide +kernel
theorem dX12_behindSum_162 : decode cX12_behindSum 162 = .ok (.ireturn, 1) := by decide +kernel
theorem dX12_behindSum_163 : decode cX12_behindSum 163 = .ok (.aload_n 0, 1) := by decide +kernel
theorem dX12_behindSum_164 : decode cX12_behindSum 164 = .ok (.invokevirtual 348, 3) := by decide +kernel
theorem dX12_behindSum_167 : decode cX12_behindSum 167 = .ok (.ifCond .eq 5, 3) := by decide +kernel
theorem dX12_behindSum_170 : decode cX12_behindSum 170 = .ok (.iconst 2, 1) := by decide +kernel
theorem dX12_behindSum_171 : decode cX12_behindSum 171 = .ok (.ireturn, 1) := by decide +kernel
theorem dX12_behindSum_172 : decode cX12_behindSum 172 = .ok (.aload_n 0, 1) := by decide +kernel
theorem dX12_behindSum_173 : decode cX12_behindSum 173 = .ok (.bipush 60, 2) := by decide +kernel
theorem dX12_behindSum_175 : decode cX12_behindSum 175 = .ok (.invokevirtual 311, 3) := by decide +kernel
theorem dX12_behindSum_178 : decode cX12_behindSum 178 = .ok (.ifCond .eq 8, 3) := by decide +kernel
theorem dX12_behindSum_181 : decode cX12_behindSum 181 = .ok (.bipush 25, 2) := by decide +kernel
theorem dX12_behindSum_183 : decode cX12_behindSum 183 = .ok (.goto 19, 3) := by decide +kernel
theorem dX12_behindSum_186 : decode cX12_behindSum 186 = .ok (.aload_n 0, 1) := by decide +kernel
theorem dX12_behindSum_187 : decode cX12_behindSum 187 = .ok (.bipush 62, 2) := by decide +kernel
theorem dX12_behindSum_189 : decode cX12_behindSum 189 = .ok (.invokevirtual 311, 3) := by decide +kernel
theorem dX12_behindSum_192 : decode cX12_behindSum 192 = .ok (.ifCond .eq 8, 3) := by decide +kernel
theorem dX12_behindSum_195 : decode cX12_behindSum 195 = .ok (.bipush 26, 2) := by decide +kernel
theorem dX12_behindSum_197 : decode cX12_behindSum 197 = .ok (.goto 5, 3) := by decide +kernel
theorem dX12_behindSum_200 : decode cX12_behindSum 200 = .ok (.bipush 27, 2) := by decide +kernel
theorem dX12_behindSum_202 : decode cX12_behindSum 202 = .ok (.istore_n 2, 1) := by decide +kernel
theorem dX12_behindSum_203 : decode cX12_behindSum 203 = .ok (.aload_n 0, 1) := by decide +kernel
theorem dX12_behindSum_204 : decode cX12_behindSum 204 = .ok (.iload_n 2, 1) := by decide +kernel
theorem dX12_behindSum_205 : decode cX12_behindSum 205 = .ok (.bipush 27, 2) := by decide +kernel
theorem dX12_behindSum_207 : decode cX12_behindSum 207 = .ok (.if_icmp .ne 12, 3) := by decide +kernel
theorem dX12_behindSum_210 : decode cX12_behindSum 210 = .ok (.aload_n 0, 1) := by decide +kernel
theorem dX12_behindSum_211 : decode cX12_behindSum 211 = .ok (.bipush 61, 2) := by decide +kernel
theorem dX12_behindSum_213 : decode cX12_behindSum 213 = .ok (.invokevirtual 311, 3) := by decide +kernel
theorem dX12_behindSum_216 : decode cX12_behindSum 216 = .ok (.ifCond .eq 7, 3) := by decide +kernel
theorem dX12_behindSum_219 : decode cX12_behindSum 219 = .ok (.iconst 1, 1) := by decide +kernel
theorem dX12_behindSum_220 : decode cX12_behindSum 220 = .ok (.goto 4, 3) := by decide +kernel
theorem dX12_behindSum_223 : decode cX12_behindSum 223 = .ok (.iconst 0, 1) := by decide +kernel
theorem dX12_behindSum_224 : decode cX12_behindSum 224 = .ok (.invokevirtual 274, 3) := by decide +kernel
theorem dX12_behindSum_227 : decode cX12_behindSum 227 = .ok (.aload_n 0, 1) := by decide +kernel
theorem dX12_behindSum_228 : decode cX12_behindSum 228 = .ok (.getfield 241, 3) := by decide +kernel
theorem dX12_behindSum_231 : decode cX12_behindSum 231 = .ok (.ifCond .ne 14, 3) := by decide +kernel
theorem dX12_behindSum_234 : decode cX12_behindSum 234 = .ok (.aload_n 0, 1) := by decide +kernel
theorem dX12_behindSum_235 : decode cX12_behindSum 235 = .ok (.iconst 5, 1) := by decide +kernel
theorem dX12_behindSum_236 : decode cX12_behindSum 236 = .ok (.invokevirtual 342, 3) := by decide +kernel
theorem dX12_behindSum_239 : decode cX12_behindSum 239 = .ok (.aload_n 0, 1) := by decide +kernel
theorem dX12_behindSum_240 : decode cX12_behindSum 240 = .ok (.iload_n 2, 1) := by decide +kernel
theorem dX12_behindSum_241 : decode cX12_behindSum 241 = .ok (.iconst 0, 1) := by decide +kernel
theorem dX12_behindSum_242 : decode cX12_behindSum 242 = .ok (.invokevirtual 305, 3) := by decide +kernel
theorem dX12_behindSum_245 : decode cX12_behindSum 245 = .ok (.iconst 1, 1) := by decide +kernel
theorem dX12_behindSum_246 : decode cX12_behindSum 246 = .ok (.ireturn, 1) := by decide +kernel
set_option maxRecDepth 20000 in
theorem rX12_behindSum_0 {E : EN} (hE : Ep E) {k : Nat} {mem : Mm} {Q : Int → Mm → Prop} {p0 : Int}
    (h : (CI E mX12_isSign k mem [aR 603, aI 43] (fun r2 m1 => ((r2 = 0 → (CI E mX12_isSign k m1 [aR 603, aI 45] (fun r4 m3 => ((r4 = 0 → (CI E mX12_isSign k m3 [aR 603, aI 42] (fun r6 m5 => ((r6 = 0 → (CI E mX12_isSign k m5 [aR 603, aI 47] (fun r8 m7 => ((r8 = 0 → (CI E mX12_isSign k m7 [aR 603, aI 37] (fun r10 m9 => ((r10 = 0 → (CI E mX12_inner k m9 [aR 603] (fun r12 m11 => ((¬ r12 = 32 → ((¬ r12 = (-1) → VM E mX12_behindSum (k + 1) m11 163 [(0, aR 603)] [] (retI Q)) ∧ (r12 = (-1) → ((¬ p0 = 0 → VM E mX12_behindSum (k + 1) m11 163 [(0, aR 603)] [] (retI Q)) ∧ (p0 = 0 → Q 4 m11))))) ∧ (r12 = 32 → (CI E mX12_isSign k m11 [aR 603, aI 93] (fun r14 m13 => (R32 r14 → CV E mX12_must k m13 [aR 603, aI r14] (fun m15 => ((¬ (m15 603 19) = 0 → VM E mX12_behindSum (k + 1) m15 150 [] [] (retI Q)) ∧ ((m15 603 19) = 0 → (CV E mX12_settle k m15 [aR 603, aI 5] (fun m16 => (R32 ((m16 603 29) - 1)) ∧ (R32 ((m16 603 30) - 1)) ∧ VM E mX12_behindSum (k + 1) (aUp (aUp m16 603 29 ((m16 603 29) - 1)) 603 30 ((m16 603 30) - 1)) 150 [] [] (retI Q)))))))))))))) ∧ (¬ r10 = 0 → (CI E mX12_binds k m9 [aI 24] (fun r20 m19 => (R32 r20 → CV E mX12_settle k m19 [aR 603, aI r20] (fun m21 => (CV E mX12_push k m21 [aR 603, aI 24, aI 0] (fun m22 => (CV E mX12_next k m22 [aR 603] (fun m23 => Q 1 m23))))))))))))) ∧ (¬ r8 = 0 → (CI E mX12_binds k m7 [aI 23] (fun r25 m24 => (R32 r25 → CV E mX12_settle k m24 [aR 603, aI r25] (fun m26 => (CV E mX12_push k m26 [aR 603, aI 23, aI 0] (fun m27 => (CV E mX12_next k m27 [aR 603] (fun m28 => Q 1 m28))))))))))))) ∧ (¬ r6 = 0 → (CI E mX12_binds k m5 [aI 22] (fun r30 m29 => (R32 r30 → CV E mX12_settle k m29 [aR 603, aI r30] (fun m31 => (CV E mX12_push k m31 [aR 603, aI 22, aI 0] (fun m32 => (CV E mX12_next k m32 [aR 603] (fun m33 => Q 1 m33))))))))))))) ∧ (¬ r4 = 0 → (CI E mX12_binds k m3 [aI 21] (fun r35 m34 => (R32 r35 → CV E mX12_settle k m34 [aR 603, aI r35] (fun m36 => (CV E mX12_push k m36 [aR 603, aI 21, aI 0] (fun m37 => (CV E mX12_next k m37 [aR 603] (fun m38 => Q 1 m38))))))))))))) ∧ (¬ r2 = 0 → (CI E mX12_binds k m1 [aI 20] (fun r40 m39 => (R32 r40 → CV E mX12_settle k m39 [aR 603, aI r40] (fun m41 => (CV E mX12_push k m41 [aR 603, aI 20, aI 0] (fun m42 => (CV E mX12_next k m42 [aR 603] (fun m43 => Q 1 m43))))))))))))) :
    VM E mX12_behindSum (k + 1) mem 0 [(0, aR 603), (1, aI p0)] [] (retI Q) := by
  refine v_aload_n (pc := 0) dX12_behindSum_0 0 rfl ?_
  refine v_bipush (pc := 1) dX12_behindSum_1 (by decide) ?_
  refine m_invI (pc := 3) (mi' := mX12_isSign) (rest := []) [aI 43] dX12_behindSum_3 at603 (by decide) rfl msX12_isSign mvX12_isSign lkX12_311 rfl (Nat.le_of_ble_eq_true rfl) (fun hn => CI_mono (h) (fun r2 m1 h => ?_))
  refine v_ifeq (pc := 6) (tgt := 14) dX12_behindSum_6 (by decide) (fun c1 => ?_) (fun c1 => ?_)
  · have h := h.1 c1
    refine v_aload_n (pc := 14) dX12_behindSum_14 0 rfl ?_
    refine v_bipush (pc := 15) dX12_behindSum_15 (by decide) ?_
    refine m_invI (pc := 17) (mi' := mX12_isSign) (rest := []) [aI 45] dX12_behindSum_17 at603 (by decide) rfl msX12_isSign mvX12_isSign lkX12_311 rfl (Nat.le_of_ble_eq_true rfl) (fun hn => CI_mono (h) (fun r4 m3 h => ?_))
    refine v_ifeq (pc := 20) (tgt := 28) dX12_behindSum_20 (by decide) (fun c1 => ?_) (fun c1 => ?_)
    · have h := h.1 c1
      refine v_aload_n (pc := 28) dX12_behindSum_28 0 rfl ?_
      refine v_bipush (pc := 29) dX12_behindSum_29 (by decide) ?_
      refine m_invI (pc := 31) (mi' := mX12_isSign) (rest := []) [aI 42] dX12_behindSum_31 at603 (by decide) rfl msX12_isSign mvX12_isSign lkX12_311 rfl (Nat.le_of_ble_eq_true rfl) (fun hn => CI_mono (h) (fun r6 m5 h => ?_))
      refine v_ifeq (pc := 34) (tgt := 42) dX12_behindSum_34 (by decide) (fun c1 => ?_) (fun c1 => ?_)
      · have h := h.1 c1
        refine v_aload_n (pc := 42) dX12_behindSum_42 0 rfl ?_
        refine v_bipush (pc := 43) dX12_behindSum_43 (by decide) ?_
        refine m_invI (pc := 45) (mi' := mX12_isSign) (rest := []) [aI 47] dX12_behindSum_45 at603 (by decide) rfl msX12_isSign mvX12_isSign lkX12_311 rfl (Nat.le_of_ble_eq_true rfl) (fun hn => CI_mono (h) (fun r8 m7 h => ?_))
        refine v_ifeq (pc := 48) (tgt := 56) dX12_behindSum_48 (by decide) (fun c1 => ?_) (fun c1 => ?_)
        · have h := h.1 c1
          refine v_aload_n (pc := 56) dX12_behindSum_56 0 rfl ?_
          refine v_bipush (pc := 57) dX12_behindSum_57 (by decide) ?_
          refine m_invI (pc := 59) (mi' := mX12_isSign) (rest := []) [aI 37] dX12_behindSum_59 at603 (by decide) rfl msX12_isSign mvX12_isSign lkX12_311 rfl (Nat.le_of_ble_eq_true rfl) (fun hn => CI_mono (h) (fun r10 m9 h => ?_))
          refine v_ifeq (pc := 62) (tgt := 70) dX12_behindSum_62 (by decide) (fun c1 => ?_) (fun c1 => ?_)
          · have h := h.1 c1
            refine v_iconst (pc := 70) dX12_behindSum_70 (by decide) ?_
            refine v_istore_n (pc := 71) (al2 := [(2, aI (-1)), (0, aR 603), (1, aI p0)]) dX12_behindSum_71 (by decide) rfl ?_
            refine v_iload_n (pc := 72) dX12_behindSum_72 0 rfl ?_
            refine v_iconst (pc := 73) dX12_behindSum_73 (by decide) ?_
            refine v_icmpeq (pc := 74) (tgt := 97) dX12_behindSum_74 (by decide) (fun c1 => ?_) (fun c1 => absurd c1 (by decide))
            refine v_aload_n (pc := 97) dX12_behindSum_97 1 rfl ?_
            refine m_invI (pc := 98) (mi' := mX12_inner) (rest := []) [] dX12_behindSum_98 at603 (by decide) rfl msX12_inner mvX12_inner lkX12_345 rfl (Nat.le_of_ble_eq_true rfl) (fun hn => CI_mono (h) (fun r12 m11 h => ?_))
            refine v_istore_n (pc := 101) (al2 := [(3, aI r12), (2, aI (-1)), (0, aR 603), (1, aI p0)]) dX12_behindSum_101 (by decide) rfl ?_
            refine v_iload_n (pc := 102) dX12_behindSum_102 0 rfl ?_
            refine v_bipush (pc := 103) dX12_behindSum_103 (by decide) ?_
            refine v_icmpne (pc := 105) (tgt := 152) dX12_behindSum_105 (by decide) (fun c1 => ?_) (fun c1 => ?_)
            · have h := h.1 c1
              refine v_iload_n (pc := 152) dX12_behindSum_152 0 rfl ?_
              refine v_iconst (pc := 153) dX12_behindSum_153 (by decide) ?_
              refine v_icmpne (pc := 154) (tgt := 163) dX12_behindSum_154 (by decide) (fun c1 => ?_) (fun c1 => ?_)
              · have h := h.1 c1
                exact VG_sub (al' := [(0, aR 603)]) [2] rfl h
              · have h := h.2 c1
                refine v_iload_n (pc := 157) dX12_behindSum_157 3 rfl ?_
                refine v_ifne (pc := 158) (tgt := 163) dX12_behindSum_158 (by decide) (fun c1 => ?_) (fun c1 => ?_)
                · have h := h.1 c1
                  exact VG_sub (al' := [(0, aR 603)]) [2] rfl h
                · have h := h.2 c1
                  refine v_iconst (pc := 161) dX12_behindSum_161 (by decide) ?_
                  exact m_retI (pc := 162) dX12_behindSum_162 rfl h
            · have h := h.2 c1
              refine v_aload_n (pc := 108) dX12_behindSum_108 2 rfl ?_
              refine v_aload_n (pc := 109) dX12_behindSum_109 2 rfl ?_
              refine v_bipush (pc := 110) dX12_behindSum_110 (by decide) ?_
              refine m_invI (pc := 112) (mi' := mX12_isSign) (rest := [aR 603]) [aI 93] dX12_behindSum_112 at603 (by decide) rfl msX12_isSign mvX12_isSign lkX12_311 rfl (Nat.le_of_ble_eq_true rfl) (fun hn => CI_mono (h) (fun r14 m13 h => ?_))
              refine m_invV (pc := 115) (mi' := mX12_must) (rest := []) [aI r14] dX12_behindSum_115 at603 (by decide) rfl msX12_must mvX12_must lkX12_274 rfl (Nat.le_of_ble_eq_true rfl) (fun hn => CV_mono (h (aaI hn 1 rfl)) (fun m15 h => ?_))
              refine v_aload_n (pc := 118) dX12_behindSum_118 2 rfl ?_
              refine m_getf (pc := 119) (t := 0) (v := (m15 603 19)) dX12_behindSum_119 flX12_241 rfl at603 rfl ?_
              refine v_ifne (pc := 122) (tgt := 150) dX12_behindSum_122 (by decide) (fun c1 => ?_) (fun c1 => ?_)
              · have h := h.1 c1
                exact VG_sub (al' := []) [] rfl h
              · have h := h.2 c1
                refine v_aload_n (pc := 125) dX12_behindSum_125 2 rfl ?_
                refine v_iconst (pc := 126) dX12_behindSum_126 (by decide) ?_
                refine m_invV (pc := 127) (mi' := mX12_settle) (rest := []) [aI 5] dX12_behindSum_127 at603 (by decide) rfl msX12_settle mvX12_settle lkX12_342 rfl (Nat.le_of_ble_eq_true rfl) (fun hn => CV_mono (h) (fun m16 h => ?_))
                refine v_aload_n (pc := 130) dX12_behindSum_130 2 rfl ?_
                refine v_dup (pc := 131) dX12_behindSum_131 rfl ?_
                refine m_getf (pc := 132) (t := 0) (v := (m16 603 29)) dX12_behindSum_132 flX12_281 rfl at603 rfl ?_
                refine v_iconst (pc := 135) dX12_behindSum_135 (by decide) ?_
                obtain ⟨o17, h⟩ := h
                refine m_isub (pc := 136) dX12_behindSum_136 o17 ?_
                refine v_putf (pc := 137) dX12_behindSum_137 flX12_281 ⟨_, _, rfl, Or.inl rfl⟩ rfl (by decide) (fun q => nomatch q) (Or.inl fun _ => rfl) at603 ?_
                refine v_aload_n (pc := 140) dX12_behindSum_140 2 rfl ?_
                refine v_dup (pc := 141) dX12_behindSum_141 rfl ?_
                refine m_getf (pc := 142) (t := 0) (v := (m16 603 30)) dX12_behindSum_142 flX12_302 rfl at603 (aUp_ri (by decide)) ?_
                refine v_iconst (pc := 145) dX12_behindSum_145 (by decide) ?_
                obtain ⟨o18, h⟩ := h
                refine m_isub (pc := 146) dX12_behindSum_146 o18 ?_
                refine v_putf (pc := 147) dX12_behindSum_147 flX12_302 ⟨_, _, rfl, Or.inl rfl⟩ rfl (by decide) (fun q => nomatch q) (Or.inl fun _ => rfl) at603 ?_
                exact VG_sub (al' := []) [] rfl h
          · have h := h.2 c1
            refine v_bipush (pc := 65) dX12_behindSum_65 (by decide) ?_
            refine v_goto (pc := 67) (tgt := 71) dX12_behindSum_67 (by decide) ?_
            refine v_istore_n (pc := 71) (al2 := [(2, aI 24), (0, aR 603), (1, aI p0)]) dX12_behindSum_71 (by decide) rfl ?_
            refine v_iload_n (pc := 72) dX12_behindSum_72 0 rfl ?_
            refine v_iconst (pc := 73) dX12_behindSum_73 (by decide) ?_
            refine v_icmpeq (pc := 74) (tgt := 97) dX12_behindSum_74 (by decide) (fun c1 => absurd c1 (by decide)) (fun c1 => ?_)
            refine v_aload_n (pc := 77) dX12_behindSum_77 1 rfl ?_
            refine v_iload_n (pc := 78) dX12_behindSum_78 0 rfl ?_
            refine m_invSI (pc := 79) (mi' := mX12_binds) (rest := [aR 603]) [aI 24] dX12_behindSum_79 msX12_binds stX12_binds lkX12_284 rfl (Nat.le_of_ble_eq_true rfl) (fun hn => CI_mono (h) (fun r20 m19 h => ?_))
            refine m_invV (pc := 82) (mi' := mX12_settle) (rest := []) [aI r20] dX12_behindSum_82 at603 (by decide) rfl msX12_settle mvX12_settle lkX12_342 rfl (Nat.le_of_ble_eq_true rfl) (fun hn => CV_mono (h (aaI hn 1 rfl)) (fun m21 h => ?_))
            refine v_aload_n (pc := 85) dX12_behindSum_85 1 rfl ?_
            refine v_iload_n (pc := 86) dX12_behindSum_86 0 rfl ?_
            refine v_iconst (pc := 87) dX12_behindSum_87 (by decide) ?_
            refine m_invV (pc := 88) (mi' := mX12_push) (rest := []) [aI 24, aI 0] dX12_behindSum_88 at603 (by decide) rfl msX12_push mvX12_push lkX12_305 rfl (Nat.le_of_ble_eq_true rfl) (fun hn => CV_mono (h) (fun m22 h => ?_))
            refine v_aload_n (pc := 91) dX12_behindSum_91 1 rfl ?_
            refine m_invV (pc := 92) (mi' := mX12_next) (rest := []) [] dX12_behindSum_92 at603 (by decide) rfl msX12_next mvX12_next lkX12_245 rfl (Nat.le_of_ble_eq_true rfl) (fun hn => CV_mono (h) (fun m23 h => ?_))
            refine v_iconst (pc := 95) dX12_behindSum_95 (by decide) ?_
            exact m_retI (pc := 96) dX12_behindSum_96 rfl h
        · have h := h.2 c1
          refine v_bipush (pc := 51) dX12_behindSum_51 (by decide) ?_
          refine v_goto (pc := 53) (tgt := 71) dX12_behindSum_53 (by decide) ?_
          refine v_istore_n (pc := 71) (al2 := [(2, aI 23), (0, aR 603), (1, aI p0)]) dX12_behindSum_71 (by decide) rfl ?_
          refine v_iload_n (pc := 72) dX12_behindSum_72 0 rfl ?_
          refine v_iconst (pc := 73) dX12_behindSum_73 (by decide) ?_
          refine v_icmpeq (pc := 74) (tgt := 97) dX12_behindSum_74 (by decide) (fun c1 => absurd c1 (by decide)) (fun c1 => ?_)
          refine v_aload_n (pc := 77) dX12_behindSum_77 1 rfl ?_
          refine v_iload_n (pc := 78) dX12_behindSum_78 0 rfl ?_
          refine m_invSI (pc := 79) (mi' := mX12_binds) (rest := [aR 603]) [aI 23] dX12_behindSum_79 msX12_binds stX12_binds lkX12_284 rfl (Nat.le_of_ble_eq_true rfl) (fun hn => CI_mono (h) (fun r25 m24 h => ?_))
          refine m_invV (pc := 82) (mi' := mX12_settle) (rest := []) [aI r25] dX12_behindSum_82 at603 (by decide) rfl msX12_settle mvX12_settle lkX12_342 rfl (Nat.le_of_ble_eq_true rfl) (fun hn => CV_mono (h (aaI hn 1 rfl)) (fun m26 h => ?_))
          refine v_aload_n (pc := 85) dX12_behindSum_85 1 rfl ?_
          refine v_iload_n (pc := 86) dX12_behindSum_86 0 rfl ?_
          refine v_iconst (pc := 87) dX12_behindSum_87 (by decide) ?_
          refine m_invV (pc := 88) (mi' := mX12_push) (rest := []) [aI 23, aI 0] dX12_behindSum_88 at603 (by decide) rfl msX12_push mvX12_push lkX12_305 rfl (Nat.le_of_ble_eq_true rfl) (fun hn => CV_mono (h) (fun m27 h => ?_))
          refine v_aload_n (pc := 91) dX12_behindSum_91 1 rfl ?_
          refine m_invV (pc := 92) (mi' := mX12_next) (rest := []) [] dX12_behindSum_92 at603 (by decide) rfl msX12_next mvX12_next lkX12_245 rfl (Nat.le_of_ble_eq_true rfl) (fun hn => CV_mono (h) (fun m28 h => ?_))
          refine v_iconst (pc := 95) dX12_behindSum_95 (by decide) ?_
          exact m_retI (pc := 96) dX12_behindSum_96 rfl h
      · have h := h.2 c1
        refine v_bipush (pc := 37) dX12_behindSum_37 (by decide) ?_
        refine v_goto (pc := 39) (tgt := 71) dX12_behindSum_39 (by decide) ?_
        refine v_istore_n (pc := 71) (al2 := [(2, aI 22), (0, aR 603), (1, aI p0)]) dX12_behindSum_71 (by decide) rfl ?_
        refine v_iload_n (pc := 72) dX12_behindSum_72 0 rfl ?_
        refine v_iconst (pc := 73) dX12_behindSum_73 (by decide) ?_
        refine v_icmpeq (pc := 74) (tgt := 97) dX12_behindSum_74 (by decide) (fun c1 => absurd c1 (by decide)) (fun c1 => ?_)
        refine v_aload_n (pc := 77) dX12_behindSum_77 1 rfl ?_
        refine v_iload_n (pc := 78) dX12_behindSum_78 0 rfl ?_
        refine m_invSI (pc := 79) (mi' := mX12_binds) (rest := [aR 603]) [aI 22] dX12_behindSum_79 msX12_binds stX12_binds lkX12_284 rfl (Nat.le_of_ble_eq_true rfl) (fun hn => CI_mono (h) (fun r30 m29 h => ?_))
        refine m_invV (pc := 82) (mi' := mX12_settle) (rest := []) [aI r30] dX12_behindSum_82 at603 (by decide) rfl msX12_settle mvX12_settle lkX12_342 rfl (Nat.le_of_ble_eq_true rfl) (fun hn => CV_mono (h (aaI hn 1 rfl)) (fun m31 h => ?_))
        refine v_aload_n (pc := 85) dX12_behindSum_85 1 rfl ?_
        refine v_iload_n (pc := 86) dX12_behindSum_86 0 rfl ?_
        refine v_iconst (pc := 87) dX12_behindSum_87 (by decide) ?_
        refine m_invV (pc := 88) (mi' := mX12_push) (rest := []) [aI 22, aI 0] dX12_behindSum_88 at603 (by decide) rfl msX12_push mvX12_push lkX12_305 rfl (Nat.le_of_ble_eq_true rfl) (fun hn => CV_mono (h) (fun m32 h => ?_))
        refine v_aload_n (pc := 91) dX12_behindSum_91 1 rfl ?_
        refine m_invV (pc := 92) (mi' := mX12_next) (rest := []) [] dX12_behindSum_92 at603 (by decide) rfl msX12_next mvX12_next lkX12_245 rfl (Nat.le_of_ble_eq_true rfl) (fun hn => CV_mono (h) (fun m33 h => ?_))
        refine v_iconst (pc := 95) dX12_behindSum_95 (by decide) ?_
        exact m_retI (pc := 96) dX12_behindSum_96 rfl h
    · have h := h.2 c1
      refine v_bipush (pc := 23) dX12_behindSum_23 (by decide) ?_
      refine v_goto (pc := 25) (tgt := 71) dX12_behindSum_25 (by decide) ?_
      refine v_istore_n (pc := 71) (al2 := [(2, aI 21), (0, aR 603), (1, aI p0)]) dX12_behindSum_71 (by decide) rfl ?_
      refine v_iload_n (pc := 72) dX12_behindSum_72 0 rfl ?_
      refine v_iconst (pc := 73) dX12_behindSum_73 (by decide) ?_
      refine v_icmpeq (pc := 74) (tgt := 97) dX12_behindSum_74 (by decide) (fun c1 => absurd c1 (by decide)) (fun c1 => ?_)
      refine v_aload_n (pc := 77) dX12_behindSum_77 1 rfl ?_
      refine v_iload_n (pc := 78) dX12_behindSum_78 0 rfl ?_
      refine m_invSI (pc := 79) (mi' := mX12_binds) (rest := [aR 603]) [aI 21] dX12_behindSum_79 msX12_binds stX12_binds lkX12_284 rfl (Nat.le_of_ble_eq_true rfl) (fun hn => CI_mono (h) (fun r35 m34 h => ?_))
      refine m_invV (pc := 82) (mi' := mX12_settle) (rest := []) [aI r35] dX12_behindSum_82 at603 (by decide) rfl msX12_settle mvX12_settle lkX12_342 rfl (Nat.le_of_ble_eq_true rfl) (fun hn => CV_mono (h (aaI hn 1 rfl)) (fun m36 h => ?_))
      refine v_aload_n (pc := 85) dX12_behindSum_85 1 rfl ?_
      refine v_iload_n (pc := 86) dX12_behindSum_86 0 rfl ?_
      refine v_iconst (pc := 87) dX12_behindSum_87 (by decide) ?_
      refine m_invV (pc := 88) (mi' := mX12_push) (rest := []) [aI 21, aI 0] dX12_behindSum_88 at603 (by decide) rfl msX12_push mvX12_push lkX12_305 rfl (Nat.le_of_ble_eq_true rfl) (fun hn => CV_mono (h) (fun m37 h => ?_))
      refine v_aload_n (pc := 91) dX12_behindSum_91 1 rfl ?_
      refine m_invV (pc := 92) (mi' := mX12_next) (rest := []) [] dX12_behindSum_92 at603 (by decide) rfl msX12_next mvX12_next lkX12_245 rfl (Nat.le_of_ble_eq_true rfl) (fun hn => CV_mono (h) (fun m38 h => ?_))
      refine v_iconst (pc := 95) dX12_behindSum_95 (by decide) ?_
      exact m_retI (pc := 96) dX12_behindSum_96 rfl h
  · have h := h.2 c1
    refine v_bipush (pc := 9) dX12_behindSum_9 (by decide) ?_
    refine v_goto (pc := 11) (tgt := 71) dX12_behindSum_11 (by decide) ?_
    refine v_istore_n (pc := 71) (al2 := [(2, aI 20), (0, aR 603), (1, aI p0)]) dX12_behindSum_71 (by decide) rfl ?_
    refine v_iload_n (pc := 72) dX12_behindSum_72 0 rfl ?_
    refine v_iconst (pc := 73) dX12_behindSum_73 (by decide) ?_
    refine v_icmpeq (pc := 74) (tgt := 97) dX12_behindSum_74 (by decide) (fun c1 => absurd c1 (by decide)) (fun c1 => ?_)
    refine v_aload_n (pc := 77) dX12_behindSum_77 1 rfl ?_
    refine v_iload_n (pc := 78) dX12_behindSum_78 0 rfl ?_
    refine m_invSI (pc := 79) (mi' := mX12_binds) (rest := [aR 603]) [aI 20] dX12_behindSum_79 msX12_binds stX12_binds lkX12_284 rfl (Nat.le_of_ble_eq_true rfl) (fun hn => CI_mono (h) (fun r40 m39 h => ?_))
    refine m_invV (pc := 82) (mi' := mX12_settle) (rest := []) [aI r40] dX12_behindSum_82 at603 (by decide) rfl msX12_settle mvX12_settle lkX12_342 rfl (Nat.le_of_ble_eq_true rfl) (fun hn => CV_mono (h (aaI hn 1 rfl)) (fun m41 h => ?_))
    refine v_aload_n (pc := 85) dX12_behindSum_85 1 rfl ?_
    refine v_iload_n (pc := 86) dX12_behindSum_86 0 rfl ?_
    refine v_iconst (pc := 87) dX12_behindSum_87 (by decide) ?_
    refine m_invV (pc := 88) (mi' := mX12_push) (rest := []) [aI 20, aI 0] dX12_behindSum_88 at603 (by decide) rfl msX12_push mvX12_push lkX12_305 rfl (Nat.le_of_ble_eq_true rfl) (fun hn => CV_mono (h) (fun m42 h => ?_))
    refine v_aload_n (pc := 91) dX12_behindSum_91 1 rfl ?_
    refine m_invV (pc := 92) (mi' := mX12_next) (rest := []) [] dX12_behindSum_92 at603 (by decide) rfl msX12_next mvX12_next lkX12_245 rfl (Nat.le_of_ble_eq_true rfl) (fun hn => CV_mono (h) (fun m43 h => ?_))
    refine v_iconst (pc := 95) dX12_behindSum_95 (by decide) ?_
    exact m_retI (pc := 96) dX12_behindSum_96 rfl h
theorem eX12_behindSum {E : EN} {k : Nat} {mem : Mm} {Q : Int → Mm → Prop} {p0 : Int} (hr_p0 : R32 p0) (h : VM E mX12_behindSum (k + 1) mem 0 [(0, aR 603), (1, aI p0)] [] (retI Q)) : CI E mX12_behindSum (k + 1) mem [aR 603, aI p0] Q := CI_of rfl (Nat.le_of_ble_eq_true rfl) h (aNs_c (aNr_R _) (aNs_c (aNr_I hr_p0) (fun _ q => nomatch q)))
set_option maxRecDepth 20000 in
theorem rX12_behindSum_163 {E : EN} (hE : Ep E) {k : Nat} {mem : Mm} {Q : Int → Mm → Prop} {p0 : Int}
    (h : (CI E mX12_isCompared k mem [aR 603] (fun r2 m1 => ((r2 = 0 → (CI E mX12_isSign k m1 [aR 603, aI 60] (fun r4 m3 => ((r4 = 0 → (CI E mX12_isSign k m3 [aR 603, aI 62] (fun r6 m5 => ((r6 = 0 → (CI E mX12_isSign k m5 [aR 603, aI 61] (fun r8 m7 => ((r8 = 0 → (CV E mX12_must k m7 [aR 603, aI 0] (fun m9 => ((¬ (m9 603 19) = 0 → VM E mX12_behindSum (k + 1) m9 245 [] [] (retI Q)) ∧ ((m9 603 19) = 0 → (CV E mX12_settle k m9 [aR 603, aI 5] (fun m10 => (CV E mX12_push k m10 [aR 603, aI 27, aI 0] (fun m11 => VM E mX12_behindSum (k + 1) m11 245 [] [] (retI Q)))))))))) ∧ (¬ r8 = 0 → (CV E mX12_must k m7 [aR 603, aI 1] (fun m12 => ((¬ (m12 603 19) = 0 → VM E mX12_behindSum (k + 1) m12 245 [] [] (retI Q)) ∧ ((m12 603 19) = 0 → (CV E mX12_settle k m12 [aR 603, aI 5] (fun m13 => (CV E mX12_push k m13 [aR 603, aI 27, aI 0] (fun m14 => VM E mX12_behindSum (k + 1) m14 245 [] [] (retI Q)))))))))))))) ∧ (¬ r6 = 0 → (CV E mX12_must k m5 [aR 603, aI 1] (fun m15 => ((¬ (m15 603 19) = 0 → VM E mX12_behindSum (k + 1) m15 245 [] [] (retI Q)) ∧ ((m15 603 19) = 0 → (CV E mX12_settle k m15 [aR 603, aI 5] (fun m16 => (CV E mX12_push k m16 [aR 603, aI 26, aI 0] (fun m17 => VM E mX12_behindSum (k + 1) m17 245 [] [] (retI Q)))))))))))))) ∧ (¬ r4 = 0 → (CV E mX12_must k m3 [aR 603, aI 1] (fun m18 => ((¬ (m18 603 19) = 0 → VM E mX12_behindSum (k + 1) m18 245 [] [] (retI Q)) ∧ ((m18 603 19) = 0 → (CV E mX12_settle k m18 [aR 603, aI 5] (fun m19 => (CV E mX12_push k m19 [aR 603, aI 25, aI 0] (fun m20 => VM E mX12_behindSum (k + 1) m20 245 [] [] (retI Q)))))))))))))) ∧ (¬ r2 = 0 → Q 2 m1))))) :
    VM E mX12_behindSum (k + 1) mem 163 [(0, aR 603)] [] (retI Q) := by
  refine v_aload_n (pc := 163) dX12_behindSum_163 0 rfl ?_
  refine m_invI (pc := 164) (mi' := mX12_isCompared) (rest := []) [] dX12_behindSum_164 at603 (by decide) rfl msX12_isCompared mvX12_isCompared lkX12_348 rfl (Nat.le_of_ble_eq_true rfl) (fun hn => CI_mono (h) (fun r2 m1 h => ?_))
  refine v_ifeq (pc := 167) (tgt := 172) dX12_behindSum_167 (by decide) (fun c1 => ?_) (fun c1 => ?_)
  · have h := h.1 c1
    refine v_aload_n (pc := 172) dX12_behindSum_172 0 rfl ?_
    refine v_bipush (pc := 173) dX12_behindSum_173 (by decide) ?_
    refine m_invI (pc := 175) (mi' := mX12_isSign) (rest := []) [aI 60] dX12_behindSum_175 at603 (by decide) rfl msX12_isSign mvX12_isSign lkX12_311 rfl (Nat.le_of_ble_eq_true rfl) (fun hn => CI_mono (h) (fun r4 m3 h => ?_))
    refine v_ifeq (pc := 178) (tgt := 186) dX12_behindSum_178 (by decide) (fun c1 => ?_) (fun c1 => ?_)
    · have h := h.1 c1
      refine v_aload_n (pc := 186) dX12_behindSum_186 0 rfl ?_
      refine v_bipush (pc := 187) dX12_behindSum_187 (by decide) ?_
      refine m_invI (pc := 189) (mi' := mX12_isSign) (rest := []) [aI 62] dX12_behindSum_189 at603 (by decide) rfl msX12_isSign mvX12_isSign lkX12_311 rfl (Nat.le_of_ble_eq_true rfl) (fun hn => CI_mono (h) (fun r6 m5 h => ?_))
      refine v_ifeq (pc := 192) (tgt := 200) dX12_behindSum_192 (by decide) (fun c1 => ?_) (fun c1 => ?_)
      · have h := h.1 c1
        refine v_bipush (pc := 200) dX12_behindSum_200 (by decide) ?_
        refine v_istore_n (pc := 202) (al2 := [(2, aI 27), (0, aR 603)]) dX12_behindSum_202 (by decide) rfl ?_
        refine v_aload_n (pc := 203) dX12_behindSum_203 1 rfl ?_
        refine v_iload_n (pc := 204) dX12_behindSum_204 0 rfl ?_
        refine v_bipush (pc := 205) dX12_behindSum_205 (by decide) ?_
        refine v_icmpne (pc := 207) (tgt := 219) dX12_behindSum_207 (by decide) (fun c1 => absurd c1 (by decide)) (fun c1 => ?_)
        refine v_aload_n (pc := 210) dX12_behindSum_210 1 rfl ?_
        refine v_bipush (pc := 211) dX12_behindSum_211 (by decide) ?_
        refine m_invI (pc := 213) (mi' := mX12_isSign) (rest := [aR 603]) [aI 61] dX12_behindSum_213 at603 (by decide) rfl msX12_isSign mvX12_isSign lkX12_311 rfl (Nat.le_of_ble_eq_true rfl) (fun hn => CI_mono (h) (fun r8 m7 h => ?_))
        refine v_ifeq (pc := 216) (tgt := 223) dX12_behindSum_216 (by decide) (fun c1 => ?_) (fun c1 => ?_)
        · have h := h.1 c1
          refine v_iconst (pc := 223) dX12_behindSum_223 (by decide) ?_
          refine m_invV (pc := 224) (mi' := mX12_must) (rest := []) [aI 0] dX12_behindSum_224 at603 (by decide) rfl msX12_must mvX12_must lkX12_274 rfl (Nat.le_of_ble_eq_true rfl) (fun hn => CV_mono (h) (fun m9 h => ?_))
          refine v_aload_n (pc := 227) dX12_behindSum_227 1 rfl ?_
          refine m_getf (pc := 228) (t := 0) (v := (m9 603 19)) dX12_behindSum_228 flX12_241 rfl at603 rfl ?_
          refine v_ifne (pc := 231) (tgt := 245) dX12_behindSum_231 (by decide) (fun c1 => ?_) (fun c1 => ?_)
          · have h := h.1 c1
            exact VG_sub (al' := []) [] rfl h
          · have h := h.2 c1
            refine v_aload_n (pc := 234) dX12_behindSum_234 1 rfl ?_
            refine v_iconst (pc := 235) dX12_behindSum_235 (by decide) ?_
            refine m_invV (pc := 236) (mi' := mX12_settle) (rest := []) [aI 5] dX12_behindSum_236 at603 (by decide) rfl msX12_settle mvX12_settle lkX12_342 rfl (Nat.le_of_ble_eq_true rfl) (fun hn => CV_mono (h) (fun m10 h => ?_))
            refine v_aload_n (pc := 239) dX12_behindSum_239 1 rfl ?_
            refine v_iload_n (pc := 240) dX12_behindSum_240 0 rfl ?_
            refine v_iconst (pc := 241) dX12_behindSum_241 (by decide) ?_
            refine m_invV (pc := 242) (mi' := mX12_push) (rest := []) [aI 27, aI 0] dX12_behindSum_242 at603 (by decide) rfl msX12_push mvX12_push lkX12_305 rfl (Nat.le_of_ble_eq_true rfl) (fun hn => CV_mono (h) (fun m11 h => ?_))
            exact VG_sub (al' := []) [] rfl h
        · have h := h.2 c1
          refine v_iconst (pc := 219) dX12_behindSum_219 (by decide) ?_
          refine v_goto (pc := 220) (tgt := 224) dX12_behindSum_220 (by decide) ?_
          refine m_invV (pc := 224) (mi' := mX12_must) (rest := []) [aI 1] dX12_behindSum_224 at603 (by decide) rfl msX12_must mvX12_must lkX12_274 rfl (Nat.le_of_ble_eq_true rfl) (fun hn => CV_mono (h) (fun m12 h => ?_))
          refine v_aload_n (pc := 227) dX12_behindSum_227 1 rfl ?_
          refine m_getf (pc := 228) (t := 0) (v := (m12 603 19)) dX12_behindSum_228 flX12_241 rfl at603 rfl ?_
          refine v_ifne (pc := 231) (tgt := 245) dX12_behindSum_231 (by decide) (fun c1 => ?_) (fun c1 => ?_)
          · have h := h.1 c1
            exact VG_sub (al' := []) [] rfl h
          · have h := h.2 c1
            refine v_aload_n (pc := 234) dX12_behindSum_234 1 rfl ?_
            refine v_iconst (pc := 235) dX12_behindSum_235 (by decide) ?_
            refine m_invV (pc := 236) (mi' := mX12_settle) (rest := []) [aI 5] dX12_behindSum_236 at603 (by decide) rfl msX12_settle mvX12_settle lkX12_342 rfl (Nat.le_of_ble_eq_true rfl) (fun hn => CV_mono (h) (fun m13 h => ?_))
            refine v_aload_n (pc := 239) dX12_behindSum_239 1 rfl ?_
            refine v_iload_n (pc := 240) dX12_behindSum_240 0 rfl ?_
            refine v_iconst (pc := 241) dX12_behindSum_241 (by decide) ?_
            refine m_invV (pc := 242) (mi' := mX12_push) (rest := []) [aI 27, aI 0] dX12_behindSum_242 at603 (by decide) rfl msX12_push mvX12_push lkX12_305 rfl (Nat.le_of_ble_eq_true rfl) (fun hn => CV_mono (h) (fun m14 h => ?_))
            exact VG_sub (al' := []) [] rfl h
      · have h := h.2 c1
        refine v_bipush (pc := 195) dX12_behindSum_195 (by decide) ?_
        refine v_goto (pc := 197) (tgt := 202) dX12_behindSum_197 (by decide) ?_
        refine v_istore_n (pc := 202) (al2 := [(2, aI 26), (0, aR 603)]) dX12_behindSum_202 (by decide) rfl ?_
        refine v_aload_n (pc := 203) dX12_behindSum_203 1 rfl ?_
        refine v_iload_n (pc := 204) dX12_behindSum_204 0 rfl ?_
        refine v_bipush (pc := 205) dX12_behindSum_205 (by decide) ?_
        refine v_icmpne (pc := 207) (tgt := 219) dX12_behindSum_207 (by decide) (fun c1 => ?_) (fun c1 => absurd c1 (by decide))
        refine v_iconst (pc := 219) dX12_behindSum_219 (by decide) ?_
        refine v_goto (pc := 220) (tgt := 224) dX12_behindSum_220 (by decide) ?_
        refine m_invV (pc := 224) (mi' := mX12_must) (rest := []) [aI 1] dX12_behindSum_224 at603 (by decide) rfl msX12_must mvX12_must lkX12_274 rfl (Nat.le_of_ble_eq_true rfl) (fun hn => CV_mono (h) (fun m15 h => ?_))
        refine v_aload_n (pc := 227) dX12_behindSum_227 1 rfl ?_
        refine m_getf (pc := 228) (t := 0) (v := (m15 603 19)) dX12_behindSum_228 flX12_241 rfl at603 rfl ?_
        refine v_ifne (pc := 231) (tgt := 245) dX12_behindSum_231 (by decide) (fun c1 => ?_) (fun c1 => ?_)
        · have h := h.1 c1
          exact VG_sub (al' := []) [] rfl h
        · have h := h.2 c1
          refine v_aload_n (pc := 234) dX12_behindSum_234 1 rfl ?_
          refine v_iconst (pc := 235) dX12_behindSum_235 (by decide) ?_
          refine m_invV (pc := 236) (mi' := mX12_settle) (rest := []) [aI 5] dX12_behindSum_236 at603 (by decide) rfl msX12_settle mvX12_settle lkX12_342 rfl (Nat.le_of_ble_eq_true rfl) (fun hn => CV_mono (h) (fun m16 h => ?_))
          refine v_aload_n (pc := 239) dX12_behindSum_239 1 rfl ?_
          refine v_iload_n (pc := 240) dX12_behindSum_240 0 rfl ?_
          refine v_iconst (pc := 241) dX12_behindSum_241 (by decide) ?_
          refine m_invV (pc := 242) (mi' := mX12_push) (rest := []) [aI 26, aI 0] dX12_behindSum_242 at603 (by decide) rfl msX12_push mvX12_push lkX12_305 rfl (Nat.le_of_ble_eq_true rfl) (fun hn => CV_mono (h) (fun m17 h => ?_))
          exact VG_sub (al' := []) [] rfl h
    · have h := h.2 c1
      refine v_bipush (pc := 181) dX12_behindSum_181 (by decide) ?_
      refine v_goto (pc := 183) (tgt := 202) dX12_behindSum_183 (by decide) ?_
      refine v_istore_n (pc := 202) (al2 := [(2, aI 25), (0, aR 603)]) dX12_behindSum_202 (by decide) rfl ?_
      refine v_aload_n (pc := 203) dX12_behindSum_203 1 rfl ?_
      refine v_iload_n (pc := 204) dX12_behindSum_204 0 rfl ?_
      refine v_bipush (pc := 205) dX12_behindSum_205 (by decide) ?_
      refine v_icmpne (pc := 207) (tgt := 219) dX12_behindSum_207 (by decide) (fun c1 => ?_) (fun c1 => absurd c1 (by decide))
      refine v_iconst (pc := 219) dX12_behindSum_219 (by decide) ?_
      refine v_goto (pc := 220) (tgt := 224) dX12_behindSum_220 (by decide) ?_
      refine m_invV (pc := 224) (mi' := mX12_must) (rest := []) [aI 1] dX12_behindSum_224 at603 (by decide) rfl msX12_must mvX12_must lkX12_274 rfl (Nat.le_of_ble_eq_true rfl) (fun hn => CV_mono (h) (fun m18 h => ?_))
      refine v_aload_n (pc := 227) dX12_behindSum_227 1 rfl ?_
      refine m_getf (pc := 228) (t := 0) (v := (m18 603 19)) dX12_behindSum_228 flX12_241 rfl at603 rfl ?_
      refine v_ifne (pc := 231) (tgt := 245) dX12_behindSum_231 (by decide) (fun c1 => ?_) (fun c1 => ?_)
      · have h := h.1 c1
        exact VG_sub (al' := []) [] rfl h
      · have h := h.2 c1
        refine v_aload_n (pc := 234) dX12_behindSum_234 1 rfl ?_
        refine v_iconst (pc := 235) dX12_behindSum_235 (by decide) ?_
        refine m_invV (pc := 236) (mi' := mX12_settle) (rest := []) [aI 5] dX12_behindSum_236 at603 (by decide) rfl msX12_settle mvX12_settle lkX12_342 rfl (Nat.le_of_ble_eq_true rfl) (fun hn => CV_mono (h) (fun m19 h => ?_))
        refine v_aload_n (pc := 239) dX12_behindSum_239 1 rfl ?_
        refine v_iload_n (pc := 240) dX12_behindSum_240 0 rfl ?_
        refine v_iconst (pc := 241) dX12_behindSum_241 (by decide) ?_
        refine m_invV (pc := 242) (mi' := mX12_push) (rest := []) [aI 25, aI 0] dX12_behindSum_242 at603 (by decide) rfl msX12_push mvX12_push lkX12_305 rfl (Nat.le_of_ble_eq_true rfl) (fun hn => CV_mono (h) (fun m20 h => ?_))
        exact VG_sub (al' := []) [] rfl h
  · have h := h.2 c1
    refine v_iconst (pc := 170) dX12_behindSum_170 (by decide) ?_
    exact m_retI (pc := 171) dX12_behindSum_171 rfl h
set_option maxRecDepth 20000 in
theorem rX12_behindSum_150 {E : EN} (hE : Ep E) {k : Nat} {mem : Mm} {Q : Int → Mm → Prop} {p0 : Int}
    (h : Q 3 mem) :
    VM E mX12_behindSum (k + 1) mem 150 [] [] (retI Q) := by
  refine v_iconst (pc := 150) dX12_behindSum_150 (by decide) ?_
  exact m_retI (pc := 151) dX12_behindSum_151 rfl h
set_option maxRecDepth 20000 in
theorem rX12_behindSum_245 {E : EN} (hE : Ep E) {k : Nat} {mem : Mm} {Q : Int → Mm → Prop} {p0 : Int}
    (h : Q 1 mem) :
    VM E mX12_behindSum (k + 1) mem 245 [] [] (retI Q) := by
  refine v_iconst (pc := 245) dX12_behindSum_245 (by decide) ?_
  exact m_retI (pc := 246) dX12_behindSum_246 rfl h

theorem dX12_behindTest_0 : decode cX12_behindTest 0 = .ok (.aload_n 0, 1) := by decide +kernel
theorem dX12_behindTest_1 : decode cX12_behindTest 1 = .ok (.ldc2_w 352, 3) := by decide +kernel
theorem dX12_behindTest_4 : decode cX12_behindTest 4 = .ok (.invokevirtual 298, 3) := by decide +kernel
theorem dX12_behindTest_7 : decode cX12_behindTest 7 = .ok (.istore_n 1, 1) := by decide +kernel
theorem dX12_behindTest_8 : decode cX12_behindTest 8 = .ok (.iload_n 1, 1) := by decide +kernel
theorem dX12_behindTest_9 : decode cX12_behindTest 9 = .ok (.ifCond .ne 13, 3) := by decide +kernel
theorem dX12_behindTest_12 : decode cX12_behindTest 12 = .ok (.aload_n 0, 1) := by decide +kernel
theorem dX12_behindTest_13 : decode cX12_behindTest 13 = .ok (.ldc2_w 354, 3) := by decide +kernel
theorem dX12_behindTest_16 : decode cX12_behindTest 16 = .ok (.invokevirtual 298, 3) := by decide +kernel
theorem dX12_behindTest_19 : decode cX12_behindTest 19 = .ok (.ifCond .eq 57, 3) := by decide +kernel
theorem dX12_behindTest_22 : decode cX12_behindTest 22 = .ok (.aload_n 0, 1) := by decide +kernel
theorem dX12_behindTest_23 : decode cX12_behindTest 23 = .ok (.iload_n 1, 1) := by decide +kernel
theorem dX12_behindTest_24 : decode cX12_behindTest 24 = .ok (.ifCond .eq 7, 3) := by decide +kernel
theorem dX12_behindTest_27 : decode cX12_behindTest 27 = .ok (.iconst 2, 1) := by decide +kernel
theorem dX12_behindTest_28 : decode cX12_behindTest 28 = .ok (.goto 4, 3) := by decide +kernel
theorem dX12_behindTest_31 : decode cX12_behindTest 31 = .ok (.iconst 1, 1) := by decide +kernel
theorem dX12_behindTest_32 : decode cX12_behindTest 32 = .ok (.invokevirtual 342, 3) := by decide +kernel
theorem dX12_behindTest_35 : decode cX12_behindTest 35 = .ok (.aload_n 0, 1) := by decide +kernel
theorem dX12_behindTest_36 : decode cX12_behindTest 36 = .ok (.iload_n 1, 1) := by decide +kernel
theorem dX12_behindTest_37 : decode cX12_behindTest 37 = .ok (.ifCond .eq 8, 3) := by decide +kernel
theorem dX12_behindTest_40 : decode cX12_behindTest 40 = .ok (.bipush 29, 2) := by decide +kernel
theorem dX12_behindTest_42 : decode cX12_behindTest 42 = .ok (.goto 5, 3) := by decide +kernel
theorem dX12_behindTest_45 : decode cX12_behindTest 45 = .ok (.bipush 30, 2) := by decide +kernel
theorem dX12_behindTest_47 : decode cX12_behindTest 47 = .ok (.aload_n 0, 1) := by decide +kernel
theorem dX12_behindTest_48 : decode cX12_behindTest 48 = .ok (.getfield 278, 3) := by decide +kernel
theorem dX12_behindTest_51 : decode cX12_behindTest 51 = .ok (.invokevirtual 305, 3) := by decide +kernel
theorem dX12_behindTest_54 : decode cX12_behindTest 54 = .ok (.aload_n 0, 1) := by decide +kernel
theorem dX12_behindTest_55 : decode cX12_behindTest 55 = .ok (.iload_n 1, 1) := by decide +kernel
theorem dX12_behindTest_56 : decode cX12_behindTest 56 = .ok (.ifCond .eq 8, 3) := by decide +kernel
theorem dX12_behindTest_59 : decode cX12_behindTest 59 = .ok (.bipush 29, 2) := by decide +kernel
theorem dX12_behindTest_61 : decode cX12_behindTest 61 = .ok (.goto 5, 3) := by decide +kernel
theorem dX12_behindTest_64 : decode cX12_behindTest 64 = .ok (.bipush 30, 2) := by decide +kernel
theorem dX12_behindTest_66 : decode cX12_behindTest 66 = .ok (.iconst 0, 1) := by decide +kernel
theorem dX12_behindTest_67 : decode cX12_behindTest 67 = .ok (.invokevirtual 287, 3) := by decide +kernel
theorem dX12_behindTest_70 : decode cX12_behindTest 70 = .ok (.aload_n 0, 1) := by decide +kernel
theorem dX12_behindTest_71 : decode cX12_behindTest 71 = .ok (.invokevirtual 245, 3) := by decide +kernel
theorem dX12_behindTest_74 : decode cX12_behindTest 74 = .ok (.iconst 0, 1) := by decide +kernel
theorem dX12_behindTest_75 : decode cX12_behindTest 75 = .ok (.ireturn, 1) := by decide +kernel
theorem dX12_behindTest_76 : decode cX12_behindTest 76 = .ok (.aload_n 0, 1) := by decide +kernel
theorem dX12_behindTest_77 : decode cX12_behindTest 77 = .ok (.invokevirtual 345, 3) := by decide +kernel
theorem dX12_behindTest_80 : decode cX12_behindTest 80 = .ok (.iconst (-1), 1) := by decide +kernel
theorem dX12_behindTest_81 : decode cX12_behindTest 81 = .ok (.if_icmp .ne 5, 3) := by decide +kernel
theorem dX12_behindTest_84 : decode cX12_behindTest 84 = .ok (.iconst 4, 1) := by decide +kernel
theorem dX12_behindTest_85 : decode cX12_behindTest 85 = .ok (.ireturn, 1) := by decide +kernel
theorem dX12_behindTest_86 : decode cX12_behindTest 86 = .ok (.aload_n 0, 1) := by decide +kernel
theorem dX12_behindTest_87 : decode cX12_behindTest 87 = .ok (.aload_n 0, 1) := by decide +kernel
theorem dX12_behindTest_88 : decode cX12_behindTest 88 = .ok (.bipush 41, 2) := by decide +kernel
theorem dX12_behindTest_90 : decode cX12_behindTest 90 = .ok (.invokevirtual 311, 3) := by decide +kernel
theorem dX12_behindTest_93 : decode cX12_behindTest 93 = .ok (.invokevirtual 274, 3) := by decide +kernel
theorem dX12_behindTest_96 : decode cX12_behindTest 96 = .ok (.aload_n 0, 1) := by decide +kernel
theorem dX12_behindTest_97 : decode cX12_behindTest 97 = .ok (.getfield 241, 3) := by decide +kernel
theorem dX12_behindTest_100 : decode cX12_behindTest 100 = .ok (.ifCond .ne 28, 3) := by decide +kernel
theorem dX12_behindTest_103 : decode cX12_behindTest 103 = .ok (.aload_n 0, 1) := by decide +kernel
theorem dX12_behindTest_104 : decode cX12_behindTest 104 = .ok (.iconst 1, 1) := by decide +kernel
theorem dX12_behindTest_105 : decode cX12_behindTest 105 = .ok (.invokevirtual 342, 3) := by decide +kernel
theorem dX12_behindTest_108 : decode cX12_behindTest 108 = .ok (.aload_n 0, 1) := by decide +kernel
theorem dX12_behindTest_109 : decode cX12_behindTest 109 = .ok (.dup, 1) := by decide +kernel
theorem dX12_behindTest_110 : decode cX12_behindTest 110 = .ok (.getfield 281, 3) := by decide +kernel
theorem dX12_behindTest_113 : decode cX12_behindTest 113 = .ok (.iconst 1, 1) := by decide +kernel
theorem dX12_behindTest_114 : decode cX12_behindTest 114 = .ok (.isub, 1) := by decide +kernel
theorem dX12_behindTest_115 : decode cX12_behindTest 115 = .ok (.putfield 281, 3) := by decide +kernel
theorem dX12_behindTest_118 : decode cX12_behindTest 118 = .ok (.aload_n 0, 1) := by decide +kernel
theorem dX12_behindTest_119 : decode cX12_behindTest 119 = .ok (.dup, 1) := by decide +kernel
theorem dX12_behindTest_120 : decode cX12_behindTest 120 = .ok (.getfield 302, 3) := by decide +kernel
theorem dX12_behindTest_123 : decode cX12_behindTest 123 = .ok (.iconst 1, 1) := by decide +kernel
theorem dX12_behindTest_124 : decode cX12_behindTest 124 = .ok (.isub, 1) := by decide +kernel
theorem dX12_behindTest_125 : decode cX12_behindTest 125 = .ok (.putfield 302, 3) := by decide +kernel
theorem dX12_behindTest_128 : decode cX12_behindTest 128 = .ok (.iconst 2, 1) := by decide +kernel
theorem dX12_behindTest_129 : decode cX12_behindTest 129 = .ok (.ireturn, 1) := by decide +kernel
set_option maxRecDepth 20000 in
theorem rX12_behindTest_0 {E : EN} (hE : Ep E) {k : Nat} {mem : Mm} {Q : Int → Mm → Prop}
    (h : (CI E mX12_isWord k mem [aR 603, aL 1476] (fun r2 m1 => ((¬ r2 = 0 → VM E mX12_behindTest (k + 1) m1 22 [(0, aR 603), (1, aI r2)] [] (retI Q)) ∧ (r2 = 0 → (CI E mX12_isWord k m1 [aR 603, aL 498] (fun r4 m3 => ((r4 = 0 → (CI E mX12_inner k m3 [aR 603] (fun r6 m5 => ((¬ r6 = (-1) → (CI E mX12_isSign k m5 [aR 603, aI 41] (fun r8 m7 => (R32 r8 → CV E mX12_must k m7 [aR 603, aI r8] (fun m9 => ((¬ (m9 603 19) = 0 → VM E mX12_behindTest (k + 1) m9 128 [] [] (retI Q)) ∧ ((m9 603 19) = 0 → (CV E mX12_settle k m9 [aR 603, aI 1] (fun m10 => (R32 ((m10 603 29) - 1)) ∧ (R32 ((m10 603 30) - 1)) ∧ VM E mX12_behindTest (k + 1) (aUp (aUp m10 603 29 ((m10 603 29) - 1)) 603 30 ((m10 603 30) - 1)) 128 [] [] (retI Q)))))))))) ∧ (r6 = (-1) → Q 4 m5))))) ∧ (¬ r4 = 0 → VM E mX12_behindTest (k + 1) m3 22 [(0, aR 603), (1, aI r2)] [] (retI Q)))))))))) :
    VM E mX12_behindTest (k + 1) mem 0 [(0, aR 603)] [] (retI Q) := by
  refine v_aload_n (pc := 0) dX12_behindTest_0 0 rfl ?_
  refine v_ldc2 (pc := 1) (n := 1476) dX12_behindTest_1 cnX12_352 (by decide) ?_
  refine m_invI (pc := 4) (mi' := mX12_isWord) (rest := []) [aL 1476] dX12_behindTest_4 at603 (by decide) rfl msX12_isWord mvX12_isWord lkX12_298 rfl (Nat.le_of_ble_eq_true rfl) (fun hn => CI_mono (h) (fun r2 m1 h => ?_))
  refine v_istore_n (pc := 7) (al2 := [(1, aI r2), (0, aR 603)]) dX12_behindTest_7 (by decide) rfl ?_
  refine v_iload_n (pc := 8) dX12_behindTest_8 0 rfl ?_
  refine v_ifne (pc := 9) (tgt := 22) dX12_behindTest_9 (by decide) (fun c1 => ?_) (fun c1 => ?_)
  · have h := h.1 c1
    exact VG_sub (al' := [(0, aR 603), (1, aI r2)]) [1, 0] rfl h
  · have h := h.2 c1
    refine v_aload_n (pc := 12) dX12_behindTest_12 1 rfl ?_
    refine v_ldc2 (pc := 13) (n := 498) dX12_behindTest_13 cnX12_354 (by decide) ?_
    refine m_invI (pc := 16) (mi' := mX12_isWord) (rest := []) [aL 498] dX12_behindTest_16 at603 (by decide) rfl msX12_isWord mvX12_isWord lkX12_298 rfl (Nat.le_of_ble_eq_true rfl) (fun hn => CI_mono (h) (fun r4 m3 h => ?_))
    refine v_ifeq (pc := 19) (tgt := 76) dX12_behindTest_19 (by decide) (fun c1 => ?_) (fun c1 => ?_)
    · have h := h.1 c1
      refine v_aload_n (pc := 76) dX12_behindTest_76 1 rfl ?_
      refine m_invI (pc := 77) (mi' := mX12_inner) (rest := []) [] dX12_behindTest_77 at603 (by decide) rfl msX12_inner mvX12_inner lkX12_345 rfl (Nat.le_of_ble_eq_true rfl) (fun hn => CI_mono (h) (fun r6 m5 h => ?_))
      refine v_iconst (pc := 80) dX12_behindTest_80 (by decide) ?_
      refine v_icmpne (pc := 81) (tgt := 86) dX12_behindTest_81 (by decide) (fun c1 => ?_) (fun c1 => ?_)
      · have h := h.1 c1
        refine v_aload_n (pc := 86) dX12_behindTest_86 1 rfl ?_
        refine v_aload_n (pc := 87) dX12_behindTest_87 1 rfl ?_
        refine v_bipush (pc := 88) dX12_behindTest_88 (by decide) ?_
        refine m_invI (pc := 90) (mi' := mX12_isSign) (rest := [aR 603]) [aI 41] dX12_behindTest_90 at603 (by decide) rfl msX12_isSign mvX12_isSign lkX12_311 rfl (Nat.le_of_ble_eq_true rfl) (fun hn => CI_mono (h) (fun r8 m7 h => ?_))
        refine m_invV (pc := 93) (mi' := mX12_must) (rest := []) [aI r8] dX12_behindTest_93 at603 (by decide) rfl msX12_must mvX12_must lkX12_274 rfl (Nat.le_of_ble_eq_true rfl) (fun hn => CV_mono (h (aaI hn 1 rfl)) (fun m9 h => ?_))
        refine v_aload_n (pc := 96) dX12_behindTest_96 1 rfl ?_
        refine m_getf (pc := 97) (t := 0) (v := (m9 603 19)) dX12_behindTest_97 flX12_241 rfl at603 rfl ?_
        refine v_ifne (pc := 100) (tgt := 128) dX12_behindTest_100 (by decide) (fun c1 => ?_) (fun c1 => ?_)
        · have h := h.1 c1
          exact VG_sub (al' := []) [] rfl h
        · have h := h.2 c1
          refine v_aload_n (pc := 103) dX12_behindTest_103 1 rfl ?_
          refine v_iconst (pc := 104) dX12_behindTest_104 (by decide) ?_
          refine m_invV (pc := 105) (mi' := mX12_settle) (rest := []) [aI 1] dX12_behindTest_105 at603 (by decide) rfl msX12_settle mvX12_settle lkX12_342 rfl (Nat.le_of_ble_eq_true rfl) (fun hn => CV_mono (h) (fun m10 h => ?_))
          refine v_aload_n (pc := 108) dX12_behindTest_108 1 rfl ?_
          refine v_dup (pc := 109) dX12_behindTest_109 rfl ?_
          refine m_getf (pc := 110) (t := 0) (v := (m10 603 29)) dX12_behindTest_110 flX12_281 rfl at603 rfl ?_
          refine v_iconst (pc := 113) dX12_behindTest_113 (by decide) ?_
          obtain ⟨o11, h⟩ := h
          refine m_isub (pc := 114) dX12_behindTest_114 o11 ?_
          refine v_putf (pc := 115) dX12_behindTest_115 flX12_281 ⟨_, _, rfl, Or.inl rfl⟩ rfl (by decide) (fun q => nomatch q) (Or.inl fun _ => rfl) at603 ?_
          refine v_aload_n (pc := 118) dX12_behindTest_118 1 rfl ?_
          refine v_dup (pc := 119) dX12_behindTest_119 rfl ?_
          refine m_getf (pc := 120) (t := 0) (v := (m10 603 30)) dX12_behindTest_120 flX12_302 rfl at603 (aUp_ri (by decide)) ?_
          refine v_iconst (pc := 123) dX12_behindTest_123 (by decide) ?_
          obtain ⟨o12, h⟩ := h
          refine m_isub (pc := 124) dX12_behindTest_124 o12 ?_
          refine v_putf (pc := 125) dX12_behindTest_125 flX12_302 ⟨_, _, rfl, Or.inl rfl⟩ rfl (by decide) (fun q => nomatch q) (Or.inl fun _ => rfl) at603 ?_
          exact VG_sub (al' := []) [] rfl h
      · have h := h.2 c1
        refine v_iconst (pc := 84) dX12_behindTest_84 (by decide) ?_
        exact m_retI (pc := 85) dX12_behindTest_85 rfl h
    · have h := h.2 c1
      exact VG_sub (al' := [(0, aR 603), (1, aI r2)]) [1, 0] rfl h
theorem eX12_behindTest {E : EN} {k : Nat} {mem : Mm} {Q : Int → Mm → Prop}  (h : VM E mX12_behindTest (k + 1) mem 0 [(0, aR 603)] [] (retI Q)) : CI E mX12_behindTest (k + 1) mem [aR 603] Q := CI_of rfl (Nat.le_of_ble_eq_true rfl) h (aNs_c (aNr_R _) (fun _ q => nomatch q))
set_option maxRecDepth 20000 in
theorem rX12_behindTest_22 {E : EN} (hE : Ep E) {k : Nat} {mem : Mm} {Q : Int → Mm → Prop} {x1 : Int}
    (h : ((x1 = 0 → (CV E mX12_settle k mem [aR 603, aI 1] (fun m1 => ((x1 = 0 → (R32 (m1 603 23) → CV E mX12_push k m1 [aR 603, aI 30, aI (m1 603 23)] (fun m2 => ((x1 = 0 → (CV E mX12_emit k m2 [aR 603, aI 30, aI 0] (fun m3 => (CV E mX12_next k m3 [aR 603] (fun m4 => Q 0 m4))))) ∧ (¬ x1 = 0 → (CV E mX12_emit k m2 [aR 603, aI 29, aI 0] (fun m5 => (CV E mX12_next k m5 [aR 603] (fun m6 => Q 0 m6))))))))) ∧ (¬ x1 = 0 → (R32 (m1 603 23) → CV E mX12_push k m1 [aR 603, aI 29, aI (m1 603 23)] (fun m7 => ((x1 = 0 → (CV E mX12_emit k m7 [aR 603, aI 30, aI 0] (fun m8 => (CV E mX12_next k m8 [aR 603] (fun m9 => Q 0 m9))))) ∧ (¬ x1 = 0 → (CV E mX12_emit k m7 [aR 603, aI 29, aI 0] (fun m10 => (CV E mX12_next k m10 [aR 603] (fun m11 => Q 0 m11))))))))))))) ∧ (¬ x1 = 0 → (CV E mX12_settle k mem [aR 603, aI 2] (fun m12 => ((x1 = 0 → (R32 (m12 603 23) → CV E mX12_push k m12 [aR 603, aI 30, aI (m12 603 23)] (fun m13 => ((x1 = 0 → (CV E mX12_emit k m13 [aR 603, aI 30, aI 0] (fun m14 => (CV E mX12_next k m14 [aR 603] (fun m15 => Q 0 m15))))) ∧ (¬ x1 = 0 → (CV E mX12_emit k m13 [aR 603, aI 29, aI 0] (fun m16 => (CV E mX12_next k m16 [aR 603] (fun m17 => Q 0 m17))))))))) ∧ (¬ x1 = 0 → (R32 (m12 603 23) → CV E mX12_push k m12 [aR 603, aI 29, aI (m12 603 23)] (fun m18 => ((x1 = 0 → (CV E mX12_emit k m18 [aR 603, aI 30, aI 0] (fun m19 => (CV E mX12_next k m19 [aR 603] (fun m20 => Q 0 m20))))) ∧ (¬ x1 = 0 → (CV E mX12_emit k m18 [aR 603, aI 29, aI 0] (fun m21 => (CV E mX12_next k m21 [aR 603] (fun m22 => Q 0 m22))))))))))))))) :
    VM E mX12_behindTest (k + 1) mem 22 [(0, aR 603), (1, aI x1)] [] (retI Q) := by
  refine v_aload_n (pc := 22) dX12_behindTest_22 0 rfl ?_
  refine v_iload_n (pc := 23) dX12_behindTest_23 1 rfl ?_
  refine v_ifeq (pc := 24) (tgt := 31) dX12_behindTest_24 (by decide) (fun c1 => ?_) (fun c1 => ?_)
  · have h := h.1 c1
    refine v_iconst (pc := 31) dX12_behindTest_31 (by decide) ?_
    refine m_invV (pc := 32) (mi' := mX12_settle) (rest := []) [aI 1] dX12_behindTest_32 at603 (by decide) rfl msX12_settle mvX12_settle lkX12_342 rfl (Nat.le_of_ble_eq_true rfl) (fun hn => CV_mono (h) (fun m1 h => ?_))
    refine v_aload_n (pc := 35) dX12_behindTest_35 0 rfl ?_
    refine v_iload_n (pc := 36) dX12_behindTest_36 1 rfl ?_
    refine v_ifeq (pc := 37) (tgt := 45) dX12_behindTest_37 (by decide) (fun c1 => ?_) (fun c1 => ?_)
    · have h := h.1 c1
      refine v_bipush (pc := 45) dX12_behindTest_45 (by decide) ?_
      refine v_aload_n (pc := 47) dX12_behindTest_47 0 rfl ?_
      refine m_getf (pc := 48) (t := 0) (v := (m1 603 23)) dX12_behindTest_48 flX12_278 rfl at603 rfl ?_
      refine m_invV (pc := 51) (mi' := mX12_push) (rest := []) [aI 30, aI (m1 603 23)] dX12_behindTest_51 at603 (by decide) rfl msX12_push mvX12_push lkX12_305 rfl (Nat.le_of_ble_eq_true rfl) (fun hn => CV_mono (h (aaI hn 2 rfl)) (fun m2 h => ?_))
      refine v_aload_n (pc := 54) dX12_behindTest_54 0 rfl ?_
      refine v_iload_n (pc := 55) dX12_behindTest_55 1 rfl ?_
      refine v_ifeq (pc := 56) (tgt := 64) dX12_behindTest_56 (by decide) (fun c1 => ?_) (fun c1 => ?_)
      · have h := h.1 c1
        refine v_bipush (pc := 64) dX12_behindTest_64 (by decide) ?_
        refine v_iconst (pc := 66) dX12_behindTest_66 (by decide) ?_
        refine m_invV (pc := 67) (mi' := mX12_emit) (rest := []) [aI 30, aI 0] dX12_behindTest_67 at603 (by decide) rfl msX12_emit mvX12_emit lkX12_287 rfl (Nat.le_of_ble_eq_true rfl) (fun hn => CV_mono (h) (fun m3 h => ?_))
        refine v_aload_n (pc := 70) dX12_behindTest_70 0 rfl ?_
        refine m_invV (pc := 71) (mi' := mX12_next) (rest := []) [] dX12_behindTest_71 at603 (by decide) rfl msX12_next mvX12_next lkX12_245 rfl (Nat.le_of_ble_eq_true rfl) (fun hn => CV_mono (h) (fun m4 h => ?_))
        refine v_iconst (pc := 74) dX12_behindTest_74 (by decide) ?_
        exact m_retI (pc := 75) dX12_behindTest_75 rfl h
      · have h := h.2 c1
        refine v_bipush (pc := 59) dX12_behindTest_59 (by decide) ?_
        refine v_goto (pc := 61) (tgt := 66) dX12_behindTest_61 (by decide) ?_
        refine v_iconst (pc := 66) dX12_behindTest_66 (by decide) ?_
        refine m_invV (pc := 67) (mi' := mX12_emit) (rest := []) [aI 29, aI 0] dX12_behindTest_67 at603 (by decide) rfl msX12_emit mvX12_emit lkX12_287 rfl (Nat.le_of_ble_eq_true rfl) (fun hn => CV_mono (h) (fun m5 h => ?_))
        refine v_aload_n (pc := 70) dX12_behindTest_70 0 rfl ?_
        refine m_invV (pc := 71) (mi' := mX12_next) (rest := []) [] dX12_behindTest_71 at603 (by decide) rfl msX12_next mvX12_next lkX12_245 rfl (Nat.le_of_ble_eq_true rfl) (fun hn => CV_mono (h) (fun m6 h => ?_))
        refine v_iconst (pc := 74) dX12_behindTest_74 (by decide) ?_
        exact m_retI (pc := 75) dX12_behindTest_75 rfl h
    · have h := h.2 c1
      refine v_bipush (pc := 40) dX12_behindTest_40 (by decide) ?_
      refine v_goto (pc := 42) (tgt := 47) dX12_behindTest_42 (by decide) ?_
      refine v_aload_n (pc := 47) dX12_behindTest_47 0 rfl ?_
      refine m_getf (pc := 48) (t := 0) (v := (m1 603 23)) dX12_behindTest_48 flX12_278 rfl at603 rfl ?_
      refine m_invV (pc := 51) (mi' := mX12_push) (rest := []) [aI 29, aI (m1 603 23)] dX12_behindTest_51 at603 (by decide) rfl msX12_push mvX12_push lkX12_305 rfl (Nat.le_of_ble_eq_true rfl) (fun hn => CV_mono (h (aaI hn 2 rfl)) (fun m7 h => ?_))
      refine v_aload_n (pc := 54) dX12_behindTest_54 0 rfl ?_
      refine v_iload_n (pc := 55) dX12_behindTest_55 1 rfl ?_
      refine v_ifeq (pc := 56) (tgt := 64) dX12_behindTest_56 (by decide) (fun c1 => ?_) (fun c1 => ?_)
      · have h := h.1 c1
        refine v_bipush (pc := 64) dX12_behindTest_64 (by decide) ?_
        refine v_iconst (pc := 66) dX12_behindTest_66 (by decide) ?_
        refine m_invV (pc := 67) (mi' := mX12_emit) (rest := []) [aI 30, aI 0] dX12_behindTest_67 at603 (by decide) rfl msX12_emit mvX12_emit lkX12_287 rfl (Nat.le_of_ble_eq_true rfl) (fun hn => CV_mono (h) (fun m8 h => ?_))
        refine v_aload_n (pc := 70) dX12_behindTest_70 0 rfl ?_
        refine m_invV (pc := 71) (mi' := mX12_next) (rest := []) [] dX12_behindTest_71 at603 (by decide) rfl msX12_next mvX12_next lkX12_245 rfl (Nat.le_of_ble_eq_true rfl) (fun hn => CV_mono (h) (fun m9 h => ?_))
        refine v_iconst (pc := 74) dX12_behindTest_74 (by decide) ?_
        exact m_retI (pc := 75) dX12_behindTest_75 rfl h
      · have h := h.2 c1
        refine v_bipush (pc := 59) dX12_behindTest_59 (by decide) ?_
        refine v_goto (pc := 61) (tgt := 66) dX12_behindTest_61 (by decide) ?_
        refine v_iconst (pc := 66) dX12_behindTest_66 (by decide) ?_
        refine m_invV (pc := 67) (mi' := mX12_emit) (rest := []) [aI 29, aI 0] dX12_behindTest_67 at603 (by decide) rfl msX12_emit mvX12_emit lkX12_287 rfl (Nat.le_of_ble_eq_true rfl) (fun hn => CV_mono (h) (fun m10 h => ?_))
        refine v_aload_n (pc := 70) dX12_behindTest_70 0 rfl ?_
        refine m_invV (pc := 71) (mi' := mX12_next) (rest := []) [] dX12_behindTest_71 at603 (by decide) rfl msX12_next mvX12_next lkX12_245 rfl (Nat.le_of_ble_eq_true rfl) (fun hn => CV_mono (h) (fun m11 h => ?_))
        refine v_iconst (pc := 74) dX12_behindTest_74 (by decide) ?_
        exact m_retI (pc := 75) dX12_behindTest_75 rfl h
  · have h := h.2 c1
    refine v_iconst (pc := 27) dX12_behindTest_27 (by decide) ?_
    refine v_goto (pc := 28) (tgt := 32) dX12_behindTest_28 (by decide) ?_
    refine m_invV (pc := 32) (mi' := mX12_settle) (rest := []) [aI 2] dX12_behindTest_32 at603 (by decide) rfl msX12_settle mvX12_settle lkX12_342 rfl (Nat.le_of_ble_eq_true rfl) (fun hn => CV_mono (h) (fun m12 h => ?_))
    refine v_aload_n (pc := 35) dX12_behindTest_35 0 rfl ?_
    refine v_iload_n (pc := 36) dX12_behindTest_36 1 rfl ?_
    refine v_ifeq (pc := 37) (tgt := 45) dX12_behindTest_37 (by decide) (fun c1 => ?_) (fun c1 => ?_)
    · have h := h.1 c1
      refine v_bipush (pc := 45) dX12_behindTest_45 (by decide) ?_
      refine v_aload_n (pc := 47) dX12_behindTest_47 0 rfl ?_
      refine m_getf (pc := 48) (t := 0) (v := (m12 603 23)) dX12_behindTest_48 flX12_278 rfl at603 rfl ?_
      refine m_invV (pc := 51) (mi' := mX12_push) (rest := []) [aI 30, aI (m12 603 23)] dX12_behindTest_51 at603 (by decide) rfl msX12_push mvX12_push lkX12_305 rfl (Nat.le_of_ble_eq_true rfl) (fun hn => CV_mono (h (aaI hn 2 rfl)) (fun m13 h => ?_))
      refine v_aload_n (pc := 54) dX12_behindTest_54 0 rfl ?_
      refine v_iload_n (pc := 55) dX12_behindTest_55 1 rfl ?_
      refine v_ifeq (pc := 56) (tgt := 64) dX12_behindTest_56 (by decide) (fun c1 => ?_) (fun c1 => ?_)
      · have h := h.1 c1
        refine v_bipush (pc := 64) dX12_behindTest_64 (by decide) ?_
        refine v_iconst (pc := 66) dX12_behindTest_66 (by decide) ?_
        refine m_invV (pc := 67) (mi' := mX12_emit) (rest := []) [aI 30, aI 0] dX12_behindTest_67 at603 (by decide) rfl msX12_emit mvX12_emit lkX12_287 rfl (Nat.le_of_ble_eq_true rfl) (fun hn => CV_mono (h) (fun m14 h => ?_))
        refine v_aload_n (pc := 70) dX12_behindTest_70 0 rfl ?_
        refine m_invV (pc := 71) (mi' := mX12_next) (rest := []) [] dX12_behindTest_71 at603 (by decide) rfl msX12_next mvX12_next lkX12_245 rfl (Nat.le_of_ble_eq_true rfl) (fun hn => CV_mono (h) (fun m15 h => ?_))
        refine v_iconst (pc := 74) dX12_behindTest_74 (by decide) ?_
        exact m_retI (pc := 75) dX12_behindTest_75 rfl h
      · have h := h.2 c1
        refine v_bipush (pc := 59) dX12_behindTest_59 (by decide) ?_
        refine v_goto (pc := 61) (tgt := 66) dX12_behindTest_61 (by decide) ?_
        refine v_iconst (pc := 66) dX12_behindTest_66 (by decide) ?_
        refine m_invV (pc := 67) (mi' := mX12_emit) (rest := []) [aI 29, aI 0] dX12_behindTest_67 at603 (by decide) rfl msX12_emit mvX12_emit lkX12_287 rfl (Nat.le_of_ble_eq_true rfl) (fun hn => CV_mono (h) (fun m16 h => ?_))
        refine v_aload_n (pc := 70) dX12_behindTest_70 0 rfl ?_
        refine m_invV (pc := 71) (mi' := mX12_next) (rest := []) [] dX12_behindTest_71 at603 (by decide) rfl msX12_next mvX12_next lkX12_245 rfl (Nat.le_of_ble_eq_true rfl) (fun hn => CV_mono (h) (fun m17 h => ?_))
        refine v_iconst (pc := 74) dX12_behindTest_74 (by decide) ?_
        exact m_retI (pc := 75) dX12_behindTest_75 rfl h
    · have h := h.2 c1
      refine v_bipush (pc := 40) dX12_behindTest_40 (by decide) ?_
      refine v_goto (pc := 42) (tgt := 47) dX12_behindTest_42 (by decide) ?_
      refine v_aload_n (pc := 47) dX12_behindTest_47 0 rfl ?_
      refine m_getf (pc := 48) (t := 0) (v := (m12 603 23)) dX12_behindTest_48 flX12_278 rfl at603 rfl ?_
      refine m_invV (pc := 51) (mi' := mX12_push) (rest := []) [aI 29, aI (m12 603 23)] dX12_behindTest_51 at603 (by decide) rfl msX12_push mvX12_push lkX12_305 rfl (Nat.le_of_ble_eq_true rfl) (fun hn => CV_mono (h (aaI hn 2 rfl)) (fun m18 h => ?_))
      refine v_aload_n (pc := 54) dX12_behindTest_54 0 rfl ?_
      refine v_iload_n (pc := 55) dX12_behindTest_55 1 rfl ?_
      refine v_ifeq (pc := 56) (tgt := 64) dX12_behindTest_56 (by decide) (fun c1 => ?_) (fun c1 => ?_)
      · have h := h.1 c1
        refine v_bipush (pc := 64) dX12_behindTest_64 (by decide) ?_
        refine v_iconst (pc := 66) dX12_behindTest_66 (by decide) ?_
        refine m_invV (pc := 67) (mi' := mX12_emit) (rest := []) [aI 30, aI 0] dX12_behindTest_67 at603 (by decide) rfl msX12_emit mvX12_emit lkX12_287 rfl (Nat.le_of_ble_eq_true rfl) (fun hn => CV_mono (h) (fun m19 h => ?_))
        refine v_aload_n (pc := 70) dX12_behindTest_70 0 rfl ?_
        refine m_invV (pc := 71) (mi' := mX12_next) (rest := []) [] dX12_behindTest_71 at603 (by decide) rfl msX12_next mvX12_next lkX12_245 rfl (Nat.le_of_ble_eq_true rfl) (fun hn => CV_mono (h) (fun m20 h => ?_))
        refine v_iconst (pc := 74) dX12_behindTest_74 (by decide) ?_
        exact m_retI (pc := 75) dX12_behindTest_75 rfl h
      · have h := h.2 c1
        refine v_bipush (pc := 59) dX12_behindTest_59 (by decide) ?_
        refine v_goto (pc := 61) (tgt := 66) dX12_behindTest_61 (by decide) ?_
        refine v_iconst (pc := 66) dX12_behindTest_66 (by decide) ?_
        refine m_invV (pc := 67) (mi' := mX12_emit) (rest := []) [aI 29, aI 0] dX12_behindTest_67 at603 (by decide) rfl msX12_emit mvX12_emit lkX12_287 rfl (Nat.le_of_ble_eq_true rfl) (fun hn => CV_mono (h) (fun m21 h => ?_))
        refine v_aload_n (pc := 70) dX12_behindTest_70 0 rfl ?_
        refine m_invV (pc := 71) (mi' := mX12_next) (rest := []) [] dX12_behindTest_71 at603 (by decide) rfl msX12_next mvX12_next lkX12_245 rfl (Nat.le_of_ble_eq_true rfl) (fun hn => CV_mono (h) (fun m22 h => ?_))
        refine v_iconst (pc := 74) dX12_behindTest_74 (by decide) ?_
        exact m_retI (pc := 75) dX12_behindTest_75 rfl h
set_option maxRecDepth 20000 in
theorem rX12_behindTest_128 {E : EN} (hE : Ep E) {k : Nat} {mem : Mm} {Q : Int → Mm → Prop}
    (h : Q 2 mem) :
    VM E mX12_behindTest (k + 1) mem 128 [] [] (retI Q) := by
  refine v_iconst (pc := 128) dX12_behindTest_128 (by decide) ?_
  exact m_retI (pc := 129) dX12_behindTest_129 rfl h

theorem dX12_readExpression_0 : decode cX12_readExpression 0 = .ok (.aload_n 0, 1) := by decide +kernel
theorem dX12_readExpression_1 : decode cX12_readExpression 1 = .ok (.iconst 0, 1) := by decide +kernel
theorem dX12_readExpression_2 : decode cX12_readExpression 2 = .ok (.putfield 281, 3) := by decide +kernel
theorem dX12_readExpression_5 : decode cX12_readExpression 5 = .ok (.aload_n 0, 1) := by decide +kernel
theorem dX12_readExpression_6 : decode cX12_readExpression 6 = .ok (.iconst 0, 1) := by decide +kernel
theorem dX12_readExpression_7 : decode cX12_readExpression 7 = .ok (.putfield 302, 3) := by decide +kernel
theorem dX12_readExpression_10 : decode cX12_readExpression 10 = .ok (.iload_n 1, 1) := by decide +kernel
theorem dX12_readExpression_11 : decode cX12_readExpression 11 = .ok (.ifCond .eq 7, 3) := by decide +kernel
theorem dX12_readExpression_14 : decode cX12_readExpression 14 = .ok (.iconst 0, 1) := by decide +kernel
theorem dX12_readExpression_15 : decode cX12_readExpression 15 = .ok (.goto 4, 3) := by decide +kernel
theorem dX12_readExpression_18 : decode cX12_readExpression 18 = .ok (.iconst 1, 1) := by decide +kernel
theorem dX12_readExpression_19 : decode cX12_readExpression 19 = .ok (.istore_n 2, 1) := by decide +kernel
theorem dX12_readExpression_20 : decode cX12_readExpression 20 = .ok (.aload_n 0, 1) := by decide +kernel
theorem dX12_readExpression_21 : decode cX12_readExpression 21 = .ok (.getfield 241, 3) := by decide +kernel
theorem dX12_readExpression_24 : decode cX12_readExpression 24 = .ok (.ifCond .ne 52, 3) := by decide +kernel
theorem dX12_readExpression_27 : decode cX12_readExpression 27 = .ok (.iload_n 2, 1) := by decide +kernel
theorem dX12_readExpression_28 : decode cX12_readExpression 28 = .ok (.iconst 4, 1) := by decide +kernel
theorem dX12_readExpression_29 : decode cX12_readExpression 29 = .ok (.if_icmp .eq 47, 3) := by decide +kernel
theorem dX12_readExpression_32 : decode cX12_readExpression 32 = .ok (.iload_n 2, 1) := by decide +kernel
theorem dX12_readExpression_33 : decode cX12_readExpression 33 = .ok (.ifCond .ne 10, 3) := by decide +kernel
theorem dX12_readExpression_36 : decode cX12_readExpression 36 = .ok (.aload_n 0, 1) := by decide +kernel
theorem dX12_readExpression_37 : decode cX12_readExpression 37 = .ok (.invokevirtual 356, 3) := by decide +kernel
theorem dX12_readExpression_40 : decode cX12_readExpression 40 = .ok (.goto 32, 3) := by decide +kernel
theorem dX12_readExpression_43 : decode cX12_readExpression 43 = .ok (.iload_n 2, 1) := by decide +kernel
theorem dX12_readExpression_44 : decode cX12_readExpression 44 = .ok (.iconst 1, 1) := by decide +kernel
theorem dX12_readExpression_45 : decode cX12_readExpression 45 = .ok (.if_icmp .ne 10, 3) := by decide +kernel
theorem dX12_readExpression_48 : decode cX12_readExpression 48 = .ok (.aload_n 0, 1) := by decide +kernel
theorem dX12_readExpression_49 : decode cX12_readExpression 49 = .ok (.invokevirtual 339, 3) := by decide +kernel
theorem dX12_readExpression_52 : decode cX12_readExpression 52 = .ok (.goto 20, 3) := by decide +kernel
theorem dX12_readExpression_55 : decode cX12_readExpression 55 = .ok (.iload_n 2, 1) := by decide +kernel
theorem dX12_readExpression_56 : decode cX12_readExpression 56 = .ok (.iconst 3, 1) := by decide +kernel
theorem dX12_readExpression_57 : decode cX12_readExpression 57 = .ok (.if_icmp .ne 11, 3) := by decide +kernel
theorem dX12_readExpression_60 : decode cX12_readExpression 60 = .ok (.aload_n 0, 1) := by decide +kernel
theorem dX12_readExpression_61 : decode cX12_readExpression 61 = .ok (.iload_n 1, 1) := by decide +kernel
theorem dX12_readExpression_62 : decode cX12_readExpression 62 = .ok (.invokevirtual 359, 3) := by decide +kernel
theorem dX12_readExpression_65 : decode cX12_readExpression 65 = .ok (.goto 7, 3) := by decide +kernel
theorem dX12_readExpression_68 : decode cX12_readExpression 68 = .ok (.aload_n 0, 1) := by decide +kernel
theorem dX12_readExpression_69 : decode cX12_readExpression 69 = .ok (.invokevirtual 363, 3) := by decide +kernel
theorem dX12_readExpression_72 : decode cX12_readExpression 72 = .ok (.istore_n 2, 1) := by decide +kernel
theorem dX12_readExpression_73 : decode cX12_readExpression 73 = .ok (.goto (-53), 3) := by decide +kernel
theorem dX12_readExpression_76 : decode cX12_readExpression 76 = .ok (.aload_n 0, 1) := by decide +kernel
theorem dX12_readExpression_77 : decode cX12_readExpression 77 = .ok (.iconst 1, 1) := by decide +kernel
theorem dX12_readExpression_78 : decode cX12_readExpression 78 = .ok (.invokevirtual 342, 3) := by decide +kernel
theorem dX12_readExpression_81 : decode cX12_readExpression 81 = .ok (.return_, 1) := by decide +kernel
set_option maxRecDepth 20000 in
theorem rX12_readExpression_0 {E : EN} (hE : Ep E) {k : Nat} {mem : Mm} {Q : Mm → Prop} {p0 : Int}
    (h : ((p0 = 0 → VM E mX12_readExpression (k + 1) (aUp (aUp mem 603 29 0) 603 30 0) 20 [(0, aR 603), (1, aI p0), (2, aI 1)] [] (retV Q)) ∧ (¬ p0 = 0 → VM E mX12_readExpression (k + 1) (aUp (aUp mem 603 29 0) 603 30 0) 20 [(0, aR 603), (1, aI p0), (2, aI 0)] [] (retV Q)))) :
    VM E mX12_readExpression (k + 1) mem 0 [(0, aR 603), (1, aI p0)] [] (retV Q) := by
  refine v_aload_n (pc := 0) dX12_readExpression_0 0 rfl ?_
  refine v_iconst (pc := 1) dX12_readExpression_1 (by decide) ?_
  refine v_putf (pc := 2) dX12_readExpression_2 flX12_281 ⟨_, _, rfl, Or.inl rfl⟩ rfl (by decide) (fun q => nomatch q) (Or.inl fun _ => rfl) at603 ?_
  refine v_aload_n (pc := 5) dX12_readExpression_5 0 rfl ?_
  refine v_iconst (pc := 6) dX12_readExpression_6 (by decide) ?_
  refine v_putf (pc := 7) dX12_readExpression_7 flX12_302 ⟨_, _, rfl, Or.inl rfl⟩ rfl (by decide) (fun q => nomatch q) (Or.inl fun _ => rfl) at603 ?_
  refine v_iload_n (pc := 10) dX12_readExpression_10 1 rfl ?_
  refine v_ifeq (pc := 11) (tgt := 18) dX12_readExpression_11 (by decide) (fun c1 => ?_) (fun c1 => ?_)
  · have h := h.1 c1
    refine v_iconst (pc := 18) dX12_readExpression_18 (by decide) ?_
    refine v_istore_n (pc := 19) (al2 := [(2, aI 1), (0, aR 603), (1, aI p0)]) dX12_readExpression_19 (by decide) rfl ?_
    exact VG_sub (al' := [(0, aR 603), (1, aI p0), (2, aI 1)]) [1, 2, 0] rfl h
  · have h := h.2 c1
    refine v_iconst (pc := 14) dX12_readExpression_14 (by decide) ?_
    refine v_goto (pc := 15) (tgt := 19) dX12_readExpression_15 (by decide) ?_
    refine v_istore_n (pc := 19) (al2 := [(2, aI 0), (0, aR 603), (1, aI p0)]) dX12_readExpression_19 (by decide) rfl ?_
    exact VG_sub (al' := [(0, aR 603), (1, aI p0), (2, aI 0)]) [1, 2, 0] rfl h
theorem eX12_readExpression {E : EN} {k : Nat} {mem : Mm} {Q : Mm → Prop} {p0 : Int} (hr_p0 : R32 p0) (h : VM E mX12_readExpression (k + 1) mem 0 [(0, aR 603), (1, aI p0)] [] (retV Q)) : CV E mX12_readExpression (k + 1) mem [aR 603, aI p0] Q := CV_of rfl (Nat.le_of_ble_eq_true rfl) h (aNs_c (aNr_R _) (aNs_c (aNr_I hr_p0) (fun _ q => nomatch q)))
set_option maxRecDepth 20000 in
theorem rX12_readExpression_20 {E : EN} (hE : Ep E) {k : Nat} {mem : Mm} {Q : Mm → Prop} {p0 x2 : Int}
    (h : ((¬ (mem 603 19) = 0 → (CV E mX12_settle k mem [aR 603, aI 1] (fun m1 => Q m1))) ∧ ((mem 603 19) = 0 → ((x2 = 4 → (CV E mX12_settle k mem [aR 603, aI 1] (fun m2 => Q m2))) ∧ (¬ x2 = 4 → ((¬ x2 = 0 → ((¬ x2 = 1 → ((¬ x2 = 3 → (CI E mX12_behindTest k mem [aR 603] (fun r4 m3 => VM E mX12_readExpression (k + 1) m3 20 [(0, aR 603), (1, aI p0), (2, aI r4)] [] (retV Q)))) ∧ (x2 = 3 → (R32 p0 → CI E mX12_behindSum k mem [aR 603, aI p0] (fun r6 m5 => VM E mX12_readExpression (k + 1) m5 20 [(0, aR 603), (1, aI p0), (2, aI r6)] [] (retV Q)))))) ∧ (x2 = 1 → (CI E mX12_readPart k mem [aR 603] (fun r8 m7 => VM E mX12_readExpression (k + 1) m7 20 [(0, aR 603), (1, aI p0), (2, aI r8)] [] (retV Q)))))) ∧ (x2 = 0 → (CI E mX12_readPlain k mem [aR 603] (fun r10 m9 => VM E mX12_readExpression (k + 1) m9 20 [(0, aR 603), (1, aI p0), (2, aI r10)] [] (retV Q)))))))))) :
    VM E mX12_readExpression (k + 1) mem 20 [(0, aR 603), (1, aI p0), (2, aI x2)] [] (retV Q) := by
  refine v_aload_n (pc := 20) dX12_readExpression_20 0 rfl ?_
  refine m_getf (pc := 21) (t := 0) (v := (mem 603 19)) dX12_readExpression_21 flX12_241 rfl at603 rfl ?_
  refine v_ifne (pc := 24) (tgt := 76) dX12_readExpression_24 (by decide) (fun c1 => ?_) (fun c1 => ?_)
  · have h := h.1 c1
    refine v_aload_n (pc := 76) dX12_readExpression_76 0 rfl ?_
    refine v_iconst (pc := 77) dX12_readExpression_77 (by decide) ?_
    refine m_invV (pc := 78) (mi' := mX12_settle) (rest := []) [aI 1] dX12_readExpression_78 at603 (by decide) rfl msX12_settle mvX12_settle lkX12_342 rfl (Nat.le_of_ble_eq_true rfl) (fun hn => CV_mono (h) (fun m1 h => ?_))
    exact m_retV (pc := 81) dX12_readExpression_81 rfl h
  · have h := h.2 c1
    refine v_iload_n (pc := 27) dX12_readExpression_27 2 rfl ?_
    refine v_iconst (pc := 28) dX12_readExpression_28 (by decide) ?_
    refine v_icmpeq (pc := 29) (tgt := 76) dX12_readExpression_29 (by decide) (fun c1 => ?_) (fun c1 => ?_)
    · have h := h.1 c1
      refine v_aload_n (pc := 76) dX12_readExpression_76 0 rfl ?_
      refine v_iconst (pc := 77) dX12_readExpression_77 (by decide) ?_
      refine m_invV (pc := 78) (mi' := mX12_settle) (rest := []) [aI 1] dX12_readExpression_78 at603 (by decide) rfl msX12_settle mvX12_settle lkX12_342 rfl (Nat.le_of_ble_eq_true rfl) (fun hn => CV_mono (h) (fun m2 h => ?_))
      exact m_retV (pc := 81) dX12_readExpression_81 rfl h
    · have h := h.2 c1
      refine v_iload_n (pc := 32) dX12_readExpression_32 2 rfl ?_
      refine v_ifne (pc := 33) (tgt := 43) dX12_readExpression_33 (by decide) (fun c1 => ?_) (fun c1 => ?_)
      · have h := h.1 c1
        refine v_iload_n (pc := 43) dX12_readExpression_43 2 rfl ?_
        refine v_iconst (pc := 44) dX12_readExpression_44 (by decide) ?_
        refine v_icmpne (pc := 45) (tgt := 55) dX12_readExpression_45 (by decide) (fun c1 => ?_) (fun c1 => ?_)
        · have h := h.1 c1
          refine v_iload_n (pc := 55) dX12_readExpression_55 2 rfl ?_
          refine v_iconst (pc := 56) dX12_readExpression_56 (by decide) ?_
          refine v_icmpne (pc := 57) (tgt := 68) dX12_readExpression_57 (by decide) (fun c1 => ?_) (fun c1 => ?_)
          · have h := h.1 c1
            refine v_aload_n (pc := 68) dX12_readExpression_68 0 rfl ?_
            refine m_invI (pc := 69) (mi' := mX12_behindTest) (rest := []) [] dX12_readExpression_69 at603 (by decide) rfl msX12_behindTest mvX12_behindTest lkX12_363 rfl (Nat.le_of_ble_eq_true rfl) (fun hn => CI_mono (h) (fun r4 m3 h => ?_))
            refine v_istore_n (pc := 72) (al2 := [(2, aI r4), (0, aR 603), (1, aI p0)]) dX12_readExpression_72 (by decide) rfl ?_
            refine v_goto (pc := 73) (tgt := 20) dX12_readExpression_73 (by decide) ?_
            exact VG_sub (al' := [(0, aR 603), (1, aI p0), (2, aI r4)]) [1, 2, 0] rfl h
          · have h := h.2 c1
            refine v_aload_n (pc := 60) dX12_readExpression_60 0 rfl ?_
            refine v_iload_n (pc := 61) dX12_readExpression_61 1 rfl ?_
            refine m_invI (pc := 62) (mi' := mX12_behindSum) (rest := []) [aI p0] dX12_readExpression_62 at603 (by decide) rfl msX12_behindSum mvX12_behindSum lkX12_359 rfl (Nat.le_of_ble_eq_true rfl) (fun hn => CI_mono (h (aaI hn 1 rfl)) (fun r6 m5 h => ?_))
            refine v_goto (pc := 65) (tgt := 72) dX12_readExpression_65 (by decide) ?_
            refine v_istore_n (pc := 72) (al2 := [(2, aI r6), (0, aR 603), (1, aI p0)]) dX12_readExpression_72 (by decide) rfl ?_
            refine v_goto (pc := 73) (tgt := 20) dX12_readExpression_73 (by decide) ?_
            exact VG_sub (al' := [(0, aR 603), (1, aI p0), (2, aI r6)]) [1, 2, 0] rfl h
        · have h := h.2 c1
          refine v_aload_n (pc := 48) dX12_readExpression_48 0 rfl ?_
          refine m_invI (pc := 49) (mi' := mX12_readPart) (rest := []) [] dX12_readExpression_49 at603 (by decide) rfl msX12_readPart mvX12_readPart lkX12_339 rfl (Nat.le_of_ble_eq_true rfl) (fun hn => CI_mono (h) (fun r8 m7 h => ?_))
          refine v_goto (pc := 52) (tgt := 72) dX12_readExpression_52 (by decide) ?_
          refine v_istore_n (pc := 72) (al2 := [(2, aI r8), (0, aR 603), (1, aI p0)]) dX12_readExpression_72 (by decide) rfl ?_
          refine v_goto (pc := 73) (tgt := 20) dX12_readExpression_73 (by decide) ?_
          exact VG_sub (al' := [(0, aR 603), (1, aI p0), (2, aI r8)]) [1, 2, 0] rfl h
      · have h := h.2 c1
        refine v_aload_n (pc := 36) dX12_readExpression_36 0 rfl ?_
        refine m_invI (pc := 37) (mi' := mX12_readPlain) (rest := []) [] dX12_readExpression_37 at603 (by decide) rfl msX12_readPlain mvX12_readPlain lkX12_356 rfl (Nat.le_of_ble_eq_true rfl) (fun hn => CI_mono (h) (fun r10 m9 h => ?_))
        refine v_goto (pc := 40) (tgt := 72) dX12_readExpression_40 (by decide) ?_
        refine v_istore_n (pc := 72) (al2 := [(2, aI r10), (0, aR 603), (1, aI p0)]) dX12_readExpression_72 (by decide) rfl ?_
        refine v_goto (pc := 73) (tgt := 20) dX12_readExpression_73 (by decide) ?_
        exact VG_sub (al' := [(0, aR 603), (1, aI p0), (2, aI r10)]) [1, 2, 0] rfl h

theorem dX12_beginText_0 : decode cX12_beginText 0 = .ok (.aload_n 0, 1) := by decide +kernel
theorem dX12_beginText_1 : decode cX12_beginText 1 = .ok (.iload_n 1, 1) := by decide +kernel
theorem dX12_beginText_2 : decode cX12_beginText 2 = .ok (.putfield 317, 3) := by decide +kernel
theorem dX12_beginText_5 : decode cX12_beginText 5 = .ok (.aload_n 0, 1) := by decide +kernel
theorem dX12_beginText_6 : decode cX12_beginText 6 = .ok (.invokevirtual 366, 3) := by decide +kernel
theorem dX12_beginText_9 : decode cX12_beginText 9 = .ok (.aload_n 0, 1) := by decide +kernel
theorem dX12_beginText_10 : decode cX12_beginText 10 = .ok (.iconst 0, 1) := by decide +kernel
theorem dX12_beginText_11 : decode cX12_beginText 11 = .ok (.putfield 369, 3) := by decide +kernel
theorem dX12_beginText_14 : decode cX12_beginText 14 = .ok (.aload_n 0, 1) := by decide +kernel
theorem dX12_beginText_15 : decode cX12_beginText 15 = .ok (.iconst 0, 1) := by decide +kernel
theorem dX12_beginText_16 : decode cX12_beginText 16 = .ok (.putfield 278, 3) := by decide +kernel
theorem dX12_beginText_19 : decode cX12_beginText 19 = .ok (.aload_n 0, 1) := by decide +kernel
theorem dX12_beginText_20 : decode cX12_beginText 20 = .ok (.iconst 0, 1) := by decide +kernel
theorem dX12_beginText_21 : decode cX12_beginText 21 = .ok (.putfield 308, 3) := by decide +kernel
theorem dX12_beginText_24 : decode cX12_beginText 24 = .ok (.return_, 1) := by decide +kernel
set_option maxRecDepth 20000 in
theorem rX12_beginText_0 {E : EN} (hE : Ep E) {k : Nat} {mem : Mm} {Q : Mm → Prop} {p0 : Int}
    (h : (p0 = 0 ∨ p0 = 1) ∧ (CV E mX12_begin k (aUp mem 603 20 p0) [aR 603] (fun m2 => Q (aUp (aUp (aUp m2 603 21 0) 603 23 0) 603 26 0)))) :
    VM E mX12_beginText (k + 1) mem 0 [(0, aR 603), (1, aI p0)] [] (retV Q) := by
  refine v_aload_n (pc := 0) dX12_beginText_0 0 rfl ?_
  refine v_iload_n (pc := 1) dX12_beginText_1 1 rfl ?_
  obtain ⟨o1, h⟩ := h
  refine v_putf (pc := 2) dX12_beginText_2 flX12_317 ⟨_, _, rfl, Or.inl rfl⟩ rfl (by decide) (fun _ => o1) (Or.inl fun _ => rfl) at603 ?_
  refine v_aload_n (pc := 5) dX12_beginText_5 0 rfl ?_
  refine m_invV (pc := 6) (mi' := mX12_begin) (rest := []) [] dX12_beginText_6 at603 (by decide) rfl msX12_begin mvX12_begin lkX12_366 rfl (Nat.le_of_ble_eq_true rfl) (fun hn => CV_mono (h) (fun m2 h => ?_))
  refine v_aload_n (pc := 9) dX12_beginText_9 0 rfl ?_
  refine v_iconst (pc := 10) dX12_beginText_10 (by decide) ?_
  refine v_putf (pc := 11) dX12_beginText_11 flX12_369 ⟨_, _, rfl, Or.inl rfl⟩ rfl (by decide) (fun q => nomatch q) (Or.inl fun _ => rfl) at603 ?_
  refine v_aload_n (pc := 14) dX12_beginText_14 0 rfl ?_
  refine v_iconst (pc := 15) dX12_beginText_15 (by decide) ?_
  refine v_putf (pc := 16) dX12_beginText_16 flX12_278 ⟨_, _, rfl, Or.inl rfl⟩ rfl (by decide) (fun q => nomatch q) (Or.inl fun _ => rfl) at603 ?_
  refine v_aload_n (pc := 19) dX12_beginText_19 0 rfl ?_
  refine v_iconst (pc := 20) dX12_beginText_20 (by decide) ?_
  refine v_putf (pc := 21) dX12_beginText_21 flX12_308 ⟨_, _, rfl, Or.inl rfl⟩ rfl (by decide) (fun q => nomatch q) (Or.inl fun _ => rfl) at603 ?_
  exact m_retV (pc := 24) dX12_beginText_24 rfl h
theorem eX12_beginText {E : EN} {k : Nat} {mem : Mm} {Q : Mm → Prop} {p0 : Int} (hr_p0 : R32 p0) (h : VM E mX12_beginText (k + 1) mem 0 [(0, aR 603), (1, aI p0)] [] (retV Q)) : CV E mX12_beginText (k + 1) mem [aR 603, aI p0] Q := CV_of rfl (Nat.le_of_ble_eq_true rfl) h (aNs_c (aNr_R _) (aNs_c (aNr_I hr_p0) (fun _ q => nomatch q)))

theorem dX12_endText_0 : decode cX12_endText 0 = .ok (.aload_n 0, 1) := by decide +kernel
theorem dX12_endText_1 : decode cX12_endText 1 = .ok (.getfield 241, 3) := by decide +kernel
theorem dX12_endText_4 : decode cX12_endText 4 = .ok (.ifCond .ne 15, 3) := by decide +kernel
theorem dX12_endText_7 : decode cX12_endText 7 = .ok (.aload_n 0, 1) := by decide +kernel
theorem dX12_endText_8 : decode cX12_endText 8 = .ok (.getfield 261, 3) := by decide +kernel
theorem dX12_endText_11 : decode cX12_endText 11 = .ok (.ifCond .eq 8, 3) := by decide +kernel
theorem dX12_endText_14 : decode cX12_endText 14 = .ok (.aload_n 0, 1) := by decide +kernel
theorem dX12_endText_15 : decode cX12_endText 15 = .ok (.iconst 0, 1) := by decide +kernel
theorem dX12_endText_16 : decode cX12_endText 16 = .ok (.invokevirtual 274, 3) := by decide +kernel
theorem dX12_endText_19 : decode cX12_endText 19 = .ok (.aload_n 0, 1) := by decide +kernel
theorem dX12_endText_20 : decode cX12_endText 20 = .ok (.iconst 0, 1) := by decide +kernel
theorem dX12_endText_21 : decode cX12_endText 21 = .ok (.putfield 317, 3) := by decide +kernel
theorem dX12_endText_24 : decode cX12_endText 24 = .ok (.aload_n 0, 1) := by decide +kernel
theorem dX12_endText_25 : decode cX12_endText 25 = .ok (.iconst 0, 1) := by decide +kernel
theorem dX12_endText_26 : decode cX12_endText 26 = .ok (.putfield 229, 3) := by decide +kernel
theorem dX12_endText_29 : decode cX12_endText 29 = .ok (.return_, 1) := by decide +kernel
set_option maxRecDepth 20000 in
theorem rX12_endText_0 {E : EN} (hE : Ep E) {k : Nat} {mem : Mm} {Q : Mm → Prop}
    (h : ((¬ (mem 603 19) = 0 → Q (aUp (aUp mem 603 20 0) 603 13 0)) ∧ ((mem 603 19) = 0 → (((mem 603 16) = 0 → Q (aUp (aUp mem 603 20 0) 603 13 0)) ∧ (¬ (mem 603 16) = 0 → (CV E mX12_must k mem [aR 603, aI 0] (fun m1 => Q (aUp (aUp m1 603 20 0) 603 13 0)))))))) :
    VM E mX12_endText (k + 1) mem 0 [(0, aR 603)] [] (retV Q) := by
  refine v_aload_n (pc := 0) dX12_endText_0 0 rfl ?_
  refine m_getf (pc := 1) (t := 0) (v := (mem 603 19)) dX12_endText_1 flX12_241 rfl at603 rfl ?_
  refine v_ifne (pc := 4) (tgt := 19) dX12_endText_4 (by decide) (fun c1 => ?_) (fun c1 => ?_)
  · have h := h.1 c1
    refine v_aload_n (pc := 19) dX12_endText_19 0 rfl ?_
    refine v_iconst (pc := 20) dX12_endText_20 (by decide) ?_
    refine v_putf (pc := 21) dX12_endText_21 flX12_317 ⟨_, _, rfl, Or.inl rfl⟩ rfl (by decide) (fun _ => by decide) (Or.inl fun _ => rfl) at603 ?_
    refine v_aload_n (pc := 24) dX12_endText_24 0 rfl ?_
    refine v_iconst (pc := 25) dX12_endText_25 (by decide) ?_
    refine v_putf (pc := 26) dX12_endText_26 flX12_229 ⟨_, _, rfl, Or.inl rfl⟩ rfl (by decide) (fun q => nomatch q) (Or.inl fun _ => rfl) at603 ?_
    exact m_retV (pc := 29) dX12_endText_29 rfl h
  · have h := h.2 c1
    refine v_aload_n (pc := 7) dX12_endText_7 0 rfl ?_
    refine m_getf (pc := 8) (t := 0) (v := (mem 603 16)) dX12_endText_8 flX12_261 rfl at603 rfl ?_
    refine v_ifeq (pc := 11) (tgt := 19) dX12_endText_11 (by decide) (fun c1 => ?_) (fun c1 => ?_)
    · have h := h.1 c1
      refine v_aload_n (pc := 19) dX12_endText_19 0 rfl ?_
      refine v_iconst (pc := 20) dX12_endText_20 (by decide) ?_
      refine v_putf (pc := 21) dX12_endText_21 flX12_317 ⟨_, _, rfl, Or.inl rfl⟩ rfl (by decide) (fun _ => by decide) (Or.inl fun _ => rfl) at603 ?_
      refine v_aload_n (pc := 24) dX12_endText_24 0 rfl ?_
      refine v_iconst (pc := 25) dX12_endText_25 (by decide) ?_
      refine v_putf (pc := 26) dX12_endText_26 flX12_229 ⟨_, _, rfl, Or.inl rfl⟩ rfl (by decide) (fun q => nomatch q) (Or.inl fun _ => rfl) at603 ?_
      exact m_retV (pc := 29) dX12_endText_29 rfl h
    · have h := h.2 c1
      refine v_aload_n (pc := 14) dX12_endText_14 0 rfl ?_
      refine v_iconst (pc := 15) dX12_endText_15 (by decide) ?_
      refine m_invV (pc := 16) (mi' := mX12_must) (rest := []) [aI 0] dX12_endText_16 at603 (by decide) rfl msX12_must mvX12_must lkX12_274 rfl (Nat.le_of_ble_eq_true rfl) (fun hn => CV_mono (h) (fun m1 h => ?_))
      refine v_aload_n (pc := 19) dX12_endText_19 0 rfl ?_
      refine v_iconst (pc := 20) dX12_endText_20 (by decide) ?_
      refine v_putf (pc := 21) dX12_endText_21 flX12_317 ⟨_, _, rfl, Or.inl rfl⟩ rfl (by decide) (fun _ => by decide) (Or.inl fun _ => rfl) at603 ?_
      refine v_aload_n (pc := 24) dX12_endText_24 0 rfl ?_
      refine v_iconst (pc := 25) dX12_endText_25 (by decide) ?_
      refine v_putf (pc := 26) dX12_endText_26 flX12_229 ⟨_, _, rfl, Or.inl rfl⟩ rfl (by decide) (fun q => nomatch q) (Or.inl fun _ => rfl) at603 ?_
      exact m_retV (pc := 29) dX12_endText_29 rfl h
theorem eX12_endText {E : EN} {k : Nat} {mem : Mm} {Q : Mm → Prop}  (h : VM E mX12_endText (k + 1) mem 0 [(0, aR 603)] [] (retV Q)) : CV E mX12_endText (k + 1) mem [aR 603] Q := CV_of rfl (Nat.le_of_ble_eq_true rfl) h (aNs_c (aNr_R _) (fun _ q => nomatch q))
