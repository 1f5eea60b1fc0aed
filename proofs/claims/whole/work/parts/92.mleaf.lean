-- readPart once more, with cuts ahead of leaf and behind it
theorem rjX12_readPart_0 {E : EN} (hE : Ep E) {k : Nat} {mem : Mm} {Q : Int → Mm → Prop}
    (h : (CI E mX12_isSign k mem [aR 603, aI 91] (fun r2 m1 => ((r2 = 0 → (((m1 603 20) = 0 → (CI E mX12_partAt k m1 [aR 603] (fun r4 m3 => ((¬ (m3 603 16) = 2 → VM E mX12_readPart (k + 1) m3 59 [(0, aR 603), (1, aI r4)] [] (retI Q)) ∧ ((m3 603 16) = 2 → ((1000 < (m3 603 17) → VM E mX12_readPart (k + 1) m3 59 [(0, aR 603), (1, aI r4)] [] (retI Q)) ∧ ((m3 603 17) ≤ 1000 → VM E mX12_readPart (k + 1) m3 61 [(0, aR 603), (1, aI r4), (2, aI 1)] [] (retI Q)))))))) ∧ (¬ (m1 603 20) = 0 → (CI E mX12_orderPartAt k m1 [aR 603] (fun r6 m5 => ((¬ (m5 603 16) = 2 → VM E mX12_readPart (k + 1) m5 59 [(0, aR 603), (1, aI r6)] [] (retI Q)) ∧ ((m5 603 16) = 2 → ((1000 < (m5 603 17) → VM E mX12_readPart (k + 1) m5 59 [(0, aR 603), (1, aI r6)] [] (retI Q)) ∧ ((m5 603 17) ≤ 1000 → VM E mX12_readPart (k + 1) m5 61 [(0, aR 603), (1, aI r6), (2, aI 1)] [] (retI Q)))))))))) ∧ (¬ r2 = 0 → (CV E mX12_openBracket k m1 [aR 603, aI 32] (fun m7 => Q 1 m7))))))) :
    VM E mX12_readPart (k + 1) mem 0 [(0, aR 603)] [] (retI Q) := by
  refine v_aload_n (pc := 0) dX12_readPart_0 0 rfl ?_
  refine v_bipush (pc := 1) dX12_readPart_1 (by decide) ?_
  refine m_invI (pc := 3) (mi' := mX12_isSign) (rest := []) [aI 91] dX12_readPart_3 at603 (by decide) rfl msX12_isSign mvX12_isSign lkX12_311 rfl (Nat.le_of_ble_eq_true rfl) (fun hn => CI_mono (h) (fun r2 m1 h => ?_))
  refine v_ifeq (pc := 6) (tgt := 17) dX12_readPart_6 (by decide) (fun c1 => ?_) (fun c1 => ?_)
  · have h := h.1 c1
    refine v_aload_n (pc := 17) dX12_readPart_17 0 rfl ?_
    refine m_getf (pc := 18) (t := 0) (v := (m1 603 20)) dX12_readPart_18 flX12_317 rfl at603 rfl ?_
    refine v_ifeq (pc := 21) (tgt := 31) dX12_readPart_21 (by decide) (fun c1 => ?_) (fun c1 => ?_)
    · have h := h.1 c1
      refine v_aload_n (pc := 31) dX12_readPart_31 0 rfl ?_
      refine m_invI (pc := 32) (mi' := mX12_partAt) (rest := []) [] dX12_readPart_32 at603 (by decide) rfl msX12_partAt mvX12_partAt lkX12_324 rfl (Nat.le_of_ble_eq_true rfl) (fun hn => CI_mono (h) (fun r4 m3 h => ?_))
      refine v_istore_n (pc := 35) (al2 := [(1, aI r4), (0, aR 603)]) dX12_readPart_35 (by decide) rfl ?_
      refine v_aload_n (pc := 36) dX12_readPart_36 1 rfl ?_
      refine m_getf (pc := 37) (t := 0) (v := (m3 603 16)) dX12_readPart_37 flX12_261 rfl at603 rfl ?_
      refine v_iconst (pc := 40) dX12_readPart_40 (by decide) ?_
      refine v_icmpne (pc := 41) (tgt := 59) dX12_readPart_41 (by decide) (fun c1 => ?_) (fun c1 => ?_)
      · have h := h.1 c1
        exact VG_sub (al' := [(0, aR 603), (1, aI r4)]) [1, 0] rfl h
      · have h := h.2 c1
        refine v_aload_n (pc := 44) dX12_readPart_44 1 rfl ?_
        refine m_getf (pc := 45) (t := 1) (v := (m3 603 17)) dX12_readPart_45 flX12_251 rfl at603 rfl ?_
        refine v_ldc2 (pc := 48) (n := 1000) dX12_readPart_48 cnX12_327 (by decide) ?_
        refine v_lcmpgt (pc := 51) (tgt := 59) dX12_readPart_51 dX12_readPart_52 (by decide) (fun c1 => ?_) (fun c1 => ?_)
        · have h := h.1 c1
          exact VG_sub (al' := [(0, aR 603), (1, aI r4)]) [1, 0] rfl h
        · have h := h.2 c1
          refine v_iconst (pc := 55) dX12_readPart_55 (by decide) ?_
          refine v_goto (pc := 56) (tgt := 60) dX12_readPart_56 (by decide) ?_
          refine v_istore_n (pc := 60) (al2 := [(2, aI 1), (1, aI r4), (0, aR 603)]) dX12_readPart_60 (by decide) rfl ?_
          exact VG_sub (al' := [(0, aR 603), (1, aI r4), (2, aI 1)]) [2, 1, 0] rfl h
    · have h := h.2 c1
      refine v_aload_n (pc := 24) dX12_readPart_24 0 rfl ?_
      refine m_invI (pc := 25) (mi' := mX12_orderPartAt) (rest := []) [] dX12_readPart_25 at603 (by decide) rfl msX12_orderPartAt mvX12_orderPartAt lkX12_320 rfl (Nat.le_of_ble_eq_true rfl) (fun hn => CI_mono (h) (fun r6 m5 h => ?_))
      refine v_goto (pc := 28) (tgt := 35) dX12_readPart_28 (by decide) ?_
      refine v_istore_n (pc := 35) (al2 := [(1, aI r6), (0, aR 603)]) dX12_readPart_35 (by decide) rfl ?_
      refine v_aload_n (pc := 36) dX12_readPart_36 1 rfl ?_
      refine m_getf (pc := 37) (t := 0) (v := (m5 603 16)) dX12_readPart_37 flX12_261 rfl at603 rfl ?_
      refine v_iconst (pc := 40) dX12_readPart_40 (by decide) ?_
      refine v_icmpne (pc := 41) (tgt := 59) dX12_readPart_41 (by decide) (fun c1 => ?_) (fun c1 => ?_)
      · have h := h.1 c1
        exact VG_sub (al' := [(0, aR 603), (1, aI r6)]) [1, 0] rfl h
      · have h := h.2 c1
        refine v_aload_n (pc := 44) dX12_readPart_44 1 rfl ?_
        refine m_getf (pc := 45) (t := 1) (v := (m5 603 17)) dX12_readPart_45 flX12_251 rfl at603 rfl ?_
        refine v_ldc2 (pc := 48) (n := 1000) dX12_readPart_48 cnX12_327 (by decide) ?_
        refine v_lcmpgt (pc := 51) (tgt := 59) dX12_readPart_51 dX12_readPart_52 (by decide) (fun c1 => ?_) (fun c1 => ?_)
        · have h := h.1 c1
          exact VG_sub (al' := [(0, aR 603), (1, aI r6)]) [1, 0] rfl h
        · have h := h.2 c1
          refine v_iconst (pc := 55) dX12_readPart_55 (by decide) ?_
          refine v_goto (pc := 56) (tgt := 60) dX12_readPart_56 (by decide) ?_
          refine v_istore_n (pc := 60) (al2 := [(2, aI 1), (1, aI r6), (0, aR 603)]) dX12_readPart_60 (by decide) rfl ?_
          exact VG_sub (al' := [(0, aR 603), (1, aI r6), (2, aI 1)]) [2, 1, 0] rfl h
  · have h := h.2 c1
    refine v_aload_n (pc := 9) dX12_readPart_9 0 rfl ?_
    refine v_bipush (pc := 10) dX12_readPart_10 (by decide) ?_
    refine m_invV (pc := 12) (mi' := mX12_openBracket) (rest := []) [aI 32] dX12_readPart_12 at603 (by decide) rfl msX12_openBracket mvX12_openBracket lkX12_314 rfl (Nat.le_of_ble_eq_true rfl) (fun hn => CV_mono (h) (fun m7 h => ?_))
    refine v_iconst (pc := 15) dX12_readPart_15 (by decide) ?_
    exact m_retI (pc := 16) dX12_readPart_16 rfl h
theorem rjX12_readPart_59 {E : EN} (hE : Ep E) {k : Nat} {mem : Mm} {Q : Int → Mm → Prop} {x1 : Int}
    (h : VM E mX12_readPart (k + 1) mem 61 [(0, aR 603), (1, aI x1), (2, aI 0)] [] (retI Q)) :
    VM E mX12_readPart (k + 1) mem 59 [(0, aR 603), (1, aI x1)] [] (retI Q) := by
  refine v_iconst (pc := 59) dX12_readPart_59 (by decide) ?_
  refine v_istore_n (pc := 60) (al2 := [(2, aI 0), (0, aR 603), (1, aI x1)]) dX12_readPart_60 (by decide) rfl ?_
  exact VG_sub (al' := [(0, aR 603), (1, aI x1), (2, aI 0)]) [1, 2, 0] rfl h
set_option maxRecDepth 20000 in
theorem rjX12_readPart_61 {E : EN} (hE : Ep E) {k : Nat} {mem : Mm} {Q : Int → Mm → Prop} {x1 x2 : Int}
    (h : ((¬ x1 = (-1) → ((¬ x1 = (-1) → ((x2 = 0 → (R32 x1 → CV E mX12_leaf k mem [aR 603, aI 1, aI x1, aI 0] (fun m1 => VM E mX12_readPart (k + 1) m1 102 [(0, aR 603), (1, aI x1)] [] (retI Q)))) ∧ (¬ x2 = 0 → (R32 (mem 603 17)) ∧ (R32 x1 → R32 (mem 603 17) → CV E mX12_leaf k mem [aR 603, aI 1, aI x1, aI (mem 603 17)] (fun m3 => VM E mX12_readPart (k + 1) m3 102 [(0, aR 603), (1, aI x1)] [] (retI Q)))))) ∧ (x1 = (-1) → ((x2 = 0 → (CV E mX12_leaf k mem [aR 603, aI 1, aI 0, aI 0] (fun m4 => VM E mX12_readPart (k + 1) m4 102 [(0, aR 603), (1, aI x1)] [] (retI Q)))) ∧ (¬ x2 = 0 → (R32 (mem 603 17)) ∧ (R32 (mem 603 17) → CV E mX12_leaf k mem [aR 603, aI 1, aI 0, aI (mem 603 17)] (fun m6 => VM E mX12_readPart (k + 1) m6 102 [(0, aR 603), (1, aI x1)] [] (retI Q)))))))) ∧ (x1 = (-1) → ((x2 = 0 → ((¬ x1 = (-1) → ((x2 = 0 → (R32 x1 → CV E mX12_leaf k mem [aR 603, aI 0, aI x1, aI 0] (fun m7 => VM E mX12_readPart (k + 1) m7 102 [(0, aR 603), (1, aI x1)] [] (retI Q)))) ∧ (¬ x2 = 0 → (R32 (mem 603 17)) ∧ (R32 x1 → R32 (mem 603 17) → CV E mX12_leaf k mem [aR 603, aI 0, aI x1, aI (mem 603 17)] (fun m9 => VM E mX12_readPart (k + 1) m9 102 [(0, aR 603), (1, aI x1)] [] (retI Q)))))) ∧ (x1 = (-1) → ((x2 = 0 → (CV E mX12_leaf k mem [aR 603, aI 0, aI 0, aI 0] (fun m10 => VM E mX12_readPart (k + 1) m10 102 [(0, aR 603), (1, aI x1)] [] (retI Q)))) ∧ (¬ x2 = 0 → (R32 (mem 603 17)) ∧ (R32 (mem 603 17) → CV E mX12_leaf k mem [aR 603, aI 0, aI 0, aI (mem 603 17)] (fun m12 => VM E mX12_readPart (k + 1) m12 102 [(0, aR 603), (1, aI x1)] [] (retI Q)))))))) ∧ (¬ x2 = 0 → ((¬ x1 = (-1) → ((x2 = 0 → (R32 x1 → CV E mX12_leaf k mem [aR 603, aI 1, aI x1, aI 0] (fun m13 => VM E mX12_readPart (k + 1) m13 102 [(0, aR 603), (1, aI x1)] [] (retI Q)))) ∧ (¬ x2 = 0 → (R32 (mem 603 17)) ∧ (R32 x1 → R32 (mem 603 17) → CV E mX12_leaf k mem [aR 603, aI 1, aI x1, aI (mem 603 17)] (fun m15 => VM E mX12_readPart (k + 1) m15 102 [(0, aR 603), (1, aI x1)] [] (retI Q)))))) ∧ (x1 = (-1) → ((x2 = 0 → (CV E mX12_leaf k mem [aR 603, aI 1, aI 0, aI 0] (fun m16 => VM E mX12_readPart (k + 1) m16 102 [(0, aR 603), (1, aI x1)] [] (retI Q)))) ∧ (¬ x2 = 0 → (R32 (mem 603 17)) ∧ (R32 (mem 603 17) → CV E mX12_leaf k mem [aR 603, aI 1, aI 0, aI (mem 603 17)] (fun m18 => VM E mX12_readPart (k + 1) m18 102 [(0, aR 603), (1, aI x1)] [] (retI Q)))))))))))) :
    VM E mX12_readPart (k + 1) mem 61 [(0, aR 603), (1, aI x1), (2, aI x2)] [] (retI Q) := by
  refine v_aload_n (pc := 61) dX12_readPart_61 0 rfl ?_
  refine v_iload_n (pc := 62) dX12_readPart_62 1 rfl ?_
  refine v_iconst (pc := 63) dX12_readPart_63 (by decide) ?_
  refine v_icmpne (pc := 64) (tgt := 71) dX12_readPart_64 (by decide) (fun c1 => ?_) (fun c1 => ?_)
  · have h := h.1 c1
    refine v_iconst (pc := 71) dX12_readPart_71 (by decide) ?_
    refine v_goto (pc := 72) (tgt := 76) dX12_readPart_72 (by decide) ?_
    refine v_iload_n (pc := 76) dX12_readPart_76 1 rfl ?_
    refine v_iconst (pc := 77) dX12_readPart_77 (by decide) ?_
    refine v_icmpne (pc := 78) (tgt := 85) dX12_readPart_78 (by decide) (fun c1 => ?_) (fun c1 => ?_)
    · have h := h.1 c1
      refine v_iload_n (pc := 85) dX12_readPart_85 1 rfl ?_
      refine v_iload_n (pc := 86) dX12_readPart_86 2 rfl ?_
      refine v_ifeq (pc := 87) (tgt := 98) dX12_readPart_87 (by decide) (fun c1 => ?_) (fun c1 => ?_)
      · have h := h.1 c1
        refine v_iconst (pc := 98) dX12_readPart_98 (by decide) ?_
        refine m_invV (pc := 99) (mi' := mX12_leaf) (rest := []) [aI 1, aI x1, aI 0] dX12_readPart_99 at603 (by decide) rfl msX12_leaf mvX12_leaf lkX12_329 rfl (Nat.le_of_ble_eq_true rfl) (fun hn => CV_mono (h (aaI hn 2 rfl)) (fun m1 h => ?_))
        exact VG_sub (al' := [(0, aR 603), (1, aI x1)]) [0, 1] rfl h
      · have h := h.2 c1
        refine v_aload_n (pc := 90) dX12_readPart_90 0 rfl ?_
        refine m_getf (pc := 91) (t := 1) (v := (mem 603 17)) dX12_readPart_91 flX12_251 rfl at603 rfl ?_
        obtain ⟨o2, h⟩ := h
        refine m_l2i (pc := 94) dX12_readPart_94 o2 ?_
        refine v_goto (pc := 95) (tgt := 99) dX12_readPart_95 (by decide) ?_
        refine m_invV (pc := 99) (mi' := mX12_leaf) (rest := []) [aI 1, aI x1, aI (mem 603 17)] dX12_readPart_99 at603 (by decide) rfl msX12_leaf mvX12_leaf lkX12_329 rfl (Nat.le_of_ble_eq_true rfl) (fun hn => CV_mono (h (aaI hn 2 rfl) (aaI hn 3 rfl)) (fun m3 h => ?_))
        exact VG_sub (al' := [(0, aR 603), (1, aI x1)]) [0, 1] rfl h
    · have h := h.2 c1
      refine v_iconst (pc := 81) dX12_readPart_81 (by decide) ?_
      refine v_goto (pc := 82) (tgt := 86) dX12_readPart_82 (by decide) ?_
      refine v_iload_n (pc := 86) dX12_readPart_86 2 rfl ?_
      refine v_ifeq (pc := 87) (tgt := 98) dX12_readPart_87 (by decide) (fun c1 => ?_) (fun c1 => ?_)
      · have h := h.1 c1
        refine v_iconst (pc := 98) dX12_readPart_98 (by decide) ?_
        refine m_invV (pc := 99) (mi' := mX12_leaf) (rest := []) [aI 1, aI 0, aI 0] dX12_readPart_99 at603 (by decide) rfl msX12_leaf mvX12_leaf lkX12_329 rfl (Nat.le_of_ble_eq_true rfl) (fun hn => CV_mono (h) (fun m4 h => ?_))
        exact VG_sub (al' := [(0, aR 603), (1, aI x1)]) [0, 1] rfl h
      · have h := h.2 c1
        refine v_aload_n (pc := 90) dX12_readPart_90 0 rfl ?_
        refine m_getf (pc := 91) (t := 1) (v := (mem 603 17)) dX12_readPart_91 flX12_251 rfl at603 rfl ?_
        obtain ⟨o5, h⟩ := h
        refine m_l2i (pc := 94) dX12_readPart_94 o5 ?_
        refine v_goto (pc := 95) (tgt := 99) dX12_readPart_95 (by decide) ?_
        refine m_invV (pc := 99) (mi' := mX12_leaf) (rest := []) [aI 1, aI 0, aI (mem 603 17)] dX12_readPart_99 at603 (by decide) rfl msX12_leaf mvX12_leaf lkX12_329 rfl (Nat.le_of_ble_eq_true rfl) (fun hn => CV_mono (h (aaI hn 3 rfl)) (fun m6 h => ?_))
        exact VG_sub (al' := [(0, aR 603), (1, aI x1)]) [0, 1] rfl h
  · have h := h.2 c1
    refine v_iload_n (pc := 67) dX12_readPart_67 2 rfl ?_
    refine v_ifeq (pc := 68) (tgt := 75) dX12_readPart_68 (by decide) (fun c1 => ?_) (fun c1 => ?_)
    · have h := h.1 c1
      refine v_iconst (pc := 75) dX12_readPart_75 (by decide) ?_
      refine v_iload_n (pc := 76) dX12_readPart_76 1 rfl ?_
      refine v_iconst (pc := 77) dX12_readPart_77 (by decide) ?_
      refine v_icmpne (pc := 78) (tgt := 85) dX12_readPart_78 (by decide) (fun c1 => ?_) (fun c1 => ?_)
      · have h := h.1 c1
        refine v_iload_n (pc := 85) dX12_readPart_85 1 rfl ?_
        refine v_iload_n (pc := 86) dX12_readPart_86 2 rfl ?_
        refine v_ifeq (pc := 87) (tgt := 98) dX12_readPart_87 (by decide) (fun c1 => ?_) (fun c1 => ?_)
        · have h := h.1 c1
          refine v_iconst (pc := 98) dX12_readPart_98 (by decide) ?_
          refine m_invV (pc := 99) (mi' := mX12_leaf) (rest := []) [aI 0, aI x1, aI 0] dX12_readPart_99 at603 (by decide) rfl msX12_leaf mvX12_leaf lkX12_329 rfl (Nat.le_of_ble_eq_true rfl) (fun hn => CV_mono (h (aaI hn 2 rfl)) (fun m7 h => ?_))
          exact VG_sub (al' := [(0, aR 603), (1, aI x1)]) [0, 1] rfl h
        · have h := h.2 c1
          refine v_aload_n (pc := 90) dX12_readPart_90 0 rfl ?_
          refine m_getf (pc := 91) (t := 1) (v := (mem 603 17)) dX12_readPart_91 flX12_251 rfl at603 rfl ?_
          obtain ⟨o8, h⟩ := h
          refine m_l2i (pc := 94) dX12_readPart_94 o8 ?_
          refine v_goto (pc := 95) (tgt := 99) dX12_readPart_95 (by decide) ?_
          refine m_invV (pc := 99) (mi' := mX12_leaf) (rest := []) [aI 0, aI x1, aI (mem 603 17)] dX12_readPart_99 at603 (by decide) rfl msX12_leaf mvX12_leaf lkX12_329 rfl (Nat.le_of_ble_eq_true rfl) (fun hn => CV_mono (h (aaI hn 2 rfl) (aaI hn 3 rfl)) (fun m9 h => ?_))
          exact VG_sub (al' := [(0, aR 603), (1, aI x1)]) [0, 1] rfl h
      · have h := h.2 c1
        refine v_iconst (pc := 81) dX12_readPart_81 (by decide) ?_
        refine v_goto (pc := 82) (tgt := 86) dX12_readPart_82 (by decide) ?_
        refine v_iload_n (pc := 86) dX12_readPart_86 2 rfl ?_
        refine v_ifeq (pc := 87) (tgt := 98) dX12_readPart_87 (by decide) (fun c1 => ?_) (fun c1 => ?_)
        · have h := h.1 c1
          refine v_iconst (pc := 98) dX12_readPart_98 (by decide) ?_
          refine m_invV (pc := 99) (mi' := mX12_leaf) (rest := []) [aI 0, aI 0, aI 0] dX12_readPart_99 at603 (by decide) rfl msX12_leaf mvX12_leaf lkX12_329 rfl (Nat.le_of_ble_eq_true rfl) (fun hn => CV_mono (h) (fun m10 h => ?_))
          exact VG_sub (al' := [(0, aR 603), (1, aI x1)]) [0, 1] rfl h
        · have h := h.2 c1
          refine v_aload_n (pc := 90) dX12_readPart_90 0 rfl ?_
          refine m_getf (pc := 91) (t := 1) (v := (mem 603 17)) dX12_readPart_91 flX12_251 rfl at603 rfl ?_
          obtain ⟨o11, h⟩ := h
          refine m_l2i (pc := 94) dX12_readPart_94 o11 ?_
          refine v_goto (pc := 95) (tgt := 99) dX12_readPart_95 (by decide) ?_
          refine m_invV (pc := 99) (mi' := mX12_leaf) (rest := []) [aI 0, aI 0, aI (mem 603 17)] dX12_readPart_99 at603 (by decide) rfl msX12_leaf mvX12_leaf lkX12_329 rfl (Nat.le_of_ble_eq_true rfl) (fun hn => CV_mono (h (aaI hn 3 rfl)) (fun m12 h => ?_))
          exact VG_sub (al' := [(0, aR 603), (1, aI x1)]) [0, 1] rfl h
    · have h := h.2 c1
      refine v_iconst (pc := 71) dX12_readPart_71 (by decide) ?_
      refine v_goto (pc := 72) (tgt := 76) dX12_readPart_72 (by decide) ?_
      refine v_iload_n (pc := 76) dX12_readPart_76 1 rfl ?_
      refine v_iconst (pc := 77) dX12_readPart_77 (by decide) ?_
      refine v_icmpne (pc := 78) (tgt := 85) dX12_readPart_78 (by decide) (fun c1 => ?_) (fun c1 => ?_)
      · have h := h.1 c1
        refine v_iload_n (pc := 85) dX12_readPart_85 1 rfl ?_
        refine v_iload_n (pc := 86) dX12_readPart_86 2 rfl ?_
        refine v_ifeq (pc := 87) (tgt := 98) dX12_readPart_87 (by decide) (fun c1 => ?_) (fun c1 => ?_)
        · have h := h.1 c1
          refine v_iconst (pc := 98) dX12_readPart_98 (by decide) ?_
          refine m_invV (pc := 99) (mi' := mX12_leaf) (rest := []) [aI 1, aI x1, aI 0] dX12_readPart_99 at603 (by decide) rfl msX12_leaf mvX12_leaf lkX12_329 rfl (Nat.le_of_ble_eq_true rfl) (fun hn => CV_mono (h (aaI hn 2 rfl)) (fun m13 h => ?_))
          exact VG_sub (al' := [(0, aR 603), (1, aI x1)]) [0, 1] rfl h
        · have h := h.2 c1
          refine v_aload_n (pc := 90) dX12_readPart_90 0 rfl ?_
          refine m_getf (pc := 91) (t := 1) (v := (mem 603 17)) dX12_readPart_91 flX12_251 rfl at603 rfl ?_
          obtain ⟨o14, h⟩ := h
          refine m_l2i (pc := 94) dX12_readPart_94 o14 ?_
          refine v_goto (pc := 95) (tgt := 99) dX12_readPart_95 (by decide) ?_
          refine m_invV (pc := 99) (mi' := mX12_leaf) (rest := []) [aI 1, aI x1, aI (mem 603 17)] dX12_readPart_99 at603 (by decide) rfl msX12_leaf mvX12_leaf lkX12_329 rfl (Nat.le_of_ble_eq_true rfl) (fun hn => CV_mono (h (aaI hn 2 rfl) (aaI hn 3 rfl)) (fun m15 h => ?_))
          exact VG_sub (al' := [(0, aR 603), (1, aI x1)]) [0, 1] rfl h
      · have h := h.2 c1
        refine v_iconst (pc := 81) dX12_readPart_81 (by decide) ?_
        refine v_goto (pc := 82) (tgt := 86) dX12_readPart_82 (by decide) ?_
        refine v_iload_n (pc := 86) dX12_readPart_86 2 rfl ?_
        refine v_ifeq (pc := 87) (tgt := 98) dX12_readPart_87 (by decide) (fun c1 => ?_) (fun c1 => ?_)
        · have h := h.1 c1
          refine v_iconst (pc := 98) dX12_readPart_98 (by decide) ?_
          refine m_invV (pc := 99) (mi' := mX12_leaf) (rest := []) [aI 1, aI 0, aI 0] dX12_readPart_99 at603 (by decide) rfl msX12_leaf mvX12_leaf lkX12_329 rfl (Nat.le_of_ble_eq_true rfl) (fun hn => CV_mono (h) (fun m16 h => ?_))
          exact VG_sub (al' := [(0, aR 603), (1, aI x1)]) [0, 1] rfl h
        · have h := h.2 c1
          refine v_aload_n (pc := 90) dX12_readPart_90 0 rfl ?_
          refine m_getf (pc := 91) (t := 1) (v := (mem 603 17)) dX12_readPart_91 flX12_251 rfl at603 rfl ?_
          obtain ⟨o17, h⟩ := h
          refine m_l2i (pc := 94) dX12_readPart_94 o17 ?_
          refine v_goto (pc := 95) (tgt := 99) dX12_readPart_95 (by decide) ?_
          refine m_invV (pc := 99) (mi' := mX12_leaf) (rest := []) [aI 1, aI 0, aI (mem 603 17)] dX12_readPart_99 at603 (by decide) rfl msX12_leaf mvX12_leaf lkX12_329 rfl (Nat.le_of_ble_eq_true rfl) (fun hn => CV_mono (h (aaI hn 3 rfl)) (fun m18 h => ?_))
          exact VG_sub (al' := [(0, aR 603), (1, aI x1)]) [0, 1] rfl h
set_option maxRecDepth 20000 in
theorem rjX12_readPart_102 {E : EN} (hE : Ep E) {k : Nat} {mem : Mm} {Q : Int → Mm → Prop} {x1 : Int}
    (h : (((mem 603 20) = 0 → VM E mX12_readPart (k + 1) mem 153 [] [] (retI Q)) ∧ (¬ (mem 603 20) = 0 → ((x1 < 5 → VM E mX12_readPart (k + 1) mem 153 [] [] (retI Q)) ∧ (5 ≤ x1 → ((¬ (mem 603 19) = 0 → VM E mX12_readPart (k + 1) mem 153 [] [] (retI Q)) ∧ ((mem 603 19) = 0 → (R32 ((mem 603 23) - 1)) ∧ ((¬ x1 = 5 → (CI E mX12_number k mem [aR 603, aL 0, aL 31] (fun r3 m2 => (0 ≤ ((mem 603 23) - 1) ∧ ((mem 603 23) - 1) < 400) ∧ VM E mX12_readPart (k + 1) (aUp m2 615 ((mem 603 23) - 1) r3) 153 [] [] (retI Q)))) ∧ (x1 = 5 → (CI E mX12_number k mem [aR 603, aL 0, aL 9] (fun r6 m5 => (0 ≤ ((mem 603 23) - 1) ∧ ((mem 603 23) - 1) < 400) ∧ VM E mX12_readPart (k + 1) (aUp m5 615 ((mem 603 23) - 1) r6) 153 [] [] (retI Q)))))))))))) :
    VM E mX12_readPart (k + 1) mem 102 [(0, aR 603), (1, aI x1)] [] (retI Q) := by
  refine v_aload_n (pc := 102) dX12_readPart_102 0 rfl ?_
  refine m_getf (pc := 103) (t := 0) (v := (mem 603 20)) dX12_readPart_103 flX12_317 rfl at603 rfl ?_
  refine v_ifeq (pc := 106) (tgt := 153) dX12_readPart_106 (by decide) (fun c1 => ?_) (fun c1 => ?_)
  · have h := h.1 c1
    exact VG_sub (al' := []) [] rfl h
  · have h := h.2 c1
    refine v_iload_n (pc := 109) dX12_readPart_109 1 rfl ?_
    refine v_iconst (pc := 110) dX12_readPart_110 (by decide) ?_
    refine v_icmplt (pc := 111) (tgt := 153) dX12_readPart_111 (by decide) (fun c1 => ?_) (fun c1 => ?_)
    · have h := h.1 c1
      exact VG_sub (al' := []) [] rfl h
    · have h := h.2 c1
      refine v_aload_n (pc := 114) dX12_readPart_114 0 rfl ?_
      refine m_getf (pc := 115) (t := 0) (v := (mem 603 19)) dX12_readPart_115 flX12_241 rfl at603 rfl ?_
      refine v_ifne (pc := 118) (tgt := 153) dX12_readPart_118 (by decide) (fun c1 => ?_) (fun c1 => ?_)
      · have h := h.1 c1
        exact VG_sub (al' := []) [] rfl h
      · have h := h.2 c1
        refine v_aload_n (pc := 121) dX12_readPart_121 0 rfl ?_
        refine m_getf (pc := 122) (t := 0) (v := (mem 603 23)) dX12_readPart_122 flX12_278 rfl at603 rfl ?_
        refine v_iconst (pc := 125) dX12_readPart_125 (by decide) ?_
        obtain ⟨o1, h⟩ := h
        refine m_isub (pc := 126) dX12_readPart_126 o1 ?_
        refine v_istore_n (pc := 127) (al2 := [(3, aI ((mem 603 23) - 1)), (0, aR 603), (1, aI x1)]) dX12_readPart_127 (by decide) rfl ?_
        refine v_aload_n (pc := 128) dX12_readPart_128 1 rfl ?_
        refine m_getfin (pc := 129) (v := 615) hE dX12_readPart_129 flX12_48 rfl at603 rfl ?_
        refine v_iload_n (pc := 132) dX12_readPart_132 0 rfl ?_
        refine v_aload_n (pc := 133) dX12_readPart_133 1 rfl ?_
        refine v_lconst0 (pc := 134) dX12_readPart_134 ?_
        refine v_iload_n (pc := 135) dX12_readPart_135 2 rfl ?_
        refine v_iconst (pc := 136) dX12_readPart_136 (by decide) ?_
        refine v_icmpne (pc := 137) (tgt := 146) dX12_readPart_137 (by decide) (fun c1 => ?_) (fun c1 => ?_)
        · have h := h.1 c1
          refine v_ldc2 (pc := 146) (n := 31) dX12_readPart_146 cnX12_186 (by decide) ?_
          refine m_invI (pc := 149) (mi' := mX12_number) (rest := [aI ((mem 603 23) - 1), aR 615]) [aL 0, aL 31] dX12_readPart_149 at603 (by decide) rfl msX12_number mvX12_number lkX12_333 rfl (Nat.le_of_ble_eq_true rfl) (fun hn => CI_mono (h) (fun r3 m2 h => ?_))
          obtain ⟨o4, h⟩ := h
          refine v_iast (pc := 152) dX12_readPart_152 at615 o4.1 o4.2 ?_
          exact VG_sub (al' := []) [] rfl h
        · have h := h.2 c1
          refine v_ldc2 (pc := 140) (n := 9) dX12_readPart_140 cnX12_227 (by decide) ?_
          refine v_goto (pc := 143) (tgt := 149) dX12_readPart_143 (by decide) ?_
          refine m_invI (pc := 149) (mi' := mX12_number) (rest := [aI ((mem 603 23) - 1), aR 615]) [aL 0, aL 9] dX12_readPart_149 at603 (by decide) rfl msX12_number mvX12_number lkX12_333 rfl (Nat.le_of_ble_eq_true rfl) (fun hn => CI_mono (h) (fun r6 m5 h => ?_))
          obtain ⟨o7, h⟩ := h
          refine v_iast (pc := 152) dX12_readPart_152 at615 o7.1 o7.2 ?_
          exact VG_sub (al' := []) [] rfl h
set_option maxRecDepth 20000 in
theorem rjX12_readPart_153 {E : EN} (hE : Ep E) {k : Nat} {mem : Mm} {Q : Int → Mm → Prop}
    (h : Q 3 mem) :
    VM E mX12_readPart (k + 1) mem 153 [] [] (retI Q) := by
  refine v_iconst (pc := 153) dX12_readPart_153 (by decide) ?_
  exact m_retI (pc := 154) dX12_readPart_154 rfl h
-- the model reads: its state, frame; a leaf
def mSt (m : Mm) (T : Rw) (n : Int) (od : Bool) (p c s : Int) (P : List (Int × Int)) (opd : Int) : Prop := mTk m T n p ∧ m 603 19 = 0 ∧ m 603 20 = (if od = true then 1 else 0) ∧ m 603 23 = s ∧ m 603 26 = c ∧ m 603 29 = (P.length : Int) ∧ m 603 30 = opd ∧ plS (m 616) (m 617) P
def mFr (m m2 : Mm) : Prop := ∀ o i, o ≠ 614 → o ≠ 615 → o ≠ 616 → o ≠ 617 → ¬ (o = 603 ∧ ((14 ≤ i ∧ i ≤ 19) ∨ i = 23 ∨ i = 26 ∨ i = 29 ∨ i = 30)) → m2 o i = m o i
def mCd (s : Int) (m m2 : Mm) : Prop := ∀ i, i < s → m2 614 i = m 614 i ∧ m2 615 i = m 615 i
theorem mFr_rf {m : Mm} : mFr m m := fun _ _ _ _ _ _ _ => rfl
theorem mFr_tr {m m2 m3 : Mm} (h : mFr m m2) (h2 : mFr m2 m3) : mFr m m3 := fun o i a b c d e => (h2 o i a b c d e).trans (h o i a b c d e)
theorem mFr_4 {m m2 : Mm} (h : mF4 m m2) : mFr m m2 := fun o i _ _ _ _ e => h o i fun q => e ⟨q.1, Or.inl ⟨by omega, by omega⟩⟩
theorem mFr_s {a0 : Int} {m m2 : Mm} (h : mFs a0 m m2) : mFr m m2 := fun o i a b _ _ e => h o i (fun q => e ⟨q.1, by omega⟩) (by omega)
theorem mCd_rf {s : Int} {m : Mm} : mCd s m m := fun _ _ => ⟨rfl, rfl⟩
theorem mCd_tr {s s2 : Int} {m m2 m3 : Mm} (h : mCd s m m2) (h2 : mCd s2 m2 m3) (hs : s ≤ s2) : mCd s m m3 := fun i u => ⟨(h2 i (by omega)).1.trans (h i u).1, (h2 i (by omega)).2.trans (h i u).2⟩
theorem mCd_4 {s : Int} {m m2 : Mm} (h : mF4 m m2) : mCd s m m2 := fun _ _ => ⟨h _ _ (by omega), h _ _ (by omega)⟩
theorem mCd_s {a0 : Int} {m m2 : Mm} (h : mFs a0 m m2) : mCd a0 m m2 := fun _ _ => ⟨h _ _ (by omega) (by omega), h _ _ (by omega) (by omega)⟩
theorem mCd_le {s s2 : Int} {m m2 : Mm} (h : mCd s m m2) (hs : s2 ≤ s) : mCd s2 m m2 := fun i u => h i (by omega)
theorem mSg_cd {od : Bool} {s a b : Int} {m m2 : Mm} {F : Rw → Int} (h : mCd s m m2) (hb : b ≤ s) (hS : mSg od (m 614) (m 615) a b F) : mSg od (m2 614) (m2 615) a b F := sg_fr (fun i _ v => h i (by omega)) hS
theorem mSt_nx {m m2 : Mm} {T : Rw} {n : Int} {od : Bool} {p c s q opd : Int} {P : List (Int × Int)} (h : mSt m T n od p c s P opd) (hf : mF4 m m2) (hk : mTk m2 T n q) : mSt m2 T n od q c s P opd := by
  obtain ⟨-, a2, a3, a4, a5, a6, a7, a8⟩ := h
  exact ⟨hk, (hf _ _ (by omega)).trans a2, (hf _ _ (by omega)).trans a3, (hf _ _ (by omega)).trans a4, (hf _ _ (by omega)).trans a5, (hf _ _ (by omega)).trans a6, (hf _ _ (by omega)).trans a7, plS_fr _ (fun j _ _ => ⟨hf _ _ (by omega), hf _ _ (by omega)⟩) a8⟩
theorem mTk_fr {m m2 : Mm} {T : Rw} {n p : Int} (h : mTk m T n p) (hf : ∀ o i, (o = 603 ∧ 13 ≤ i ∧ i ≤ 18) ∨ o = 612 → m2 o i = m o i) : mTk m2 T n p := by
  obtain ⟨⟨⟨a1, a9⟩, a2⟩, a3, a4, a5, a6, a7, a8⟩ := h
  refine ⟨⟨⟨(hf _ _ (by omega)).trans a1, (hf _ _ (by omega)).trans a9⟩, fun i u v => (hf _ _ (by omega)).trans (a2 i u v)⟩, (hf _ _ (by omega)).trans a3, (hf _ _ (by omega)).trans a4, (hf _ _ (by omega)).trans a5, fun z => (hf _ _ (by omega)).trans (a6 z), fun z => (hf _ _ (by omega)).trans (a7 z), fun z => ?_⟩
  rw [hf 603 17 (by omega)]
  exact a8 z
theorem m_nextS {E : EN} (hE : Ep E) {k : Nat} {mem : Mm} {Q : Mm → Prop} {T : Rw} {n : Int} {od : Bool} {p c s opd : Int} {P : List (Int × Int)} (hT : tOk T n) (h : mSt mem T n od p c s P opd) (hp : 0 ≤ p) (hpn : p ≤ n) (hQ : ∀ m2, mF4 mem m2 → mSt m2 T n od (tT T n p) c s P opd → Q m2) : CV E mX12_next (k + 1) mem [aR 603] Q := by
  have a := tF_b (T := T) hpn
  have b := tT_b (T := T) hpn
  exact m_next hE hT h.1.1 h.1.2.2.1 (by omega) b.2.1 fun m2 x y => hQ m2 x (mSt_nx h x y)
theorem m_mustS {E : EN} (hE : Ep E) {k : Nat} {mem : Mm} {Q : Mm → Prop} {T : Rw} {n : Int} {od : Bool} {p c s opd x : Int} {P : List (Int × Int)} (hT : tOk T n) (h : mSt mem T n od p c s P opd) (hp : 0 ≤ p) (hpn : p ≤ n) (hx : R32 x) (hx0 : ¬ x = 0) (hQ : ∀ m2, mF4 mem m2 → mSt m2 T n od (tT T n p) c s P opd → Q m2) : CV E mX12_must (k + 2) mem [aR 603, aI x] Q :=
  m_mustT hE hT h.1 h.2.1 hp hpn hx hx0 fun m2 a b => hQ m2 a (mSt_nx h a b)
/-- all is bad: the FAULT stands at x, and what is left can be settled -/
def mBad (m : Mm) (x : Int) : Prop := m 603 19 = 1 ∧ m 603 18 = x ∧ ∃ N : Nat, m 603 29 = (N : Int) ∧ 0 ≤ m 603 23 ∧ m 603 23 + (N : Int) ≤ 400 ∧ ∀ i : Int, 0 ≤ i → i < (N : Int) → 20 ≤ m 616 i ∧ m 616 i ≤ 32 ∧ 0 ≤ m 617 i ∧ m 617 i < 400
theorem plS_in {f g : Int → Int} : ∀ l : List (Int × Int), plS f g l → plK l → ∀ i : Int, 0 ≤ i → i < (l.length : Int) → 20 ≤ f i ∧ f i ≤ 32 ∧ 0 ≤ g i ∧ g i < 400 := by
  intro l
  induction l with
  | nil => intro _ _ i a b; exact absurd b (by show ¬ i < ((0 : Nat) : Int); omega)
  | cons e l ih =>
    intro h hk i a b
    have hl : ((e :: l).length : Int) = l.length + 1 := by simp
    by_cases c : i = (l.length : Int)
    · have := hk e List.mem_cons_self
      rw [c, h.1, h.2.1]
      omega
    · exact ih h.2.2 (fun x hx => hk x (List.mem_cons_of_mem _ hx)) i a (by omega)
theorem m_bad {m : Mm} {T : Rw} {n : Int} {od : Bool} {p c s opd : Int} {P : List (Int × Int)} (h : mSt m T n od p c s P opd) (hK : plK P) (s0 : 0 ≤ s) (hs : s + (P.length : Int) ≤ 400) : mBad (aUp (aUp m 603 19 1) 603 18 (m 603 14)) (tF T n p) := by
  obtain ⟨a1, a2, a3, a4, a5, a6, a7, a8⟩ := h
  have g : ∀ o i, ¬ (o = 603 ∧ (i = 18 ∨ i = 19)) → (aUp (aUp m 603 19 1) 603 18 (m 603 14)) o i = m o i := fun o i z => by rw [aUp_nn (by omega), aUp_nn (by omega)]
  refine ⟨(aUp_nn (by omega)).trans aUp_re, aUp_re.trans a1.2.1, P.length, (g _ _ (by omega)).trans a6, ?_, ?_, fun i u v => ?_⟩
  · rw [g _ _ (by omega), a4]; exact s0
  · rw [g _ _ (by omega), a4]; exact hs
  · rw [g _ _ (by omega), g _ _ (by omega)]
    exact plS_in P a8 hK i u v
theorem mFr_bad {m : Mm} {v : Int} : mFr m (aUp (aUp m 603 19 1) 603 18 v) := fun o i _ _ _ _ e => by rw [aUp_nn (by omega), aUp_nn (by omega)]
/-- words by their places: which of a row the token is -/
theorem ixL_iff {h : Int} : ∀ (l : List Int) (j : Int), 0 ≤ j → l.Nodup → ∀ k : Nat, k < l.length → (h = l.getD k 0 ↔ ixL l h j = j + k) := by
  intro l
  induction l with
  | nil => intro j _ _ k hk; exact absurd hk (Nat.not_lt_zero k)
  | cons a l ih =>
    intro j hj hn k hk
    obtain ⟨na, nl⟩ := List.nodup_cons.mp hn
    have hb := ixL_b l h (j + 1) (by omega)
    show _ ↔ (if h = a then j else ixL l h (j + 1)) = j + k
    cases k with
    | zero =>
      show h = a ↔ _
      by_cases c : h = a
      · rw [if_pos c]; exact ⟨fun _ => by omega, fun _ => c⟩
      · rw [if_neg c]; exact ⟨fun z => absurd z c, fun z => by omega⟩
    | succ k =>
      have hk : k < l.length := by simpa using hk
      have i := ih (j + 1) (by omega) nl k hk
      show h = l.getD k 0 ↔ _
      by_cases c : h = a
      · rw [if_pos c]
        refine ⟨fun z => absurd ?_ na, fun z => by omega⟩
        rw [← c, z, List.getD_eq_getElem?_getD, List.getElem?_eq_getElem hk]
        exact List.getElem_mem hk
      · rw [if_neg c, i]
        constructor <;> (intro z; omega)
theorem wh_ok : ∀ i : Fin 13, (i.1 < 8 ∨ i.1 = 11 ∨ i.1 = 12) → (whL i.1).Nodup ∧ ∀ c ∈ whL i.1, 0 < c ∧ c < 1000000000 := by decide +kernel
theorem wh_c {i k : Nat} (hi : isWi i) (hk : k < (whL i).length) : 0 < (whL i).getD k 0 ∧ (whL i).getD k 0 < 1000000000 := by
  have h := (wh_ok ⟨i, by unfold isWi at hi; omega⟩ hi).2
  rw [List.getD_eq_getElem?_getD, List.getElem?_eq_getElem hk]
  exact h _ (List.getElem_mem hk)
def iKs2 (m : Mm) : Prop := (∀ k : Nat, k < 10 → m 618 k = (whL 12).getD k 0) ∧ (∀ k : Nat, k < 7 → m 619 k = (whL 11).getD k 0) ∧ (∀ k : Nat, k < 4 → m 620 k = (whL 1).getD k 0) ∧ (∀ k : Nat, k < 4 → m 633 k = (whL 0).getD k 0)
theorem iKs_2 {m : Mm} (h : iKs m) : iKs2 m := by
  obtain ⟨⟨k0, k1, k2, k3, k4, k5, k6, k7, k8, k9⟩, ⟨o0, o1, o2, o3, o4, o5, o6⟩, ⟨v0, v1, v2, v3⟩, w0, w1, w2, w3⟩ := h
  refine ⟨fun k hk => ?_, fun k hk => ?_, fun k hk => ?_, fun k hk => ?_⟩
  · have : k = 0 ∨ k = 1 ∨ k = 2 ∨ k = 3 ∨ k = 4 ∨ k = 5 ∨ k = 6 ∨ k = 7 ∨ k = 8 ∨ k = 9 := by omega
    rcases this with rfl | rfl | rfl | rfl | rfl | rfl | rfl | rfl | rfl | rfl <;> assumption
  · have : k = 0 ∨ k = 1 ∨ k = 2 ∨ k = 3 ∨ k = 4 ∨ k = 5 ∨ k = 6 := by omega
    rcases this with rfl | rfl | rfl | rfl | rfl | rfl | rfl <;> assumption
  · have : k = 0 ∨ k = 1 ∨ k = 2 ∨ k = 3 := by omega
    rcases this with rfl | rfl | rfl | rfl <;> assumption
  · have : k = 0 ∨ k = 1 ∨ k = 2 ∨ k = 3 := by omega
    rcases this with rfl | rfl | rfl | rfl <;> assumption
theorem iKs2_fr {m m2 : Mm} (hf : ∀ o i, (618 ≤ o ∧ o ≤ 620) ∨ o = 633 → m2 o i = m o i) (h : iKs2 m) : iKs2 m2 :=
  ⟨fun k u => (hf _ _ (by omega)).trans (h.1 k u), fun k u => (hf _ _ (by omega)).trans (h.2.1 k u), fun k u => (hf _ _ (by omega)).trans (h.2.2.1 k u), fun k u => (hf _ _ (by omega)).trans (h.2.2.2 k u)⟩
/-- what a search among words has found up to the k-th -/
def fnd (W b : Int) (k : Nat) : Int := if 0 ≤ W ∧ W < (k : Int) then W + b else -1
theorem fnd_1 {W b : Int} {k : Nat} (h : W = (k : Int)) : fnd W b (k + 1) = (k : Int) + b := by unfold fnd; rw [if_pos (by omega)]; omega
theorem fnd_0 {W b : Int} {k : Nat} (h : ¬ W = (k : Int)) : fnd W b (k + 1) = fnd W b k := by
  unfold fnd
  by_cases c : 0 ≤ W ∧ W < (k : Int)
  · rw [if_pos c, if_pos (by omega)]
  · rw [if_neg c, if_neg (by omega)]
theorem m_partAt {E : EN} (hE : Ep E) {k : Nat} {mem : Mm} {Q : Int → Mm → Prop} {T : Rw} {n p : Int} (h0 : mTk mem T n p) (hK : iKs2 mem) (hQ : Q (fnd (wIx false (tW T n p)) 1 10) mem) : CI E mX12_partAt (k + 1) mem [aR 603] Q := by
  have nd := (wh_ok ⟨12, by decide⟩ (Or.inr (Or.inr rfl))).1
  have hW : ixL (whL 12) (tW T n p) 0 = wIx false (tW T n p) := rfl
  have loop : ∀ (d j : Nat), j + d = 10 → VM E mX12_partAt (k + 1) mem 4 [(0, aR 603), (1, aI (fnd (wIx false (tW T n p)) 1 j)), (2, aI j)] [] (retI Q) := by
    intro d
    induction d with
    | zero =>
      intro j hj
      obtain rfl : j = 10 := by omega
      exact rX12_partAt_4 hE ⟨fun _ => hQ, fun c => absurd c (by omega)⟩
    | succ d ih =>
      intro j hj
      have hlen : (whL 12).length = 10 := rfl
      have hc := wh_c (i := 12) (k := j) (Or.inr (Or.inr rfl)) (by omega)
      have hx := ixL_iff (h := tW T n p) (whL 12) 0 (by omega) nd j (by omega)
      rw [hW, Int.zero_add] at hx
      refine rX12_partAt_4 hE ⟨fun c => absurd c (by omega), fun _ => ⟨⟨by omega, by omega⟩, fun _ => ?_⟩⟩
      rw [hK.1 j (by omega)]
      refine m_isWord hE h0 hc.1 hc.2 (fun q => ⟨fun z => absurd z (by decide), fun _ => ⟨⟨by omega, by omega⟩, ?_⟩⟩) (fun q => ⟨fun _ => ⟨⟨by omega, by omega⟩, ?_⟩, fun z => absurd rfl z⟩)
      · have := ih (j + 1) (by omega)
        rw [fnd_1 (hx.mp q)] at this
        exact this
      · have := ih (j + 1) (by omega)
        rw [fnd_0 fun z => q (hx.mpr z)] at this
        exact this
  refine eX12_partAt (rX12_partAt_0 hE ?_)
  have := loop 10 0 rfl
  have e : fnd (wIx false (tW T n p)) 1 0 = -1 := if_neg (by omega)
  rw [e] at this
  exact this
theorem m_orderPartAt {E : EN} (hE : Ep E) {k : Nat} {mem : Mm} {Q : Int → Mm → Prop} {T : Rw} {n p : Int} (h0 : mTk mem T n p) (hK : iKs2 mem) (hQ : Q (fnd (wIx true (tW T n p)) 1 7) mem) : CI E mX12_orderPartAt (k + 1) mem [aR 603] Q := by
  have nd := (wh_ok ⟨11, by decide⟩ (Or.inr (Or.inl rfl))).1
  have hW : ixL (whL 11) (tW T n p) 0 = wIx true (tW T n p) := rfl
  have loop : ∀ (d j : Nat), j + d = 7 → VM E mX12_orderPartAt (k + 1) mem 4 [(0, aR 603), (1, aI (fnd (wIx true (tW T n p)) 1 j)), (2, aI j)] [] (retI Q) := by
    intro d
    induction d with
    | zero =>
      intro j hj
      obtain rfl : j = 7 := by omega
      exact rX12_orderPartAt_4 hE ⟨fun _ => hQ, fun c => absurd c (by omega)⟩
    | succ d ih =>
      intro j hj
      have hlen : (whL 11).length = 7 := rfl
      have hc := wh_c (i := 11) (k := j) (Or.inr (Or.inl rfl)) (by omega)
      have hx := ixL_iff (h := tW T n p) (whL 11) 0 (by omega) nd j (by omega)
      rw [hW, Int.zero_add] at hx
      refine rX12_orderPartAt_4 hE ⟨fun c => absurd c (by omega), fun _ => ⟨⟨by omega, by omega⟩, fun _ => ?_⟩⟩
      rw [hK.2.1 j (by omega)]
      refine m_isWord hE h0 hc.1 hc.2 (fun q => ⟨fun z => absurd z (by decide), fun _ => ⟨⟨by omega, by omega⟩, ?_⟩⟩) (fun q => ⟨fun _ => ⟨⟨by omega, by omega⟩, ?_⟩, fun z => absurd rfl z⟩)
      · have := ih (j + 1) (by omega)
        rw [fnd_1 (hx.mp q)] at this
        exact this
      · have := ih (j + 1) (by omega)
        rw [fnd_0 fun z => q (hx.mpr z)] at this
        exact this
  refine eX12_orderPartAt (rX12_orderPartAt_0 hE ?_)
  have := loop 7 0 rfl
  have e : fnd (wIx true (tW T n p)) 1 0 = -1 := if_neg (by omega)
  rw [e] at this
  exact this
theorem m_leafF {E : EN} (hE : Ep E) {k : Nat} {mem : Mm} {Q : Mm → Prop} {is o a : Int} (hb : mem 603 19 = 0) (ri : R32 is) (ro : R32 o) (ra : R32 a) (h : is = 0 ∨ 50 ≤ mem 603 26) (hQ : Q (aUp (aUp mem 603 19 1) 603 18 (mem 603 14))) : CV E mX12_leaf (k + 3) mem [aR 603, aI is, aI o, aI a] Q := by
  have e : (aUp (aUp mem 603 19 1) 603 18 (mem 603 14)) 603 19 = 1 := (aUp_nn (by omega)).trans aUp_re
  refine eX12_leaf (k := k + 2) ri ro ra (rX12_leaf_0 (k := k + 2) hE ⟨fun _ => m_mustF hE hb ⟨fun _ => hQ, fun z => absurd (e.symm.trans z) (by decide)⟩, fun z => ⟨fun _ => m_mustF hE hb ⟨fun _ => hQ, fun z => absurd (e.symm.trans z) (by decide)⟩, fun z2 => absurd h (by omega)⟩⟩)
theorem m_leafT {E : EN} (hE : Ep E) {k : Nat} {mem : Mm} {Q : Mm → Prop} {T : Rw} {n : Int} {od : Bool} {p c s opd is o a : Int} {P : List (Int × Int)} (hT : tOk T n) (h : mSt mem T n od p c s P opd) (hp : 0 ≤ p) (hpn : p ≤ n) (ri : R32 is) (ro : R32 o) (ra : R32 a) (hi : ¬ is = 0) (hc : 0 ≤ c ∧ c < 50) (s0 : 0 ≤ s) (s1 : s < 400) (hQ : ∀ m2, mFr mem m2 → mCd s mem m2 → mSt m2 T n od (tT T n p) (c + 1) (s + 1) P opd → m2 614 s = o → m2 615 s = a → Q m2) : CV E mX12_leaf (k + 3) mem [aR 603, aI is, aI o, aI a] Q := by
  refine eX12_leaf (k := k + 2) ri ro ra (rX12_leaf_0 (k := k + 2) hE ?_)
  rw [h.2.2.2.2.1]
  refine ⟨fun z => absurd z hi, fun _ => ⟨fun z => absurd z (by omega), fun _ => m_mustS hE hT h hp hpn (by decide) (by decide) fun m1 a1 a2 => ⟨fun z => absurd a2.2.1 z, fun _ _ _ => ?_⟩⟩⟩
  refine m_emit hE a2.2.2.2.1 s0 s1 ro ra ?_
  have fs : ∀ o' i, ¬ (o' = 603 ∧ (i = 23 ∨ i = 26)) → ¬ ((o' = 614 ∨ o' = 615) ∧ i = s) → (aUp (aUp (aUp (aUp m1 614 s o) 615 s a) 603 23 (s + 1)) 603 26 (c + 1)) o' i = m1 o' i := fun o' i x y => by rw [aUp_nn (by omega), aUp_nn (by omega), aUp_nn (by omega), aUp_nn (by omega)]
  have e26 : (aUp (aUp (aUp m1 614 s o) 615 s a) 603 23 (s + 1)) 603 26 = c := by
    rw [aUp_nn (by omega), aUp_nn (by omega), aUp_nn (by omega)]
    exact a2.2.2.2.2.1
  rw [e26]
  refine ⟨⟨by omega, by omega⟩, hQ _ (fun o' i x1 x2 x3 x4 x5 => ?_) (fun i u => ⟨?_, ?_⟩) ?_ ?_ ?_⟩
  · rw [fs o' i (by omega) (by omega)]
    exact mFr_4 a1 o' i x1 x2 x3 x4 x5
  · rw [fs _ _ (by omega) (by omega)]; exact a1 _ _ (by omega)
  · rw [fs _ _ (by omega) (by omega)]; exact a1 _ _ (by omega)
  · obtain ⟨b1, b2, b3, b4, b5, b6, b7, b8⟩ := a2
    exact ⟨mTk_fr b1 fun o' i z => fs o' i (by omega) (by omega), (fs _ _ (by omega) (by omega)).trans b2, (fs _ _ (by omega) (by omega)).trans b3, (aUp_nn (by omega)).trans aUp_re, aUp_re, (fs _ _ (by omega) (by omega)).trans b6, (fs _ _ (by omega) (by omega)).trans b7, plS_fr _ (fun j _ _ => ⟨fs _ _ (by omega) (by omega), fs _ _ (by omega) (by omega)⟩) b8⟩
  · rw [aUp_nn (by omega), aUp_nn (by omega), aUp_nn (by omega), aUp_re]
  · rw [aUp_nn (by omega), aUp_nn (by omega), aUp_re]
