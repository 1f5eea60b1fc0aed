theorem dX5_begin_0 : decode cX5_begin 0 = .ok (.aload_n 0, 1) := by decide +kernel
theorem dX5_begin_1 : decode cX5_begin 1 = .ok (.getfield 12, 3) := by decide +kernel
theorem dX5_begin_4 : decode cX5_begin 4 = .ok (.aload_n 1, 1) := by decide +kernel
theorem dX5_begin_5 : decode cX5_begin 5 = .ok (.invokevirtual 32, 3) := by decide +kernel
theorem dX5_begin_8 : decode cX5_begin 8 = .ok (.aload_n 0, 1) := by decide +kernel
theorem dX5_begin_9 : decode cX5_begin 9 = .ok (.getfield 12, 3) := by decide +kernel
theorem dX5_begin_12 : decode cX5_begin 12 = .ok (.aload_n 1, 1) := by decide +kernel
theorem dX5_begin_13 : decode cX5_begin 13 = .ok (.getfield 36, 3) := by decide +kernel
theorem dX5_begin_16 : decode cX5_begin 16 = .ok (.putfield 36, 3) := by decide +kernel
theorem dX5_begin_19 : decode cX5_begin 19 = .ok (.return_, 1) := by decide +kernel
set_option maxRecDepth 20000 in
theorem rX5_begin_0 {E : EN} (hE : Ep E) {k : Nat} {mem : Mm} {Q : Mm → Prop} {p0 : Int} (hp0 : isYd p0)
    (h : (CV E mX10_copyFrom k mem [aR 553, aR p0] (fun m1 => Q (aUp m1 553 9 (m1 p0 9))))) :
    VM E mX5_begin (k + 1) mem 0 [(0, aR 552), (1, aR p0)] [] (retV Q) := by
  refine v_aload_n (pc := 0) dX5_begin_0 0 rfl ?_
  refine m_getfin (pc := 1) (v := 553) hE dX5_begin_1 flX5_12 rfl at552 rfl ?_
  refine v_aload_n (pc := 4) dX5_begin_4 1 rfl ?_
  refine m_invV (pc := 5) (mi' := mX10_copyFrom) (rest := []) [aR p0] dX5_begin_5 (yd0 (show isYd 553 by unfold isYd; omega)) (by decide) rfl msX10_copyFrom mvX10_copyFrom lkX5_32 rfl (Nat.le_of_ble_eq_true rfl) (fun hn => CV_mono (h) (fun m1 h => ?_))
  refine v_aload_n (pc := 8) dX5_begin_8 0 rfl ?_
  refine m_getfin (pc := 9) (v := 553) hE dX5_begin_9 flX5_12 rfl at552 rfl ?_
  refine v_aload_n (pc := 12) dX5_begin_12 1 rfl ?_
  refine m_getf (pc := 13) (t := 2) (v := (m1 p0 9)) dX5_begin_13 flX5_36 rfl (yd0 hp0) rfl ?_
  refine v_putf (pc := 16) dX5_begin_16 flX5_36 ⟨_, _, rfl, Or.inl rfl⟩ rfl (by decide) (fun q => nomatch q) (Or.inl fun _ => rfl) (yd0 (show isYd 553 by unfold isYd; omega)) ?_
  exact m_retV (pc := 19) dX5_begin_19 rfl h
theorem eX5_begin {E : EN} {k : Nat} {mem : Mm} {Q : Mm → Prop} {p0 : Int}  (h : VM E mX5_begin (k + 1) mem 0 [(0, aR 552), (1, aR p0)] [] (retV Q)) : CV E mX5_begin (k + 1) mem [aR 552, aR p0] Q := CV_of rfl (Nat.le_of_ble_eq_true rfl) h (aNs_c (aNr_R _) (aNs_c (aNr_R _) (fun _ q => nomatch q)))

theorem dX5_cellBehind_0 : decode cX5_cellBehind 0 = .ok (.aload_n 0, 1) := by decide +kernel
theorem dX5_cellBehind_1 : decode cX5_cellBehind 1 = .ok (.aload_n 1, 1) := by decide +kernel
theorem dX5_cellBehind_2 : decode cX5_cellBehind 2 = .ok (.invokevirtual 40, 3) := by decide +kernel
theorem dX5_cellBehind_5 : decode cX5_cellBehind 5 = .ok (.iconst 0, 1) := by decide +kernel
theorem dX5_cellBehind_6 : decode cX5_cellBehind 6 = .ok (.istore 4, 2) := by decide +kernel
theorem dX5_cellBehind_8 : decode cX5_cellBehind 8 = .ok (.iload 4, 2) := by decide +kernel
theorem dX5_cellBehind_10 : decode cX5_cellBehind 10 = .ok (.iload_n 3, 1) := by decide +kernel
theorem dX5_cellBehind_11 : decode cX5_cellBehind 11 = .ok (.if_icmp .ge 16, 3) := by decide +kernel
theorem dX5_cellBehind_14 : decode cX5_cellBehind 14 = .ok (.aload_n 0, 1) := by decide +kernel
theorem dX5_cellBehind_15 : decode cX5_cellBehind 15 = .ok (.getfield 12, 3) := by decide +kernel
theorem dX5_cellBehind_18 : decode cX5_cellBehind 18 = .ok (.invokevirtual 43, 3) := by decide +kernel
theorem dX5_cellBehind_21 : decode cX5_cellBehind 21 = .ok (.iinc 4 1, 3) := by decide +kernel
theorem dX5_cellBehind_24 : decode cX5_cellBehind 24 = .ok (.goto (-16), 3) := by decide +kernel
theorem dX5_cellBehind_27 : decode cX5_cellBehind 27 = .ok (.aload_n 0, 1) := by decide +kernel
theorem dX5_cellBehind_28 : decode cX5_cellBehind 28 = .ok (.getfield 12, 3) := by decide +kernel
theorem dX5_cellBehind_31 : decode cX5_cellBehind 31 = .ok (.getfield 46, 3) := by decide +kernel
theorem dX5_cellBehind_34 : decode cX5_cellBehind 34 = .ok (.iload_n 2, 1) := by decide +kernel
theorem dX5_cellBehind_35 : decode cX5_cellBehind 35 = .ok (.iaload, 1) := by decide +kernel
theorem dX5_cellBehind_36 : decode cX5_cellBehind 36 = .ok (.ireturn, 1) := by decide +kernel
set_option maxRecDepth 20000 in
theorem rX5_cellBehind_0 {E : EN} (hE : Ep E) {k : Nat} {mem : Mm} {Q : Int → Mm → Prop} {p0 p1 p2 : Int} (hp0 : isYd p0)
    (h : (CV E mX5_begin k mem [aR 552, aR p0] (fun m1 => VM E mX5_cellBehind (k + 1) m1 8 [(0, aR 552), (2, aI p1), (3, aI p2), (4, aI 0)] [] (retI Q)))) :
    VM E mX5_cellBehind (k + 1) mem 0 [(0, aR 552), (1, aR p0), (2, aI p1), (3, aI p2)] [] (retI Q) := by
  refine v_aload_n (pc := 0) dX5_cellBehind_0 0 rfl ?_
  refine v_aload_n (pc := 1) dX5_cellBehind_1 1 rfl ?_
  refine m_invV (pc := 2) (mi' := mX5_begin) (rest := []) [aR p0] dX5_cellBehind_2 at552 (by decide) rfl msX5_begin mvX5_begin lkX5_40 rfl (Nat.le_of_ble_eq_true rfl) (fun hn => CV_mono (h) (fun m1 h => ?_))
  refine v_iconst (pc := 5) dX5_cellBehind_5 (by decide) ?_
  refine v_istore (pc := 6) (al2 := [(4, aI 0), (0, aR 552), (1, aR p0), (2, aI p1), (3, aI p2)]) dX5_cellBehind_6 (by decide) rfl ?_
  exact VG_sub (al' := [(0, aR 552), (2, aI p1), (3, aI p2), (4, aI 0)]) [1, 3, 4, 0] rfl h
theorem eX5_cellBehind {E : EN} {k : Nat} {mem : Mm} {Q : Int → Mm → Prop} {p0 p1 p2 : Int} (hr_p1 : R32 p1) (hr_p2 : R32 p2) (h : VM E mX5_cellBehind (k + 1) mem 0 [(0, aR 552), (1, aR p0), (2, aI p1), (3, aI p2)] [] (retI Q)) : CI E mX5_cellBehind (k + 1) mem [aR 552, aR p0, aI p1, aI p2] Q := CI_of rfl (Nat.le_of_ble_eq_true rfl) h (aNs_c (aNr_R _) (aNs_c (aNr_R _) (aNs_c (aNr_I hr_p1) (aNs_c (aNr_I hr_p2) (fun _ q => nomatch q)))))
set_option maxRecDepth 20000 in
theorem rX5_cellBehind_8 {E : EN} (hE : Ep E) {k : Nat} {mem : Mm} {Q : Int → Mm → Prop} {p0 p1 p2 x4 : Int} (hp0 : isYd p0)
    (h : ((p2 ≤ x4 → (0 ≤ p1 ∧ p1 < 10) ∧ Q (mem 557 p1) mem) ∧ (x4 < p2 → (CV E mX10_turnYear k mem [aR 553] (fun m2 => (R32 (x4 + 1)) ∧ VM E mX5_cellBehind (k + 1) m2 8 [(0, aR 552), (2, aI p1), (3, aI p2), (4, aI (x4 + 1))] [] (retI Q)))))) :
    VM E mX5_cellBehind (k + 1) mem 8 [(0, aR 552), (2, aI p1), (3, aI p2), (4, aI x4)] [] (retI Q) := by
  refine v_iload (pc := 8) dX5_cellBehind_8 3 rfl ?_
  refine v_iload_n (pc := 10) dX5_cellBehind_10 2 rfl ?_
  refine v_icmpge (pc := 11) (tgt := 27) dX5_cellBehind_11 (by decide) (fun c1 => ?_) (fun c1 => ?_)
  · have h := h.1 c1
    refine v_aload_n (pc := 27) dX5_cellBehind_27 0 rfl ?_
    refine m_getfin (pc := 28) (v := 553) hE dX5_cellBehind_28 flX5_12 rfl at552 rfl ?_
    refine m_getfin (pc := 31) (v := 557) hE dX5_cellBehind_31 flX5_46 rfl (yd0 (show isYd 553 by unfold isYd; omega)) rfl ?_
    refine v_iload_n (pc := 34) dX5_cellBehind_34 1 rfl ?_
    obtain ⟨o1, h⟩ := h
    refine m_iald (pc := 35) (v := (mem 557 p1)) dX5_cellBehind_35 (yd4 (show isYd 553 by unfold isYd; omega)) o1.1 o1.2 rfl ?_
    exact m_retI (pc := 36) dX5_cellBehind_36 rfl h
  · have h := h.2 c1
    refine v_aload_n (pc := 14) dX5_cellBehind_14 0 rfl ?_
    refine m_getfin (pc := 15) (v := 553) hE dX5_cellBehind_15 flX5_12 rfl at552 rfl ?_
    refine m_invV (pc := 18) (mi' := mX10_turnYear) (rest := []) [] dX5_cellBehind_18 (yd0 (show isYd 553 by unfold isYd; omega)) (by decide) rfl msX10_turnYear mvX10_turnYear lkX5_43 rfl (Nat.le_of_ble_eq_true rfl) (fun hn => CV_mono (h) (fun m2 h => ?_))
    obtain ⟨o3, h⟩ := h
    refine m_iinc (pc := 21) (al2 := [(4, aI (x4 + 1)), (0, aR 552), (2, aI p1), (3, aI p2)]) dX5_cellBehind_21 3 rfl (by decide) o3 rfl ?_
    refine v_goto (pc := 24) (tgt := 8) dX5_cellBehind_24 (by decide) ?_
    exact VG_sub (al' := [(0, aR 552), (2, aI p1), (3, aI p2), (4, aI (x4 + 1))]) [1, 2, 3, 0] rfl h

theorem dX5_firstIndoors_0 : decode cX5_firstIndoors 0 = .ok (.aload_n 0, 1) := by decide +kernel
theorem dX5_firstIndoors_1 : decode cX5_firstIndoors 1 = .ok (.aload_n 1, 1) := by decide +kernel
theorem dX5_firstIndoors_2 : decode cX5_firstIndoors 2 = .ok (.invokevirtual 40, 3) := by decide +kernel
theorem dX5_firstIndoors_5 : decode cX5_firstIndoors 5 = .ok (.iconst 0, 1) := by decide +kernel
theorem dX5_firstIndoors_6 : decode cX5_firstIndoors 6 = .ok (.istore_n 2, 1) := by decide +kernel
theorem dX5_firstIndoors_7 : decode cX5_firstIndoors 7 = .ok (.iload_n 2, 1) := by decide +kernel
theorem dX5_firstIndoors_8 : decode cX5_firstIndoors 8 = .ok (.sipush 200, 3) := by decide +kernel
theorem dX5_firstIndoors_11 : decode cX5_firstIndoors 11 = .ok (.if_icmp .gt 28, 3) := by decide +kernel
theorem dX5_firstIndoors_14 : decode cX5_firstIndoors 14 = .ok (.aload_n 0, 1) := by decide +kernel
theorem dX5_firstIndoors_15 : decode cX5_firstIndoors 15 = .ok (.getfield 12, 3) := by decide +kernel
theorem dX5_firstIndoors_18 : decode cX5_firstIndoors 18 = .ok (.invokevirtual 49, 3) := by decide +kernel
theorem dX5_firstIndoors_21 : decode cX5_firstIndoors 21 = .ok (.ifCond .eq 5, 3) := by decide +kernel
theorem dX5_firstIndoors_24 : decode cX5_firstIndoors 24 = .ok (.iload_n 2, 1) := by decide +kernel
theorem dX5_firstIndoors_25 : decode cX5_firstIndoors 25 = .ok (.ireturn, 1) := by decide +kernel
theorem dX5_firstIndoors_26 : decode cX5_firstIndoors 26 = .ok (.aload_n 0, 1) := by decide +kernel
theorem dX5_firstIndoors_27 : decode cX5_firstIndoors 27 = .ok (.getfield 12, 3) := by decide +kernel
theorem dX5_firstIndoors_30 : decode cX5_firstIndoors 30 = .ok (.invokevirtual 43, 3) := by decide +kernel
theorem dX5_firstIndoors_33 : decode cX5_firstIndoors 33 = .ok (.iinc 2 1, 3) := by decide +kernel
theorem dX5_firstIndoors_36 : decode cX5_firstIndoors 36 = .ok (.goto (-29), 3) := by decide +kernel
theorem dX5_firstIndoors_39 : decode cX5_firstIndoors 39 = .ok (.iconst (-1), 1) := by decide +kernel
theorem dX5_firstIndoors_40 : decode cX5_firstIndoors 40 = .ok (.ireturn, 1) := by decide +kernel
set_option maxRecDepth 20000 in
theorem rX5_firstIndoors_0 {E : EN} (hE : Ep E) {k : Nat} {mem : Mm} {Q : Int → Mm → Prop} {p0 : Int} (hp0 : isYd p0)
    (h : (CV E mX5_begin k mem [aR 552, aR p0] (fun m1 => VM E mX5_firstIndoors (k + 1) m1 7 [(0, aR 552), (2, aI 0)] [] (retI Q)))) :
    VM E mX5_firstIndoors (k + 1) mem 0 [(0, aR 552), (1, aR p0)] [] (retI Q) := by
  refine v_aload_n (pc := 0) dX5_firstIndoors_0 0 rfl ?_
  refine v_aload_n (pc := 1) dX5_firstIndoors_1 1 rfl ?_
  refine m_invV (pc := 2) (mi' := mX5_begin) (rest := []) [aR p0] dX5_firstIndoors_2 at552 (by decide) rfl msX5_begin mvX5_begin lkX5_40 rfl (Nat.le_of_ble_eq_true rfl) (fun hn => CV_mono (h) (fun m1 h => ?_))
  refine v_iconst (pc := 5) dX5_firstIndoors_5 (by decide) ?_
  refine v_istore_n (pc := 6) (al2 := [(2, aI 0), (0, aR 552), (1, aR p0)]) dX5_firstIndoors_6 (by decide) rfl ?_
  exact VG_sub (al' := [(0, aR 552), (2, aI 0)]) [1, 0] rfl h
theorem eX5_firstIndoors {E : EN} {k : Nat} {mem : Mm} {Q : Int → Mm → Prop} {p0 : Int}  (h : VM E mX5_firstIndoors (k + 1) mem 0 [(0, aR 552), (1, aR p0)] [] (retI Q)) : CI E mX5_firstIndoors (k + 1) mem [aR 552, aR p0] Q := CI_of rfl (Nat.le_of_ble_eq_true rfl) h (aNs_c (aNr_R _) (aNs_c (aNr_R _) (fun _ q => nomatch q)))
set_option maxRecDepth 20000 in
theorem rX5_firstIndoors_7 {E : EN} (hE : Ep E) {k : Nat} {mem : Mm} {Q : Int → Mm → Prop} {p0 x2 : Int} (hp0 : isYd p0)
    (h : ((200 < x2 → Q (-1) mem) ∧ (x2 ≤ 200 → (CI E mX10_isAnyInWall k mem [aR 553] (fun r2 m1 => ((r2 = 0 → (CV E mX10_turnYear k m1 [aR 553] (fun m3 => (R32 (x2 + 1)) ∧ VM E mX5_firstIndoors (k + 1) m3 7 [(0, aR 552), (2, aI (x2 + 1))] [] (retI Q)))) ∧ (¬ r2 = 0 → Q x2 m1))))))) :
    VM E mX5_firstIndoors (k + 1) mem 7 [(0, aR 552), (2, aI x2)] [] (retI Q) := by
  refine v_iload_n (pc := 7) dX5_firstIndoors_7 1 rfl ?_
  refine v_sipush (pc := 8) dX5_firstIndoors_8 (by decide) ?_
  refine v_icmpgt (pc := 11) (tgt := 39) dX5_firstIndoors_11 (by decide) (fun c1 => ?_) (fun c1 => ?_)
  · have h := h.1 c1
    refine v_iconst (pc := 39) dX5_firstIndoors_39 (by decide) ?_
    exact m_retI (pc := 40) dX5_firstIndoors_40 rfl h
  · have h := h.2 c1
    refine v_aload_n (pc := 14) dX5_firstIndoors_14 0 rfl ?_
    refine m_getfin (pc := 15) (v := 553) hE dX5_firstIndoors_15 flX5_12 rfl at552 rfl ?_
    refine m_invI (pc := 18) (mi' := mX10_isAnyInWall) (rest := []) [] dX5_firstIndoors_18 (yd0 (show isYd 553 by unfold isYd; omega)) (by decide) rfl msX10_isAnyInWall mvX10_isAnyInWall lkX5_49 rfl (Nat.le_of_ble_eq_true rfl) (fun hn => CI_mono (h) (fun r2 m1 h => ?_))
    refine v_ifeq (pc := 21) (tgt := 26) dX5_firstIndoors_21 (by decide) (fun c1 => ?_) (fun c1 => ?_)
    · have h := h.1 c1
      refine v_aload_n (pc := 26) dX5_firstIndoors_26 0 rfl ?_
      refine m_getfin (pc := 27) (v := 553) hE dX5_firstIndoors_27 flX5_12 rfl at552 rfl ?_
      refine m_invV (pc := 30) (mi' := mX10_turnYear) (rest := []) [] dX5_firstIndoors_30 (yd0 (show isYd 553 by unfold isYd; omega)) (by decide) rfl msX10_turnYear mvX10_turnYear lkX5_43 rfl (Nat.le_of_ble_eq_true rfl) (fun hn => CV_mono (h) (fun m3 h => ?_))
      obtain ⟨o4, h⟩ := h
      refine m_iinc (pc := 33) (al2 := [(2, aI (x2 + 1)), (0, aR 552)]) dX5_firstIndoors_33 1 rfl (by decide) o4 rfl ?_
      refine v_goto (pc := 36) (tgt := 7) dX5_firstIndoors_36 (by decide) ?_
      exact VG_sub (al' := [(0, aR 552), (2, aI (x2 + 1))]) [1, 0] rfl h
    · have h := h.2 c1
      refine v_iload_n (pc := 24) dX5_firstIndoors_24 1 rfl ?_
      exact m_retI (pc := 25) dX5_firstIndoors_25 rfl h

theorem dX5_findWays_0 : decode cX5_findWays 0 = .ok (.aload_n 0, 1) := by decide +kernel
theorem dX5_findWays_1 : decode cX5_findWays 1 = .ok (.aload_n 1, 1) := by decide +kernel
theorem dX5_findWays_2 : decode cX5_findWays 2 = .ok (.invokevirtual 53, 3) := by decide +kernel
theorem dX5_findWays_5 : decode cX5_findWays 5 = .ok (.istore 5, 2) := by decide +kernel
theorem dX5_findWays_7 : decode cX5_findWays 7 = .ok (.iload 5, 2) := by decide +kernel
theorem dX5_findWays_9 : decode cX5_findWays 9 = .ok (.iconst (-1), 1) := by decide +kernel
theorem dX5_findWays_10 : decode cX5_findWays 10 = .ok (.if_icmp .ne 5, 3) := by decide +kernel
theorem dX5_findWays_13 : decode cX5_findWays 13 = .ok (.iconst 0, 1) := by decide +kernel
theorem dX5_findWays_14 : decode cX5_findWays 14 = .ok (.ireturn, 1) := by decide +kernel
theorem dX5_findWays_15 : decode cX5_findWays 15 = .ok (.iconst 0, 1) := by decide +kernel
theorem dX5_findWays_16 : decode cX5_findWays 16 = .ok (.istore 6, 2) := by decide +kernel
theorem dX5_findWays_18 : decode cX5_findWays 18 = .ok (.iconst 0, 1) := by decide +kernel
theorem dX5_findWays_19 : decode cX5_findWays 19 = .ok (.istore 7, 2) := by decide +kernel
theorem dX5_findWays_21 : decode cX5_findWays 21 = .ok (.iload 7, 2) := by decide +kernel
theorem dX5_findWays_23 : decode cX5_findWays 23 = .ok (.iconst 1, 1) := by decide +kernel
theorem dX5_findWays_24 : decode cX5_findWays 24 = .ok (.iload 5, 2) := by decide +kernel
theorem dX5_findWays_26 : decode cX5_findWays 26 = .ok (.ishl, 1) := by decide +kernel
theorem dX5_findWays_27 : decode cX5_findWays 27 = .ok (.if_icmp .ge 159, 3) := by decide +kernel
theorem dX5_findWays_30 : decode cX5_findWays 30 = .ok (.aload_n 0, 1) := by decide +kernel
theorem dX5_findWays_31 : decode cX5_findWays 31 = .ok (.aload_n 1, 1) := by decide +kernel
theorem dX5_findWays_32 : decode cX5_findWays 32 = .ok (.invokevirtual 40, 3) := by decide +kernel
theorem dX5_findWays_35 : decode cX5_findWays 35 = .ok (.lconst 0, 1) := by decide +kernel
theorem dX5_findWays_36 : decode cX5_findWays 36 = .ok (.lstore 8, 2) := by decide +kernel
theorem dX5_findWays_38 : decode cX5_findWays 38 = .ok (.lconst 0, 1) := by decide +kernel
theorem dX5_findWays_39 : decode cX5_findWays 39 = .ok (.lstore 10, 2) := by decide +kernel
theorem dX5_findWays_41 : decode cX5_findWays 41 = .ok (.iconst 0, 1) := by decide +kernel
theorem dX5_findWays_42 : decode cX5_findWays 42 = .ok (.istore 12, 2) := by decide +kernel
theorem dX5_findWays_44 : decode cX5_findWays 44 = .ok (.iload 12, 2) := by decide +kernel
theorem dX5_findWays_46 : decode cX5_findWays 46 = .ok (.iload 5, 2) := by decide +kernel
theorem dX5_findWays_48 : decode cX5_findWays 48 = .ok (.if_icmp .ge 78, 3) := by decide +kernel
theorem dX5_findWays_51 : decode cX5_findWays 51 = .ok (.iload 12, 2) := by decide +kernel
theorem dX5_findWays_53 : decode cX5_findWays 53 = .ok (.bipush 8, 2) := by decide +kernel
theorem dX5_findWays_55 : decode cX5_findWays 55 = .ok (.if_icmp .ge 71, 3) := by decide +kernel
theorem dX5_findWays_58 : decode cX5_findWays 58 = .ok (.iload 7, 2) := by decide +kernel
theorem dX5_findWays_60 : decode cX5_findWays 60 = .ok (.iload 12, 2) := by decide +kernel
theorem dX5_findWays_62 : decode cX5_findWays 62 = .ok (.ishr, 1) := by decide +kernel
theorem dX5_findWays_63 : decode cX5_findWays 63 = .ok (.iconst 1, 1) := by decide +kernel
theorem dX5_findWays_64 : decode cX5_findWays 64 = .ok (.iand, 1) := by decide +kernel
theorem dX5_findWays_65 : decode cX5_findWays 65 = .ok (.iconst 1, 1) := by decide +kernel
theorem dX5_findWays_66 : decode cX5_findWays 66 = .ok (.if_icmp .ne 54, 3) := by decide +kernel
theorem dX5_findWays_69 : decode cX5_findWays 69 = .ok (.aload_n 0, 1) := by decide +kernel
theorem dX5_findWays_70 : decode cX5_findWays 70 = .ok (.getfield 12, 3) := by decide +kernel
theorem dX5_findWays_73 : decode cX5_findWays 73 = .ok (.getfield 57, 3) := by decide +kernel
theorem dX5_findWays_76 : decode cX5_findWays 76 = .ok (.aload_n 0, 1) := by decide +kernel
theorem dX5_findWays_77 : decode cX5_findWays 77 = .ok (.getfield 21, 3) := by decide +kernel
theorem dX5_findWays_80 : decode cX5_findWays 80 = .ok (.iload 12, 2) := by decide +kernel
theorem dX5_findWays_82 : decode cX5_findWays 82 = .ok (.iaload, 1) := by decide +kernel
theorem dX5_findWays_83 : decode cX5_findWays 83 = .ok (.iconst 1, 1) := by decide +kernel
theorem dX5_findWays_84 : decode cX5_findWays 84 = .ok (.iastore, 1) := by decide +kernel
theorem dX5_findWays_85 : decode cX5_findWays 85 = .ok (.lload 8, 2) := by decide +kernel
theorem dX5_findWays_87 : decode cX5_findWays 87 = .ok (.aload_n 0, 1) := by decide +kernel
theorem dX5_findWays_88 : decode cX5_findWays 88 = .ok (.getfield 12, 3) := by decide +kernel
theorem dX5_findWays_91 : decode cX5_findWays 91 = .ok (.getfield 60, 3) := by decide +kernel
theorem dX5_findWays_94 : decode cX5_findWays 94 = .ok (.aload_n 0, 1) := by decide +kernel
theorem dX5_findWays_95 : decode cX5_findWays 95 = .ok (.getfield 21, 3) := by decide +kernel
theorem dX5_findWays_98 : decode cX5_findWays 98 = .ok (.iload 12, 2) := by decide +kernel
theorem dX5_findWays_100 : decode cX5_findWays 100 = .ok (.iaload, 1) := by decide +kernel
theorem dX5_findWays_101 : decode cX5_findWays 101 = .ok (.iaload, 1) := by decide +kernel
theorem dX5_findWays_102 : decode cX5_findWays 102 = .ok (.i2l, 1) := by decide +kernel
theorem dX5_findWays_103 : decode cX5_findWays 103 = .ok (.ladd, 1) := by decide +kernel
theorem dX5_findWays_104 : decode cX5_findWays 104 = .ok (.lstore 8, 2) := by decide +kernel
theorem dX5_findWays_106 : decode cX5_findWays 106 = .ok (.lload 10, 2) := by decide +kernel
theorem dX5_findWays_108 : decode cX5_findWays 108 = .ok (.lconst 1, 1) := by decide +kernel
theorem dX5_findWays_109 : decode cX5_findWays 109 = .ok (.aload_n 0, 1) := by decide +kernel
theorem dX5_findWays_110 : decode cX5_findWays 110 = .ok (.getfield 21, 3) := by decide +kernel
theorem dX5_findWays_113 : decode cX5_findWays 113 = .ok (.iload 12, 2) := by decide +kernel
theorem dX5_findWays_115 : decode cX5_findWays 115 = .ok (.iaload, 1) := by decide +kernel
theorem dX5_findWays_116 : decode cX5_findWays 116 = .ok (.lshl, 1) := by decide +kernel
theorem dX5_findWays_117 : decode cX5_findWays 117 = .ok (.lor, 1) := by decide +kernel
theorem dX5_findWays_118 : decode cX5_findWays 118 = .ok (.lstore 10, 2) := by decide +kernel
theorem dX5_findWays_120 : decode cX5_findWays 120 = .ok (.iinc 12 1, 3) := by decide +kernel
theorem dX5_findWays_123 : decode cX5_findWays 123 = .ok (.goto (-79), 3) := by decide +kernel
theorem dX5_findWays_126 : decode cX5_findWays 126 = .ok (.iload 6, 2) := by decide +kernel
theorem dX5_findWays_128 : decode cX5_findWays 128 = .ok (.ifCond .eq 13, 3) := by decide +kernel
theorem dX5_findWays_131 : decode cX5_findWays 131 = .ok (.lload 8, 2) := by decide +kernel
theorem dX5_findWays_133 : decode cX5_findWays 133 = .ok (.aload_n 0, 1) := by decide +kernel
theorem dX5_findWays_134 : decode cX5_findWays 134 = .ok (.getfield 63, 3) := by decide +kernel
theorem dX5_findWays_137 : decode cX5_findWays 137 = .ok (.lcmp, 1) := by decide +kernel
theorem dX5_findWays_138 : decode cX5_findWays 138 = .ok (.ifCond .ge 7, 3) := by decide +kernel
theorem dX5_findWays_141 : decode cX5_findWays 141 = .ok (.iconst 1, 1) := by decide +kernel
theorem dX5_findWays_142 : decode cX5_findWays 142 = .ok (.goto 4, 3) := by decide +kernel
theorem dX5_findWays_145 : decode cX5_findWays 145 = .ok (.iconst 0, 1) := by decide +kernel
theorem dX5_findWays_146 : decode cX5_findWays 146 = .ok (.istore 12, 2) := by decide +kernel
theorem dX5_findWays_148 : decode cX5_findWays 148 = .ok (.iload 12, 2) := by decide +kernel
theorem dX5_findWays_150 : decode cX5_findWays 150 = .ok (.ifCond .eq 30, 3) := by decide +kernel
theorem dX5_findWays_153 : decode cX5_findWays 153 = .ok (.aload_n 0, 1) := by decide +kernel
theorem dX5_findWays_154 : decode cX5_findWays 154 = .ok (.iload_n 2, 1) := by decide +kernel
theorem dX5_findWays_155 : decode cX5_findWays 155 = .ok (.iload_n 3, 1) := by decide +kernel
theorem dX5_findWays_156 : decode cX5_findWays 156 = .ok (.iload 4, 2) := by decide +kernel
theorem dX5_findWays_158 : decode cX5_findWays 158 = .ok (.invokevirtual 67, 3) := by decide +kernel
theorem dX5_findWays_161 : decode cX5_findWays 161 = .ok (.iconst (-1), 1) := by decide +kernel
theorem dX5_findWays_162 : decode cX5_findWays 162 = .ok (.if_icmp .eq 18, 3) := by decide +kernel
theorem dX5_findWays_165 : decode cX5_findWays 165 = .ok (.iconst 1, 1) := by decide +kernel
theorem dX5_findWays_166 : decode cX5_findWays 166 = .ok (.istore 6, 2) := by decide +kernel
theorem dX5_findWays_168 : decode cX5_findWays 168 = .ok (.aload_n 0, 1) := by decide +kernel
theorem dX5_findWays_169 : decode cX5_findWays 169 = .ok (.lload 8, 2) := by decide +kernel
theorem dX5_findWays_171 : decode cX5_findWays 171 = .ok (.putfield 63, 3) := by decide +kernel
theorem dX5_findWays_174 : decode cX5_findWays 174 = .ok (.aload_n 0, 1) := by decide +kernel
theorem dX5_findWays_175 : decode cX5_findWays 175 = .ok (.lload 10, 2) := by decide +kernel
theorem dX5_findWays_177 : decode cX5_findWays 177 = .ok (.putfield 71, 3) := by decide +kernel
theorem dX5_findWays_180 : decode cX5_findWays 180 = .ok (.iinc 7 1, 3) := by decide +kernel
theorem dX5_findWays_183 : decode cX5_findWays 183 = .ok (.goto (-162), 3) := by decide +kernel
theorem dX5_findWays_186 : decode cX5_findWays 186 = .ok (.iload 6, 2) := by decide +kernel
theorem dX5_findWays_188 : decode cX5_findWays 188 = .ok (.ireturn, 1) := by decide +kernel
set_option maxRecDepth 20000 in
theorem rX5_findWays_0 {E : EN} (hE : Ep E) {k : Nat} {mem : Mm} {Q : Int → Mm → Prop} {p0 p1 p2 p3 : Int} (hp0 : isYd p0)
    (h : (CI E mX5_listOpenWalls k mem [aR 552, aR p0] (fun r2 m1 => ((¬ r2 = (-1) → VM E mX5_findWays (k + 1) m1 21 [(0, aR 552), (1, aR p0), (2, aI p1), (3, aI p2), (4, aI p3), (5, aI r2), (6, aI 0), (7, aI 0)] [] (retI Q)) ∧ (r2 = (-1) → Q 0 m1))))) :
    VM E mX5_findWays (k + 1) mem 0 [(0, aR 552), (1, aR p0), (2, aI p1), (3, aI p2), (4, aI p3)] [] (retI Q) := by
  refine v_aload_n (pc := 0) dX5_findWays_0 0 rfl ?_
  refine v_aload_n (pc := 1) dX5_findWays_1 1 rfl ?_
  refine m_invI (pc := 2) (mi' := mX5_listOpenWalls) (rest := []) [aR p0] dX5_findWays_2 at552 (by decide) rfl msX5_listOpenWalls mvX5_listOpenWalls lkX5_53 rfl (Nat.le_of_ble_eq_true rfl) (fun hn => CI_mono (h) (fun r2 m1 h => ?_))
  refine v_istore (pc := 5) (al2 := [(5, aI r2), (0, aR 552), (1, aR p0), (2, aI p1), (3, aI p2), (4, aI p3)]) dX5_findWays_5 (by decide) rfl ?_
  refine v_iload (pc := 7) dX5_findWays_7 0 rfl ?_
  refine v_iconst (pc := 9) dX5_findWays_9 (by decide) ?_
  refine v_icmpne (pc := 10) (tgt := 15) dX5_findWays_10 (by decide) (fun c1 => ?_) (fun c1 => ?_)
  · have h := h.1 c1
    refine v_iconst (pc := 15) dX5_findWays_15 (by decide) ?_
    refine v_istore (pc := 16) (al2 := [(6, aI 0), (5, aI r2), (0, aR 552), (1, aR p0), (2, aI p1), (3, aI p2), (4, aI p3)]) dX5_findWays_16 (by decide) rfl ?_
    refine v_iconst (pc := 18) dX5_findWays_18 (by decide) ?_
    refine v_istore (pc := 19) (al2 := [(7, aI 0), (6, aI 0), (5, aI r2), (0, aR 552), (1, aR p0), (2, aI p1), (3, aI p2), (4, aI p3)]) dX5_findWays_19 (by decide) rfl ?_
    exact VG_sub (al' := [(0, aR 552), (1, aR p0), (2, aI p1), (3, aI p2), (4, aI p3), (5, aI r2), (6, aI 0), (7, aI 0)]) [3, 4, 5, 6, 7, 2, 1, 0] rfl h
  · have h := h.2 c1
    refine v_iconst (pc := 13) dX5_findWays_13 (by decide) ?_
    exact m_retZ (pc := 14) dX5_findWays_14 rfl (by decide) h
theorem eX5_findWays {E : EN} {k : Nat} {mem : Mm} {Q : Int → Mm → Prop} {p0 p1 p2 p3 : Int} (hr_p1 : R32 p1) (hr_p2 : R32 p2) (hr_p3 : R32 p3) (h : VM E mX5_findWays (k + 1) mem 0 [(0, aR 552), (1, aR p0), (2, aI p1), (3, aI p2), (4, aI p3)] [] (retI Q)) : CI E mX5_findWays (k + 1) mem [aR 552, aR p0, aI p1, aI p2, aI p3] Q := CI_of rfl (Nat.le_of_ble_eq_true rfl) h (aNs_c (aNr_R _) (aNs_c (aNr_R _) (aNs_c (aNr_I hr_p1) (aNs_c (aNr_I hr_p2) (aNs_c (aNr_I hr_p3) (fun _ q => nomatch q))))))
set_option maxRecDepth 20000 in
theorem rX5_findWays_21 {E : EN} (hE : Ep E) {k : Nat} {mem : Mm} {Q : Int → Mm → Prop} {p0 p1 p2 p3 x5 x6 x7 : Int} (hp0 : isYd p0)
    (h : (((xShl 1 x5) ≤ x7 → (x6 = 0 ∨ x6 = 1) ∧ Q x6 mem) ∧ (x7 < (xShl 1 x5) → (CV E mX5_begin k mem [aR 552, aR p0] (fun m2 => VM E mX5_findWays (k + 1) m2 44 [(0, aR 552), (1, aR p0), (2, aI p1), (3, aI p2), (4, aI p3), (5, aI x5), (6, aI x6), (7, aI x7), (8, aL 0), (10, aL 0), (12, aI 0)] [] (retI Q)))))) :
    VM E mX5_findWays (k + 1) mem 21 [(0, aR 552), (1, aR p0), (2, aI p1), (3, aI p2), (4, aI p3), (5, aI x5), (6, aI x6), (7, aI x7)] [] (retI Q) := by
  refine v_iload (pc := 21) dX5_findWays_21 7 rfl ?_
  refine v_iconst (pc := 23) dX5_findWays_23 (by decide) ?_
  refine v_iload (pc := 24) dX5_findWays_24 5 rfl ?_
  refine v_ishl (pc := 26) dX5_findWays_26 ?_
  refine v_icmpge (pc := 27) (tgt := 186) dX5_findWays_27 (by decide) (fun c1 => ?_) (fun c1 => ?_)
  · have h := h.1 c1
    refine v_iload (pc := 186) dX5_findWays_186 6 rfl ?_
    obtain ⟨o1, h⟩ := h
    exact m_retZ (pc := 188) dX5_findWays_188 rfl o1 h
  · have h := h.2 c1
    refine v_aload_n (pc := 30) dX5_findWays_30 0 rfl ?_
    refine v_aload_n (pc := 31) dX5_findWays_31 1 rfl ?_
    refine m_invV (pc := 32) (mi' := mX5_begin) (rest := []) [aR p0] dX5_findWays_32 at552 (by decide) rfl msX5_begin mvX5_begin lkX5_40 rfl (Nat.le_of_ble_eq_true rfl) (fun hn => CV_mono (h) (fun m2 h => ?_))
    refine v_lconst0 (pc := 35) dX5_findWays_35 ?_
    refine v_lstore (pc := 36) (al2 := [(8, aL 0), (0, aR 552), (1, aR p0), (2, aI p1), (3, aI p2), (4, aI p3), (5, aI x5), (6, aI x6), (7, aI x7)]) dX5_findWays_36 (by decide) rfl ?_
    refine v_lconst0 (pc := 38) dX5_findWays_38 ?_
    refine v_lstore (pc := 39) (al2 := [(10, aL 0), (8, aL 0), (0, aR 552), (1, aR p0), (2, aI p1), (3, aI p2), (4, aI p3), (5, aI x5), (6, aI x6), (7, aI x7)]) dX5_findWays_39 (by decide) rfl ?_
    refine v_iconst (pc := 41) dX5_findWays_41 (by decide) ?_
    refine v_istore (pc := 42) (al2 := [(12, aI 0), (10, aL 0), (8, aL 0), (0, aR 552), (1, aR p0), (2, aI p1), (3, aI p2), (4, aI p3), (5, aI x5), (6, aI x6), (7, aI x7)]) dX5_findWays_42 (by decide) rfl ?_
    exact VG_sub (al' := [(0, aR 552), (1, aR p0), (2, aI p1), (3, aI p2), (4, aI p3), (5, aI x5), (6, aI x6), (7, aI x7), (8, aL 0), (10, aL 0), (12, aI 0)]) [3, 4, 5, 6, 7, 8, 9, 10, 2, 1, 0] rfl h
set_option maxRecDepth 20000 in
theorem rX5_findWays_44 {E : EN} (hE : Ep E) {k : Nat} {mem : Mm} {Q : Int → Mm → Prop} {p0 p1 p2 p3 x5 x6 x7 x8 x10 x12 : Int} (hp0 : isYd p0)
    (h : ((x5 ≤ x12 → VM E mX5_findWays (k + 1) mem 126 [(0, aR 552), (1, aR p0), (2, aI p1), (3, aI p2), (4, aI p3), (5, aI x5), (6, aI x6), (7, aI x7), (8, aL x8), (10, aL x10)] [] (retI Q)) ∧ (x12 < x5 → ((8 ≤ x12 → VM E mX5_findWays (k + 1) mem 126 [(0, aR 552), (1, aR p0), (2, aI p1), (3, aI p2), (4, aI p3), (5, aI x5), (6, aI x6), (7, aI x7), (8, aL x8), (10, aL x10)] [] (retI Q)) ∧ (x12 < 8 → ((¬ (xAnd (xShr x7 x12) 1) = 1 → VM E mX5_findWays (k + 1) mem 120 [(0, aR 552), (1, aR p0), (2, aI p1), (3, aI p2), (4, aI p3), (5, aI x5), (6, aI x6), (7, aI x7), (8, aL x8), (10, aL x10), (12, aI x12)] [] (retI Q)) ∧ ((xAnd (xShr x7 x12) 1) = 1 → (0 ≤ x12 ∧ x12 < 8) ∧ (0 ≤ (mem 573 x12) ∧ (mem 573 x12) < 32) ∧ (R64 (x8 + (mem 555 (mem 573 x12)))) ∧ VM E mX5_findWays (k + 1) (aUp mem 556 (mem 573 x12) 1) 120 [(0, aR 552), (1, aR p0), (2, aI p1), (3, aI p2), (4, aI p3), (5, aI x5), (6, aI x6), (7, aI x7), (8, aL (x8 + (mem 555 (mem 573 x12)))), (10, aL (xLor x10 (xLshl 1 (mem 573 x12)))), (12, aI x12)] [] (retI Q)))))))) :
    VM E mX5_findWays (k + 1) mem 44 [(0, aR 552), (1, aR p0), (2, aI p1), (3, aI p2), (4, aI p3), (5, aI x5), (6, aI x6), (7, aI x7), (8, aL x8), (10, aL x10), (12, aI x12)] [] (retI Q) := by
  refine v_iload (pc := 44) dX5_findWays_44 10 rfl ?_
  refine v_iload (pc := 46) dX5_findWays_46 5 rfl ?_
  refine v_icmpge (pc := 48) (tgt := 126) dX5_findWays_48 (by decide) (fun c1 => ?_) (fun c1 => ?_)
  · have h := h.1 c1
    exact VG_sub (al' := [(0, aR 552), (1, aR p0), (2, aI p1), (3, aI p2), (4, aI p3), (5, aI x5), (6, aI x6), (7, aI x7), (8, aL x8), (10, aL x10)]) [0, 1, 2, 3, 4, 5, 6, 7, 8, 9] rfl h
  · have h := h.2 c1
    refine v_iload (pc := 51) dX5_findWays_51 10 rfl ?_
    refine v_bipush (pc := 53) dX5_findWays_53 (by decide) ?_
    refine v_icmpge (pc := 55) (tgt := 126) dX5_findWays_55 (by decide) (fun c1 => ?_) (fun c1 => ?_)
    · have h := h.1 c1
      exact VG_sub (al' := [(0, aR 552), (1, aR p0), (2, aI p1), (3, aI p2), (4, aI p3), (5, aI x5), (6, aI x6), (7, aI x7), (8, aL x8), (10, aL x10)]) [0, 1, 2, 3, 4, 5, 6, 7, 8, 9] rfl h
    · have h := h.2 c1
      refine v_iload (pc := 58) dX5_findWays_58 7 rfl ?_
      refine v_iload (pc := 60) dX5_findWays_60 10 rfl ?_
      refine v_ishr (pc := 62) dX5_findWays_62 ?_
      refine v_iconst (pc := 63) dX5_findWays_63 (by decide) ?_
      refine v_iand (pc := 64) dX5_findWays_64 ?_
      refine v_iconst (pc := 65) dX5_findWays_65 (by decide) ?_
      refine v_icmpne (pc := 66) (tgt := 120) dX5_findWays_66 (by decide) (fun c1 => ?_) (fun c1 => ?_)
      · have h := h.1 c1
        exact VG_sub (al' := [(0, aR 552), (1, aR p0), (2, aI p1), (3, aI p2), (4, aI p3), (5, aI x5), (6, aI x6), (7, aI x7), (8, aL x8), (10, aL x10), (12, aI x12)]) [0, 1, 2, 3, 4, 5, 6, 7, 8, 9, 10] rfl h
      · have h := h.2 c1
        refine v_aload_n (pc := 69) dX5_findWays_69 0 rfl ?_
        refine m_getfin (pc := 70) (v := 553) hE dX5_findWays_70 flX5_12 rfl at552 rfl ?_
        refine m_getfin (pc := 73) (v := 556) hE dX5_findWays_73 flX5_57 rfl (yd0 (show isYd 553 by unfold isYd; omega)) rfl ?_
        refine v_aload_n (pc := 76) dX5_findWays_76 0 rfl ?_
        refine m_getfin (pc := 77) (v := 573) hE dX5_findWays_77 flX5_21 rfl at552 rfl ?_
        refine v_iload (pc := 80) dX5_findWays_80 10 rfl ?_
        obtain ⟨o1, h⟩ := h
        refine m_iald (pc := 82) (v := (mem 573 x12)) dX5_findWays_82 at573 o1.1 o1.2 rfl ?_
        refine v_iconst (pc := 83) dX5_findWays_83 (by decide) ?_
        obtain ⟨o2, h⟩ := h
        refine v_iast (pc := 84) dX5_findWays_84 (yd3 (show isYd 553 by unfold isYd; omega)) o2.1 o2.2 ?_
        refine v_lload (pc := 85) dX5_findWays_85 8 rfl ?_
        refine v_aload_n (pc := 87) dX5_findWays_87 0 rfl ?_
        refine m_getfin (pc := 88) (v := 553) hE dX5_findWays_88 flX5_12 rfl at552 rfl ?_
        refine m_getfin (pc := 91) (v := 555) hE dX5_findWays_91 flX5_60 rfl (yd0 (show isYd 553 by unfold isYd; omega)) rfl ?_
        refine v_aload_n (pc := 94) dX5_findWays_94 0 rfl ?_
        refine m_getfin (pc := 95) (v := 573) hE dX5_findWays_95 flX5_21 rfl at552 rfl ?_
        refine v_iload (pc := 98) dX5_findWays_98 10 rfl ?_
        refine m_iald (pc := 100) (v := (mem 573 x12)) dX5_findWays_100 at573 o1.1 o1.2 (aUp_rn (by omega)) ?_
        refine m_iald (pc := 101) (v := (mem 555 (mem 573 x12))) dX5_findWays_101 (yd2 (show isYd 553 by unfold isYd; omega)) o2.1 o2.2 (aUp_rn (by omega)) ?_
        refine v_i2l (pc := 102) dX5_findWays_102 ?_
        obtain ⟨o3, h⟩ := h
        refine m_ladd (pc := 103) dX5_findWays_103 o3 ?_
        refine v_lstore (pc := 104) (al2 := [(8, aL (x8 + (mem 555 (mem 573 x12)))), (0, aR 552), (1, aR p0), (2, aI p1), (3, aI p2), (4, aI p3), (5, aI x5), (6, aI x6), (7, aI x7), (10, aL x10), (12, aI x12)]) dX5_findWays_104 (by decide) rfl ?_
        refine v_lload (pc := 106) dX5_findWays_106 9 rfl ?_
        refine v_lconst1 (pc := 108) dX5_findWays_108 ?_
        refine v_aload_n (pc := 109) dX5_findWays_109 1 rfl ?_
        refine m_getfin (pc := 110) (v := 573) hE dX5_findWays_110 flX5_21 rfl at552 rfl ?_
        refine v_iload (pc := 113) dX5_findWays_113 10 rfl ?_
        refine m_iald (pc := 115) (v := (mem 573 x12)) dX5_findWays_115 at573 o1.1 o1.2 (aUp_rn (by omega)) ?_
        refine v_lshl (pc := 116) dX5_findWays_116 ?_
        refine v_lor (pc := 117) dX5_findWays_117 ?_
        refine v_lstore (pc := 118) (al2 := [(10, aL (xLor x10 (xLshl 1 (mem 573 x12)))), (8, aL (x8 + (mem 555 (mem 573 x12)))), (0, aR 552), (1, aR p0), (2, aI p1), (3, aI p2), (4, aI p3), (5, aI x5), (6, aI x6), (7, aI x7), (12, aI x12)]) dX5_findWays_118 (by decide) rfl ?_
        exact VG_sub (al' := [(0, aR 552), (1, aR p0), (2, aI p1), (3, aI p2), (4, aI p3), (5, aI x5), (6, aI x6), (7, aI x7), (8, aL (x8 + (mem 555 (mem 573 x12)))), (10, aL (xLor x10 (xLshl 1 (mem 573 x12)))), (12, aI x12)]) [2, 3, 4, 5, 6, 7, 8, 9, 1, 0, 10] rfl h
set_option maxRecDepth 20000 in
theorem rX5_findWays_126 {E : EN} (hE : Ep E) {k : Nat} {mem : Mm} {Q : Int → Mm → Prop} {p0 p1 p2 p3 x5 x6 x7 x8 x10 : Int} (hp0 : isYd p0)
    (h : ((x6 = 0 → VM E mX5_findWays (k + 1) mem 141 [(0, aR 552), (1, aR p0), (2, aI p1), (3, aI p2), (4, aI p3), (5, aI x5), (6, aI x6), (7, aI x7), (8, aL x8), (10, aL x10)] [] (retI Q)) ∧ (¬ x6 = 0 → (((mem 552 5) ≤ x8 → VM E mX5_findWays (k + 1) mem 180 [(0, aR 552), (1, aR p0), (2, aI p1), (3, aI p2), (4, aI p3), (5, aI x5), (6, aI x6), (7, aI x7)] [] (retI Q)) ∧ (x8 < (mem 552 5) → VM E mX5_findWays (k + 1) mem 141 [(0, aR 552), (1, aR p0), (2, aI p1), (3, aI p2), (4, aI p3), (5, aI x5), (6, aI x6), (7, aI x7), (8, aL x8), (10, aL x10)] [] (retI Q)))))) :
    VM E mX5_findWays (k + 1) mem 126 [(0, aR 552), (1, aR p0), (2, aI p1), (3, aI p2), (4, aI p3), (5, aI x5), (6, aI x6), (7, aI x7), (8, aL x8), (10, aL x10)] [] (retI Q) := by
  refine v_iload (pc := 126) dX5_findWays_126 6 rfl ?_
  refine v_ifeq (pc := 128) (tgt := 141) dX5_findWays_128 (by decide) (fun c1 => ?_) (fun c1 => ?_)
  · have h := h.1 c1
    exact VG_sub (al' := [(0, aR 552), (1, aR p0), (2, aI p1), (3, aI p2), (4, aI p3), (5, aI x5), (6, aI x6), (7, aI x7), (8, aL x8), (10, aL x10)]) [0, 1, 2, 3, 4, 5, 6, 7, 8, 9] rfl h
  · have h := h.2 c1
    refine v_lload (pc := 131) dX5_findWays_131 8 rfl ?_
    refine v_aload_n (pc := 133) dX5_findWays_133 0 rfl ?_
    refine m_getf (pc := 134) (t := 1) (v := (mem 552 5)) dX5_findWays_134 flX5_63 rfl at552 rfl ?_
    refine v_lcmpge (pc := 137) (tgt := 145) dX5_findWays_137 dX5_findWays_138 (by decide) (fun c1 => ?_) (fun c1 => ?_)
    · have h := h.1 c1
      refine v_iconst (pc := 145) dX5_findWays_145 (by decide) ?_
      refine v_istore (pc := 146) (al2 := [(12, aI 0), (0, aR 552), (1, aR p0), (2, aI p1), (3, aI p2), (4, aI p3), (5, aI x5), (6, aI x6), (7, aI x7), (8, aL x8), (10, aL x10)]) dX5_findWays_146 (by decide) rfl ?_
      refine v_iload (pc := 148) dX5_findWays_148 0 rfl ?_
      refine v_ifeq (pc := 150) (tgt := 180) dX5_findWays_150 (by decide) (fun c1 => ?_) (fun c1 => absurd c1 (by decide))
      exact VG_sub (al' := [(0, aR 552), (1, aR p0), (2, aI p1), (3, aI p2), (4, aI p3), (5, aI x5), (6, aI x6), (7, aI x7)]) [1, 2, 3, 4, 5, 6, 7, 8] rfl h
    · have h := h.2 c1
      exact VG_sub (al' := [(0, aR 552), (1, aR p0), (2, aI p1), (3, aI p2), (4, aI p3), (5, aI x5), (6, aI x6), (7, aI x7), (8, aL x8), (10, aL x10)]) [0, 1, 2, 3, 4, 5, 6, 7, 8, 9] rfl h
set_option maxRecDepth 20000 in
theorem rX5_findWays_120 {E : EN} (hE : Ep E) {k : Nat} {mem : Mm} {Q : Int → Mm → Prop} {p0 p1 p2 p3 x5 x6 x7 x8 x10 x12 : Int} (hp0 : isYd p0)
    (h : (R32 (x12 + 1)) ∧ VM E mX5_findWays (k + 1) mem 44 [(0, aR 552), (1, aR p0), (2, aI p1), (3, aI p2), (4, aI p3), (5, aI x5), (6, aI x6), (7, aI x7), (8, aL x8), (10, aL x10), (12, aI (x12 + 1))] [] (retI Q)) :
    VM E mX5_findWays (k + 1) mem 120 [(0, aR 552), (1, aR p0), (2, aI p1), (3, aI p2), (4, aI p3), (5, aI x5), (6, aI x6), (7, aI x7), (8, aL x8), (10, aL x10), (12, aI x12)] [] (retI Q) := by
  obtain ⟨o1, h⟩ := h
  refine m_iinc (pc := 120) (al2 := [(12, aI (x12 + 1)), (0, aR 552), (1, aR p0), (2, aI p1), (3, aI p2), (4, aI p3), (5, aI x5), (6, aI x6), (7, aI x7), (8, aL x8), (10, aL x10)]) dX5_findWays_120 10 rfl (by decide) o1 rfl ?_
  refine v_goto (pc := 123) (tgt := 44) dX5_findWays_123 (by decide) ?_
  exact VG_sub (al' := [(0, aR 552), (1, aR p0), (2, aI p1), (3, aI p2), (4, aI p3), (5, aI x5), (6, aI x6), (7, aI x7), (8, aL x8), (10, aL x10), (12, aI (x12 + 1))]) [1, 2, 3, 4, 5, 6, 7, 8, 9, 10, 0] rfl h
set_option maxRecDepth 20000 in
theorem rX5_findWays_141 {E : EN} (hE : Ep E) {k : Nat} {mem : Mm} {Q : Int → Mm → Prop} {p0 p1 p2 p3 x5 x6 x7 x8 x10 : Int} (hp0 : isYd p0)
    (h : (R32 p1 → R32 p2 → R32 p3 → CI E mX5_yearIn k mem [aR 552, aI p1, aI p2, aI p3] (fun r2 m1 => ((r2 = (-1) → VM E mX5_findWays (k + 1) m1 180 [(0, aR 552), (1, aR p0), (2, aI p1), (3, aI p2), (4, aI p3), (5, aI x5), (6, aI x6), (7, aI x7)] [] (retI Q)) ∧ (¬ r2 = (-1) → VM E mX5_findWays (k + 1) (aUp (aUp m1 552 5 x8) 552 6 x10) 180 [(0, aR 552), (1, aR p0), (2, aI p1), (3, aI p2), (4, aI p3), (5, aI x5), (6, aI 1), (7, aI x7)] [] (retI Q)))))) :
    VM E mX5_findWays (k + 1) mem 141 [(0, aR 552), (1, aR p0), (2, aI p1), (3, aI p2), (4, aI p3), (5, aI x5), (6, aI x6), (7, aI x7), (8, aL x8), (10, aL x10)] [] (retI Q) := by
  refine v_iconst (pc := 141) dX5_findWays_141 (by decide) ?_
  refine v_goto (pc := 142) (tgt := 146) dX5_findWays_142 (by decide) ?_
  refine v_istore (pc := 146) (al2 := [(12, aI 1), (0, aR 552), (1, aR p0), (2, aI p1), (3, aI p2), (4, aI p3), (5, aI x5), (6, aI x6), (7, aI x7), (8, aL x8), (10, aL x10)]) dX5_findWays_146 (by decide) rfl ?_
  refine v_iload (pc := 148) dX5_findWays_148 0 rfl ?_
  refine v_ifeq (pc := 150) (tgt := 180) dX5_findWays_150 (by decide) (fun c1 => absurd c1 (by decide)) (fun c1 => ?_)
  refine v_aload_n (pc := 153) dX5_findWays_153 1 rfl ?_
  refine v_iload_n (pc := 154) dX5_findWays_154 3 rfl ?_
  refine v_iload_n (pc := 155) dX5_findWays_155 4 rfl ?_
  refine v_iload (pc := 156) dX5_findWays_156 5 rfl ?_
  refine m_invI (pc := 158) (mi' := mX5_yearIn) (rest := []) [aI p1, aI p2, aI p3] dX5_findWays_158 at552 (by decide) rfl msX5_yearIn mvX5_yearIn lkX5_67 rfl (Nat.le_of_ble_eq_true rfl) (fun hn => CI_mono (h (aaI hn 1 rfl) (aaI hn 2 rfl) (aaI hn 3 rfl)) (fun r2 m1 h => ?_))
  refine v_iconst (pc := 161) dX5_findWays_161 (by decide) ?_
  refine v_icmpeq (pc := 162) (tgt := 180) dX5_findWays_162 (by decide) (fun c1 => ?_) (fun c1 => ?_)
  · have h := h.1 c1
    exact VG_sub (al' := [(0, aR 552), (1, aR p0), (2, aI p1), (3, aI p2), (4, aI p3), (5, aI x5), (6, aI x6), (7, aI x7)]) [1, 2, 3, 4, 5, 6, 7, 8] rfl h
  · have h := h.2 c1
    refine v_iconst (pc := 165) dX5_findWays_165 (by decide) ?_
    refine v_istore (pc := 166) (al2 := [(6, aI 1), (12, aI 1), (0, aR 552), (1, aR p0), (2, aI p1), (3, aI p2), (4, aI p3), (5, aI x5), (7, aI x7), (8, aL x8), (10, aL x10)]) dX5_findWays_166 (by decide) rfl ?_
    refine v_aload_n (pc := 168) dX5_findWays_168 2 rfl ?_
    refine v_lload (pc := 169) dX5_findWays_169 9 rfl ?_
    refine v_putf (pc := 171) dX5_findWays_171 flX5_63 ⟨_, _, rfl, Or.inl rfl⟩ rfl (by decide) (fun q => nomatch q) (Or.inl fun _ => rfl) at552 ?_
    refine v_aload_n (pc := 174) dX5_findWays_174 2 rfl ?_
    refine v_lload (pc := 175) dX5_findWays_175 10 rfl ?_
    refine v_putf (pc := 177) dX5_findWays_177 flX5_71 ⟨_, _, rfl, Or.inl rfl⟩ rfl (by decide) (fun q => nomatch q) (Or.inl fun _ => rfl) at552 ?_
    exact VG_sub (al' := [(0, aR 552), (1, aR p0), (2, aI p1), (3, aI p2), (4, aI p3), (5, aI x5), (6, aI 1), (7, aI x7)]) [2, 3, 4, 5, 6, 7, 0, 8] rfl h
set_option maxRecDepth 20000 in
theorem rX5_findWays_180 {E : EN} (hE : Ep E) {k : Nat} {mem : Mm} {Q : Int → Mm → Prop} {p0 p1 p2 p3 x5 x6 x7 : Int} (hp0 : isYd p0)
    (h : (R32 (x7 + 1)) ∧ VM E mX5_findWays (k + 1) mem 21 [(0, aR 552), (1, aR p0), (2, aI p1), (3, aI p2), (4, aI p3), (5, aI x5), (6, aI x6), (7, aI (x7 + 1))] [] (retI Q)) :
    VM E mX5_findWays (k + 1) mem 180 [(0, aR 552), (1, aR p0), (2, aI p1), (3, aI p2), (4, aI p3), (5, aI x5), (6, aI x6), (7, aI x7)] [] (retI Q) := by
  obtain ⟨o1, h⟩ := h
  refine m_iinc (pc := 180) (al2 := [(7, aI (x7 + 1)), (0, aR 552), (1, aR p0), (2, aI p1), (3, aI p2), (4, aI p3), (5, aI x5), (6, aI x6)]) dX5_findWays_180 7 rfl (by decide) o1 rfl ?_
  refine v_goto (pc := 183) (tgt := 21) dX5_findWays_183 (by decide) ?_
  exact VG_sub (al' := [(0, aR 552), (1, aR p0), (2, aI p1), (3, aI p2), (4, aI p3), (5, aI x5), (6, aI x6), (7, aI (x7 + 1))]) [1, 2, 3, 4, 5, 6, 7, 0] rfl h

theorem dX5_listOpenWalls_0 : decode cX5_listOpenWalls 0 = .ok (.iconst 0, 1) := by decide +kernel
theorem dX5_listOpenWalls_1 : decode cX5_listOpenWalls 1 = .ok (.istore_n 2, 1) := by decide +kernel
theorem dX5_listOpenWalls_2 : decode cX5_listOpenWalls 2 = .ok (.iconst 0, 1) := by decide +kernel
theorem dX5_listOpenWalls_3 : decode cX5_listOpenWalls 3 = .ok (.istore_n 3, 1) := by decide +kernel
theorem dX5_listOpenWalls_4 : decode cX5_listOpenWalls 4 = .ok (.iload_n 3, 1) := by decide +kernel
theorem dX5_listOpenWalls_5 : decode cX5_listOpenWalls 5 = .ok (.bipush 32, 2) := by decide +kernel
theorem dX5_listOpenWalls_7 : decode cX5_listOpenWalls 7 = .ok (.if_icmp .ge 46, 3) := by decide +kernel
theorem dX5_listOpenWalls_10 : decode cX5_listOpenWalls 10 = .ok (.aload_n 1, 1) := by decide +kernel
theorem dX5_listOpenWalls_11 : decode cX5_listOpenWalls 11 = .ok (.getfield 74, 3) := by decide +kernel
theorem dX5_listOpenWalls_14 : decode cX5_listOpenWalls 14 = .ok (.iload_n 3, 1) := by decide +kernel
theorem dX5_listOpenWalls_15 : decode cX5_listOpenWalls 15 = .ok (.iaload, 1) := by decide +kernel
theorem dX5_listOpenWalls_16 : decode cX5_listOpenWalls 16 = .ok (.iconst 1, 1) := by decide +kernel
theorem dX5_listOpenWalls_17 : decode cX5_listOpenWalls 17 = .ok (.if_icmp .ne 30, 3) := by decide +kernel
theorem dX5_listOpenWalls_20 : decode cX5_listOpenWalls 20 = .ok (.aload_n 1, 1) := by decide +kernel
theorem dX5_listOpenWalls_21 : decode cX5_listOpenWalls 21 = .ok (.getfield 57, 3) := by decide +kernel
theorem dX5_listOpenWalls_24 : decode cX5_listOpenWalls 24 = .ok (.iload_n 3, 1) := by decide +kernel
theorem dX5_listOpenWalls_25 : decode cX5_listOpenWalls 25 = .ok (.iaload, 1) := by decide +kernel
theorem dX5_listOpenWalls_26 : decode cX5_listOpenWalls 26 = .ok (.ifCond .ne 21, 3) := by decide +kernel
theorem dX5_listOpenWalls_29 : decode cX5_listOpenWalls 29 = .ok (.iload_n 2, 1) := by decide +kernel
theorem dX5_listOpenWalls_30 : decode cX5_listOpenWalls 30 = .ok (.bipush 8, 2) := by decide +kernel
theorem dX5_listOpenWalls_32 : decode cX5_listOpenWalls 32 = .ok (.if_icmp .lt 5, 3) := by decide +kernel
theorem dX5_listOpenWalls_35 : decode cX5_listOpenWalls 35 = .ok (.iconst (-1), 1) := by decide +kernel
theorem dX5_listOpenWalls_36 : decode cX5_listOpenWalls 36 = .ok (.ireturn, 1) := by decide +kernel
theorem dX5_listOpenWalls_37 : decode cX5_listOpenWalls 37 = .ok (.aload_n 0, 1) := by decide +kernel
theorem dX5_listOpenWalls_38 : decode cX5_listOpenWalls 38 = .ok (.getfield 21, 3) := by decide +kernel
theorem dX5_listOpenWalls_41 : decode cX5_listOpenWalls 41 = .ok (.iload_n 2, 1) := by decide +kernel
theorem dX5_listOpenWalls_42 : decode cX5_listOpenWalls 42 = .ok (.iload_n 3, 1) := by decide +kernel
theorem dX5_listOpenWalls_43 : decode cX5_listOpenWalls 43 = .ok (.iastore, 1) := by decide +kernel
theorem dX5_listOpenWalls_44 : decode cX5_listOpenWalls 44 = .ok (.iinc 2 1, 3) := by decide +kernel
theorem dX5_listOpenWalls_47 : decode cX5_listOpenWalls 47 = .ok (.iinc 3 1, 3) := by decide +kernel
theorem dX5_listOpenWalls_50 : decode cX5_listOpenWalls 50 = .ok (.goto (-46), 3) := by decide +kernel
theorem dX5_listOpenWalls_53 : decode cX5_listOpenWalls 53 = .ok (.iload_n 2, 1) := by decide +kernel
theorem dX5_listOpenWalls_54 : decode cX5_listOpenWalls 54 = .ok (.ireturn, 1) := by decide +kernel
set_option maxRecDepth 20000 in
theorem rX5_listOpenWalls_0 {E : EN} (hE : Ep E) {k : Nat} {mem : Mm} {Q : Int → Mm → Prop} {p0 : Int} (hp0 : isYd p0)
    (h : VM E mX5_listOpenWalls k mem 4 [(0, aR 552), (1, aR p0), (2, aI 0), (3, aI 0)] [] (retI Q)) :
    VM E mX5_listOpenWalls k mem 0 [(0, aR 552), (1, aR p0)] [] (retI Q) := by
  refine v_iconst (pc := 0) dX5_listOpenWalls_0 (by decide) ?_
  refine v_istore_n (pc := 1) (al2 := [(2, aI 0), (0, aR 552), (1, aR p0)]) dX5_listOpenWalls_1 (by decide) rfl ?_
  refine v_iconst (pc := 2) dX5_listOpenWalls_2 (by decide) ?_
  refine v_istore_n (pc := 3) (al2 := [(3, aI 0), (2, aI 0), (0, aR 552), (1, aR p0)]) dX5_listOpenWalls_3 (by decide) rfl ?_
  exact VG_sub (al' := [(0, aR 552), (1, aR p0), (2, aI 0), (3, aI 0)]) [2, 3, 1, 0] rfl h
theorem eX5_listOpenWalls {E : EN} {k : Nat} {mem : Mm} {Q : Int → Mm → Prop} {p0 : Int}  (h : VM E mX5_listOpenWalls k mem 0 [(0, aR 552), (1, aR p0)] [] (retI Q)) : CI E mX5_listOpenWalls k mem [aR 552, aR p0] Q := CI_of rfl (Nat.le_of_ble_eq_true rfl) h (aNs_c (aNr_R _) (aNs_c (aNr_R _) (fun _ q => nomatch q)))
set_option maxRecDepth 20000 in
theorem rX5_listOpenWalls_4 {E : EN} (hE : Ep E) {k : Nat} {mem : Mm} {Q : Int → Mm → Prop} {p0 x2 x3 : Int} (hp0 : isYd p0)
    (h : ((32 ≤ x3 → Q x2 mem) ∧ (x3 < 32 → (0 ≤ x3 ∧ x3 < 32) ∧ ((¬ (mem (p0 + 1) x3) = 1 → (R32 (x3 + 1)) ∧ VM E mX5_listOpenWalls k mem 4 [(0, aR 552), (1, aR p0), (2, aI x2), (3, aI (x3 + 1))] [] (retI Q)) ∧ ((mem (p0 + 1) x3) = 1 → ((¬ (mem (p0 + 3) x3) = 0 → (R32 (x3 + 1)) ∧ VM E mX5_listOpenWalls k mem 4 [(0, aR 552), (1, aR p0), (2, aI x2), (3, aI (x3 + 1))] [] (retI Q)) ∧ ((mem (p0 + 3) x3) = 0 → ((x2 < 8 → (0 ≤ x2 ∧ x2 < 8) ∧ (R32 (x2 + 1)) ∧ (R32 (x3 + 1)) ∧ VM E mX5_listOpenWalls k (aUp mem 573 x2 x3) 4 [(0, aR 552), (1, aR p0), (2, aI (x2 + 1)), (3, aI (x3 + 1))] [] (retI Q)) ∧ (8 ≤ x2 → Q (-1) mem))))))))) :
    VM E mX5_listOpenWalls k mem 4 [(0, aR 552), (1, aR p0), (2, aI x2), (3, aI x3)] [] (retI Q) := by
  refine v_iload_n (pc := 4) dX5_listOpenWalls_4 3 rfl ?_
  refine v_bipush (pc := 5) dX5_listOpenWalls_5 (by decide) ?_
  refine v_icmpge (pc := 7) (tgt := 53) dX5_listOpenWalls_7 (by decide) (fun c1 => ?_) (fun c1 => ?_)
  · have h := h.1 c1
    refine v_iload_n (pc := 53) dX5_listOpenWalls_53 2 rfl ?_
    exact m_retI (pc := 54) dX5_listOpenWalls_54 rfl h
  · have h := h.2 c1
    refine v_aload_n (pc := 10) dX5_listOpenWalls_10 1 rfl ?_
    refine m_getfin (pc := 11) (v := (p0 + 1)) hE dX5_listOpenWalls_11 flX5_74 rfl (yd0 hp0) rfl ?_
    refine v_iload_n (pc := 14) dX5_listOpenWalls_14 3 rfl ?_
    obtain ⟨o1, h⟩ := h
    refine m_iald (pc := 15) (v := (mem (p0 + 1) x3)) dX5_listOpenWalls_15 (yd1 hp0) o1.1 o1.2 rfl ?_
    refine v_iconst (pc := 16) dX5_listOpenWalls_16 (by decide) ?_
    refine v_icmpne (pc := 17) (tgt := 47) dX5_listOpenWalls_17 (by decide) (fun c1 => ?_) (fun c1 => ?_)
    · have h := h.1 c1
      obtain ⟨o2, h⟩ := h
      refine m_iinc (pc := 47) (al2 := [(3, aI (x3 + 1)), (0, aR 552), (1, aR p0), (2, aI x2)]) dX5_listOpenWalls_47 3 rfl (by decide) o2 rfl ?_
      refine v_goto (pc := 50) (tgt := 4) dX5_listOpenWalls_50 (by decide) ?_
      exact VG_sub (al' := [(0, aR 552), (1, aR p0), (2, aI x2), (3, aI (x3 + 1))]) [1, 2, 3, 0] rfl h
    · have h := h.2 c1
      refine v_aload_n (pc := 20) dX5_listOpenWalls_20 1 rfl ?_
      refine m_getfin (pc := 21) (v := (p0 + 3)) hE dX5_listOpenWalls_21 flX5_57 rfl (yd0 hp0) rfl ?_
      refine v_iload_n (pc := 24) dX5_listOpenWalls_24 3 rfl ?_
      refine m_iald (pc := 25) (v := (mem (p0 + 3) x3)) dX5_listOpenWalls_25 (yd3 hp0) o1.1 o1.2 rfl ?_
      refine v_ifne (pc := 26) (tgt := 47) dX5_listOpenWalls_26 (by decide) (fun c1 => ?_) (fun c1 => ?_)
      · have h := h.1 c1
        obtain ⟨o3, h⟩ := h
        refine m_iinc (pc := 47) (al2 := [(3, aI (x3 + 1)), (0, aR 552), (1, aR p0), (2, aI x2)]) dX5_listOpenWalls_47 3 rfl (by decide) o3 rfl ?_
        refine v_goto (pc := 50) (tgt := 4) dX5_listOpenWalls_50 (by decide) ?_
        exact VG_sub (al' := [(0, aR 552), (1, aR p0), (2, aI x2), (3, aI (x3 + 1))]) [1, 2, 3, 0] rfl h
      · have h := h.2 c1
        refine v_iload_n (pc := 29) dX5_listOpenWalls_29 2 rfl ?_
        refine v_bipush (pc := 30) dX5_listOpenWalls_30 (by decide) ?_
        refine v_icmplt (pc := 32) (tgt := 37) dX5_listOpenWalls_32 (by decide) (fun c1 => ?_) (fun c1 => ?_)
        · have h := h.1 c1
          refine v_aload_n (pc := 37) dX5_listOpenWalls_37 0 rfl ?_
          refine m_getfin (pc := 38) (v := 573) hE dX5_listOpenWalls_38 flX5_21 rfl at552 rfl ?_
          refine v_iload_n (pc := 41) dX5_listOpenWalls_41 2 rfl ?_
          refine v_iload_n (pc := 42) dX5_listOpenWalls_42 3 rfl ?_
          obtain ⟨o4, h⟩ := h
          refine v_iast (pc := 43) dX5_listOpenWalls_43 at573 o4.1 o4.2 ?_
          obtain ⟨o5, h⟩ := h
          refine m_iinc (pc := 44) (al2 := [(2, aI (x2 + 1)), (0, aR 552), (1, aR p0), (3, aI x3)]) dX5_listOpenWalls_44 2 rfl (by decide) o5 rfl ?_
          obtain ⟨o6, h⟩ := h
          refine m_iinc (pc := 47) (al2 := [(3, aI (x3 + 1)), (2, aI (x2 + 1)), (0, aR 552), (1, aR p0)]) dX5_listOpenWalls_47 3 rfl (by decide) o6 rfl ?_
          refine v_goto (pc := 50) (tgt := 4) dX5_listOpenWalls_50 (by decide) ?_
          exact VG_sub (al' := [(0, aR 552), (1, aR p0), (2, aI (x2 + 1)), (3, aI (x3 + 1))]) [2, 3, 1, 0] rfl h
        · have h := h.2 c1
          refine v_iconst (pc := 35) dX5_listOpenWalls_35 (by decide) ?_
          exact m_retI (pc := 36) dX5_listOpenWalls_36 rfl h

theorem dX5_yearIn_0 : decode cX5_yearIn 0 = .ok (.iconst 0, 1) := by decide +kernel
theorem dX5_yearIn_1 : decode cX5_yearIn 1 = .ok (.istore 4, 2) := by decide +kernel
theorem dX5_yearIn_3 : decode cX5_yearIn 3 = .ok (.iload 4, 2) := by decide +kernel
theorem dX5_yearIn_5 : decode cX5_yearIn 5 = .ok (.iload_n 3, 1) := by decide +kernel
theorem dX5_yearIn_6 : decode cX5_yearIn 6 = .ok (.if_icmp .gt 38, 3) := by decide +kernel
theorem dX5_yearIn_9 : decode cX5_yearIn 9 = .ok (.aload_n 0, 1) := by decide +kernel
theorem dX5_yearIn_10 : decode cX5_yearIn 10 = .ok (.getfield 12, 3) := by decide +kernel
theorem dX5_yearIn_13 : decode cX5_yearIn 13 = .ok (.getfield 46, 3) := by decide +kernel
theorem dX5_yearIn_16 : decode cX5_yearIn 16 = .ok (.iload_n 1, 1) := by decide +kernel
theorem dX5_yearIn_17 : decode cX5_yearIn 17 = .ok (.iaload, 1) := by decide +kernel
theorem dX5_yearIn_18 : decode cX5_yearIn 18 = .ok (.iload_n 2, 1) := by decide +kernel
theorem dX5_yearIn_19 : decode cX5_yearIn 19 = .ok (.if_icmp .ne 6, 3) := by decide +kernel
theorem dX5_yearIn_22 : decode cX5_yearIn 22 = .ok (.iload 4, 2) := by decide +kernel
theorem dX5_yearIn_24 : decode cX5_yearIn 24 = .ok (.ireturn, 1) := by decide +kernel
theorem dX5_yearIn_25 : decode cX5_yearIn 25 = .ok (.iload 4, 2) := by decide +kernel
theorem dX5_yearIn_27 : decode cX5_yearIn 27 = .ok (.iload_n 3, 1) := by decide +kernel
theorem dX5_yearIn_28 : decode cX5_yearIn 28 = .ok (.if_icmp .ge 10, 3) := by decide +kernel
theorem dX5_yearIn_31 : decode cX5_yearIn 31 = .ok (.aload_n 0, 1) := by decide +kernel
theorem dX5_yearIn_32 : decode cX5_yearIn 32 = .ok (.getfield 12, 3) := by decide +kernel
theorem dX5_yearIn_35 : decode cX5_yearIn 35 = .ok (.invokevirtual 43, 3) := by decide +kernel
theorem dX5_yearIn_38 : decode cX5_yearIn 38 = .ok (.iinc 4 1, 3) := by decide +kernel
theorem dX5_yearIn_41 : decode cX5_yearIn 41 = .ok (.goto (-38), 3) := by decide +kernel
theorem dX5_yearIn_44 : decode cX5_yearIn 44 = .ok (.iconst (-1), 1) := by decide +kernel
theorem dX5_yearIn_45 : decode cX5_yearIn 45 = .ok (.ireturn, 1) := by decide +kernel
set_option maxRecDepth 20000 in
theorem rX5_yearIn_0 {E : EN} (hE : Ep E) {k : Nat} {mem : Mm} {Q : Int → Mm → Prop} {p0 p1 p2 : Int}
    (h : VM E mX5_yearIn (k + 1) mem 3 [(0, aR 552), (1, aI p0), (2, aI p1), (3, aI p2), (4, aI 0)] [] (retI Q)) :
    VM E mX5_yearIn (k + 1) mem 0 [(0, aR 552), (1, aI p0), (2, aI p1), (3, aI p2)] [] (retI Q) := by
  refine v_iconst (pc := 0) dX5_yearIn_0 (by decide) ?_
  refine v_istore (pc := 1) (al2 := [(4, aI 0), (0, aR 552), (1, aI p0), (2, aI p1), (3, aI p2)]) dX5_yearIn_1 (by decide) rfl ?_
  exact VG_sub (al' := [(0, aR 552), (1, aI p0), (2, aI p1), (3, aI p2), (4, aI 0)]) [1, 2, 3, 4, 0] rfl h
theorem eX5_yearIn {E : EN} {k : Nat} {mem : Mm} {Q : Int → Mm → Prop} {p0 p1 p2 : Int} (hr_p0 : R32 p0) (hr_p1 : R32 p1) (hr_p2 : R32 p2) (h : VM E mX5_yearIn (k + 1) mem 0 [(0, aR 552), (1, aI p0), (2, aI p1), (3, aI p2)] [] (retI Q)) : CI E mX5_yearIn (k + 1) mem [aR 552, aI p0, aI p1, aI p2] Q := CI_of rfl (Nat.le_of_ble_eq_true rfl) h (aNs_c (aNr_R _) (aNs_c (aNr_I hr_p0) (aNs_c (aNr_I hr_p1) (aNs_c (aNr_I hr_p2) (fun _ q => nomatch q)))))
set_option maxRecDepth 20000 in
theorem rX5_yearIn_3 {E : EN} (hE : Ep E) {k : Nat} {mem : Mm} {Q : Int → Mm → Prop} {p0 p1 p2 x4 : Int}
    (h : ((p2 < x4 → Q (-1) mem) ∧ (x4 ≤ p2 → (0 ≤ p0 ∧ p0 < 10) ∧ ((¬ (mem 557 p0) = p1 → ((p2 ≤ x4 → (R32 (x4 + 1)) ∧ VM E mX5_yearIn (k + 1) mem 3 [(0, aR 552), (1, aI p0), (2, aI p1), (3, aI p2), (4, aI (x4 + 1))] [] (retI Q)) ∧ (x4 < p2 → (CV E mX10_turnYear k mem [aR 553] (fun m3 => (R32 (x4 + 1)) ∧ VM E mX5_yearIn (k + 1) m3 3 [(0, aR 552), (1, aI p0), (2, aI p1), (3, aI p2), (4, aI (x4 + 1))] [] (retI Q)))))) ∧ ((mem 557 p0) = p1 → Q x4 mem))))) :
    VM E mX5_yearIn (k + 1) mem 3 [(0, aR 552), (1, aI p0), (2, aI p1), (3, aI p2), (4, aI x4)] [] (retI Q) := by
  refine v_iload (pc := 3) dX5_yearIn_3 4 rfl ?_
  refine v_iload_n (pc := 5) dX5_yearIn_5 3 rfl ?_
  refine v_icmpgt (pc := 6) (tgt := 44) dX5_yearIn_6 (by decide) (fun c1 => ?_) (fun c1 => ?_)
  · have h := h.1 c1
    refine v_iconst (pc := 44) dX5_yearIn_44 (by decide) ?_
    exact m_retI (pc := 45) dX5_yearIn_45 rfl h
  · have h := h.2 c1
    refine v_aload_n (pc := 9) dX5_yearIn_9 0 rfl ?_
    refine m_getfin (pc := 10) (v := 553) hE dX5_yearIn_10 flX5_12 rfl at552 rfl ?_
    refine m_getfin (pc := 13) (v := 557) hE dX5_yearIn_13 flX5_46 rfl (yd0 (show isYd 553 by unfold isYd; omega)) rfl ?_
    refine v_iload_n (pc := 16) dX5_yearIn_16 1 rfl ?_
    obtain ⟨o1, h⟩ := h
    refine m_iald (pc := 17) (v := (mem 557 p0)) dX5_yearIn_17 (yd4 (show isYd 553 by unfold isYd; omega)) o1.1 o1.2 rfl ?_
    refine v_iload_n (pc := 18) dX5_yearIn_18 2 rfl ?_
    refine v_icmpne (pc := 19) (tgt := 25) dX5_yearIn_19 (by decide) (fun c1 => ?_) (fun c1 => ?_)
    · have h := h.1 c1
      refine v_iload (pc := 25) dX5_yearIn_25 4 rfl ?_
      refine v_iload_n (pc := 27) dX5_yearIn_27 3 rfl ?_
      refine v_icmpge (pc := 28) (tgt := 38) dX5_yearIn_28 (by decide) (fun c1 => ?_) (fun c1 => ?_)
      · have h := h.1 c1
        obtain ⟨o2, h⟩ := h
        refine m_iinc (pc := 38) (al2 := [(4, aI (x4 + 1)), (0, aR 552), (1, aI p0), (2, aI p1), (3, aI p2)]) dX5_yearIn_38 4 rfl (by decide) o2 rfl ?_
        refine v_goto (pc := 41) (tgt := 3) dX5_yearIn_41 (by decide) ?_
        exact VG_sub (al' := [(0, aR 552), (1, aI p0), (2, aI p1), (3, aI p2), (4, aI (x4 + 1))]) [1, 2, 3, 4, 0] rfl h
      · have h := h.2 c1
        refine v_aload_n (pc := 31) dX5_yearIn_31 0 rfl ?_
        refine m_getfin (pc := 32) (v := 553) hE dX5_yearIn_32 flX5_12 rfl at552 rfl ?_
        refine m_invV (pc := 35) (mi' := mX10_turnYear) (rest := []) [] dX5_yearIn_35 (yd0 (show isYd 553 by unfold isYd; omega)) (by decide) rfl msX10_turnYear mvX10_turnYear lkX5_43 rfl (Nat.le_of_ble_eq_true rfl) (fun hn => CV_mono (h) (fun m3 h => ?_))
        obtain ⟨o4, h⟩ := h
        refine m_iinc (pc := 38) (al2 := [(4, aI (x4 + 1)), (0, aR 552), (1, aI p0), (2, aI p1), (3, aI p2)]) dX5_yearIn_38 4 rfl (by decide) o4 rfl ?_
        refine v_goto (pc := 41) (tgt := 3) dX5_yearIn_41 (by decide) ?_
        exact VG_sub (al' := [(0, aR 552), (1, aI p0), (2, aI p1), (3, aI p2), (4, aI (x4 + 1))]) [1, 2, 3, 4, 0] rfl h
    · have h := h.2 c1
      refine v_iload (pc := 22) dX5_yearIn_22 4 rfl ?_
      exact m_retI (pc := 24) dX5_yearIn_24 rfl h

theorem dX5_meeting_0 : decode cX5_meeting 0 = .ok (.aload_n 0, 1) := by decide +kernel
theorem dX5_meeting_1 : decode cX5_meeting 1 = .ok (.aload_n 1, 1) := by decide +kernel
theorem dX5_meeting_2 : decode cX5_meeting 2 = .ok (.invokevirtual 40, 3) := by decide +kernel
theorem dX5_meeting_5 : decode cX5_meeting 5 = .ok (.iconst 0, 1) := by decide +kernel
theorem dX5_meeting_6 : decode cX5_meeting 6 = .ok (.istore 4, 2) := by decide +kernel
theorem dX5_meeting_8 : decode cX5_meeting 8 = .ok (.iconst 1, 1) := by decide +kernel
theorem dX5_meeting_9 : decode cX5_meeting 9 = .ok (.istore 5, 2) := by decide +kernel
theorem dX5_meeting_11 : decode cX5_meeting 11 = .ok (.iload 5, 2) := by decide +kernel
theorem dX5_meeting_13 : decode cX5_meeting 13 = .ok (.iload_n 2, 1) := by decide +kernel
theorem dX5_meeting_14 : decode cX5_meeting 14 = .ok (.if_icmp .gt 124, 3) := by decide +kernel
theorem dX5_meeting_17 : decode cX5_meeting 17 = .ok (.aload_n 0, 1) := by decide +kernel
theorem dX5_meeting_18 : decode cX5_meeting 18 = .ok (.getfield 18, 3) := by decide +kernel
theorem dX5_meeting_21 : decode cX5_meeting 21 = .ok (.aload_n 0, 1) := by decide +kernel
theorem dX5_meeting_22 : decode cX5_meeting 22 = .ok (.getfield 12, 3) := by decide +kernel
theorem dX5_meeting_25 : decode cX5_meeting 25 = .ok (.invokevirtual 32, 3) := by decide +kernel
theorem dX5_meeting_28 : decode cX5_meeting 28 = .ok (.aload_n 0, 1) := by decide +kernel
theorem dX5_meeting_29 : decode cX5_meeting 29 = .ok (.getfield 12, 3) := by decide +kernel
theorem dX5_meeting_32 : decode cX5_meeting 32 = .ok (.invokevirtual 43, 3) := by decide +kernel
theorem dX5_meeting_35 : decode cX5_meeting 35 = .ok (.iconst 0, 1) := by decide +kernel
theorem dX5_meeting_36 : decode cX5_meeting 36 = .ok (.istore 6, 2) := by decide +kernel
theorem dX5_meeting_38 : decode cX5_meeting 38 = .ok (.iload 6, 2) := by decide +kernel
theorem dX5_meeting_40 : decode cX5_meeting 40 = .ok (.aload_n 0, 1) := by decide +kernel
theorem dX5_meeting_41 : decode cX5_meeting 41 = .ok (.getfield 12, 3) := by decide +kernel
theorem dX5_meeting_44 : decode cX5_meeting 44 = .ok (.getfield 77, 3) := by decide +kernel
theorem dX5_meeting_47 : decode cX5_meeting 47 = .ok (.if_icmp .ge 85, 3) := by decide +kernel
theorem dX5_meeting_50 : decode cX5_meeting 50 = .ok (.iload 6, 2) := by decide +kernel
theorem dX5_meeting_52 : decode cX5_meeting 52 = .ok (.iconst 1, 1) := by decide +kernel
theorem dX5_meeting_53 : decode cX5_meeting 53 = .ok (.iadd, 1) := by decide +kernel
theorem dX5_meeting_54 : decode cX5_meeting 54 = .ok (.istore 7, 2) := by decide +kernel
theorem dX5_meeting_56 : decode cX5_meeting 56 = .ok (.iload 7, 2) := by decide +kernel
theorem dX5_meeting_58 : decode cX5_meeting 58 = .ok (.aload_n 0, 1) := by decide +kernel
theorem dX5_meeting_59 : decode cX5_meeting 59 = .ok (.getfield 12, 3) := by decide +kernel
theorem dX5_meeting_62 : decode cX5_meeting 62 = .ok (.getfield 77, 3) := by decide +kernel
theorem dX5_meeting_65 : decode cX5_meeting 65 = .ok (.if_icmp .ge 61, 3) := by decide +kernel
theorem dX5_meeting_68 : decode cX5_meeting 68 = .ok (.aload_n 0, 1) := by decide +kernel
theorem dX5_meeting_69 : decode cX5_meeting 69 = .ok (.getfield 12, 3) := by decide +kernel
theorem dX5_meeting_72 : decode cX5_meeting 72 = .ok (.iload 6, 2) := by decide +kernel
theorem dX5_meeting_74 : decode cX5_meeting 74 = .ok (.iload 7, 2) := by decide +kernel
theorem dX5_meeting_76 : decode cX5_meeting 76 = .ok (.invokevirtual 81, 3) := by decide +kernel
theorem dX5_meeting_79 : decode cX5_meeting 79 = .ok (.ifCond .eq 41, 3) := by decide +kernel
theorem dX5_meeting_82 : decode cX5_meeting 82 = .ok (.aload_n 0, 1) := by decide +kernel
theorem dX5_meeting_83 : decode cX5_meeting 83 = .ok (.getfield 18, 3) := by decide +kernel
theorem dX5_meeting_86 : decode cX5_meeting 86 = .ok (.iload 6, 2) := by decide +kernel
theorem dX5_meeting_88 : decode cX5_meeting 88 = .ok (.iload 7, 2) := by decide +kernel
theorem dX5_meeting_90 : decode cX5_meeting 90 = .ok (.invokevirtual 81, 3) := by decide +kernel
theorem dX5_meeting_93 : decode cX5_meeting 93 = .ok (.ifCond .ne 27, 3) := by decide +kernel
theorem dX5_meeting_96 : decode cX5_meeting 96 = .ok (.iload 4, 2) := by decide +kernel
theorem dX5_meeting_98 : decode cX5_meeting 98 = .ok (.iload_n 3, 1) := by decide +kernel
theorem dX5_meeting_99 : decode cX5_meeting 99 = .ok (.if_icmp .ne 18, 3) := by decide +kernel
theorem dX5_meeting_102 : decode cX5_meeting 102 = .ok (.bipush 100, 2) := by decide +kernel
theorem dX5_meeting_104 : decode cX5_meeting 104 = .ok (.iload 5, 2) := by decide +kernel
theorem dX5_meeting_106 : decode cX5_meeting 106 = .ok (.imul, 1) := by decide +kernel
theorem dX5_meeting_107 : decode cX5_meeting 107 = .ok (.bipush 10, 2) := by decide +kernel
theorem dX5_meeting_109 : decode cX5_meeting 109 = .ok (.iload 6, 2) := by decide +kernel
theorem dX5_meeting_111 : decode cX5_meeting 111 = .ok (.imul, 1) := by decide +kernel
theorem dX5_meeting_112 : decode cX5_meeting 112 = .ok (.iadd, 1) := by decide +kernel
theorem dX5_meeting_113 : decode cX5_meeting 113 = .ok (.iload 7, 2) := by decide +kernel
theorem dX5_meeting_115 : decode cX5_meeting 115 = .ok (.iadd, 1) := by decide +kernel
theorem dX5_meeting_116 : decode cX5_meeting 116 = .ok (.ireturn, 1) := by decide +kernel
theorem dX5_meeting_117 : decode cX5_meeting 117 = .ok (.iinc 4 1, 3) := by decide +kernel
theorem dX5_meeting_120 : decode cX5_meeting 120 = .ok (.iinc 7 1, 3) := by decide +kernel
theorem dX5_meeting_123 : decode cX5_meeting 123 = .ok (.goto (-67), 3) := by decide +kernel
theorem dX5_meeting_126 : decode cX5_meeting 126 = .ok (.iinc 6 1, 3) := by decide +kernel
theorem dX5_meeting_129 : decode cX5_meeting 129 = .ok (.goto (-91), 3) := by decide +kernel
theorem dX5_meeting_132 : decode cX5_meeting 132 = .ok (.iinc 5 1, 3) := by decide +kernel
theorem dX5_meeting_135 : decode cX5_meeting 135 = .ok (.goto (-124), 3) := by decide +kernel
theorem dX5_meeting_138 : decode cX5_meeting 138 = .ok (.iload_n 3, 1) := by decide +kernel
theorem dX5_meeting_139 : decode cX5_meeting 139 = .ok (.iconst (-1), 1) := by decide +kernel
theorem dX5_meeting_140 : decode cX5_meeting 140 = .ok (.if_icmp .ne 8, 3) := by decide +kernel
theorem dX5_meeting_143 : decode cX5_meeting 143 = .ok (.iload 4, 2) := by decide +kernel
theorem dX5_meeting_145 : decode cX5_meeting 145 = .ok (.goto 4, 3) := by decide +kernel
theorem dX5_meeting_148 : decode cX5_meeting 148 = .ok (.iconst (-1), 1) := by decide +kernel
theorem dX5_meeting_149 : decode cX5_meeting 149 = .ok (.ireturn, 1) := by decide +kernel
set_option maxRecDepth 20000 in
theorem rX5_meeting_0 {E : EN} (hE : Ep E) {k : Nat} {mem : Mm} {Q : Int → Mm → Prop} {p0 p1 p2 : Int} (hp0 : isYd p0)
    (h : (CV E mX5_begin k mem [aR 552, aR p0] (fun m1 => VM E mX5_meeting (k + 1) m1 11 [(0, aR 552), (2, aI p1), (3, aI p2), (4, aI 0), (5, aI 1)] [] (retI Q)))) :
    VM E mX5_meeting (k + 1) mem 0 [(0, aR 552), (1, aR p0), (2, aI p1), (3, aI p2)] [] (retI Q) := by
  refine v_aload_n (pc := 0) dX5_meeting_0 0 rfl ?_
  refine v_aload_n (pc := 1) dX5_meeting_1 1 rfl ?_
  refine m_invV (pc := 2) (mi' := mX5_begin) (rest := []) [aR p0] dX5_meeting_2 at552 (by decide) rfl msX5_begin mvX5_begin lkX5_40 rfl (Nat.le_of_ble_eq_true rfl) (fun hn => CV_mono (h) (fun m1 h => ?_))
  refine v_iconst (pc := 5) dX5_meeting_5 (by decide) ?_
  refine v_istore (pc := 6) (al2 := [(4, aI 0), (0, aR 552), (1, aR p0), (2, aI p1), (3, aI p2)]) dX5_meeting_6 (by decide) rfl ?_
  refine v_iconst (pc := 8) dX5_meeting_8 (by decide) ?_
  refine v_istore (pc := 9) (al2 := [(5, aI 1), (4, aI 0), (0, aR 552), (1, aR p0), (2, aI p1), (3, aI p2)]) dX5_meeting_9 (by decide) rfl ?_
  exact VG_sub (al' := [(0, aR 552), (2, aI p1), (3, aI p2), (4, aI 0), (5, aI 1)]) [2, 4, 5, 1, 0] rfl h
theorem eX5_meeting {E : EN} {k : Nat} {mem : Mm} {Q : Int → Mm → Prop} {p0 p1 p2 : Int} (hr_p1 : R32 p1) (hr_p2 : R32 p2) (h : VM E mX5_meeting (k + 1) mem 0 [(0, aR 552), (1, aR p0), (2, aI p1), (3, aI p2)] [] (retI Q)) : CI E mX5_meeting (k + 1) mem [aR 552, aR p0, aI p1, aI p2] Q := CI_of rfl (Nat.le_of_ble_eq_true rfl) h (aNs_c (aNr_R _) (aNs_c (aNr_R _) (aNs_c (aNr_I hr_p1) (aNs_c (aNr_I hr_p2) (fun _ q => nomatch q)))))
set_option maxRecDepth 20000 in
theorem rX5_meeting_11 {E : EN} (hE : Ep E) {k : Nat} {mem : Mm} {Q : Int → Mm → Prop} {p0 p1 p2 x4 x5 : Int} (hp0 : isYd p0)
    (h : ((p1 < x5 → ((¬ p2 = (-1) → Q (-1) mem) ∧ (p2 = (-1) → Q x4 mem))) ∧ (x5 ≤ p1 → (CV E mX10_copyFrom k mem [aR 563, aR 553] (fun m1 => (CV E mX10_turnYear k m1 [aR 553] (fun m2 => VM E mX5_meeting (k + 1) m2 38 [(0, aR 552), (2, aI p1), (3, aI p2), (4, aI x4), (5, aI x5), (6, aI 0)] [] (retI Q)))))))) :
    VM E mX5_meeting (k + 1) mem 11 [(0, aR 552), (2, aI p1), (3, aI p2), (4, aI x4), (5, aI x5)] [] (retI Q) := by
  refine v_iload (pc := 11) dX5_meeting_11 4 rfl ?_
  refine v_iload_n (pc := 13) dX5_meeting_13 1 rfl ?_
  refine v_icmpgt (pc := 14) (tgt := 138) dX5_meeting_14 (by decide) (fun c1 => ?_) (fun c1 => ?_)
  · have h := h.1 c1
    refine v_iload_n (pc := 138) dX5_meeting_138 2 rfl ?_
    refine v_iconst (pc := 139) dX5_meeting_139 (by decide) ?_
    refine v_icmpne (pc := 140) (tgt := 148) dX5_meeting_140 (by decide) (fun c1 => ?_) (fun c1 => ?_)
    · have h := h.1 c1
      refine v_iconst (pc := 148) dX5_meeting_148 (by decide) ?_
      exact m_retI (pc := 149) dX5_meeting_149 rfl h
    · have h := h.2 c1
      refine v_iload (pc := 143) dX5_meeting_143 3 rfl ?_
      refine v_goto (pc := 145) (tgt := 149) dX5_meeting_145 (by decide) ?_
      exact m_retI (pc := 149) dX5_meeting_149 rfl h
  · have h := h.2 c1
    refine v_aload_n (pc := 17) dX5_meeting_17 0 rfl ?_
    refine m_getfin (pc := 18) (v := 563) hE dX5_meeting_18 flX5_18 rfl at552 rfl ?_
    refine v_aload_n (pc := 21) dX5_meeting_21 0 rfl ?_
    refine m_getfin (pc := 22) (v := 553) hE dX5_meeting_22 flX5_12 rfl at552 rfl ?_
    refine m_invV (pc := 25) (mi' := mX10_copyFrom) (rest := []) [aR 553] dX5_meeting_25 (yd0 (show isYd 563 by unfold isYd; omega)) (by decide) rfl msX10_copyFrom mvX10_copyFrom lkX5_32 rfl (Nat.le_of_ble_eq_true rfl) (fun hn => CV_mono (h) (fun m1 h => ?_))
    refine v_aload_n (pc := 28) dX5_meeting_28 0 rfl ?_
    refine m_getfin (pc := 29) (v := 553) hE dX5_meeting_29 flX5_12 rfl at552 rfl ?_
    refine m_invV (pc := 32) (mi' := mX10_turnYear) (rest := []) [] dX5_meeting_32 (yd0 (show isYd 553 by unfold isYd; omega)) (by decide) rfl msX10_turnYear mvX10_turnYear lkX5_43 rfl (Nat.le_of_ble_eq_true rfl) (fun hn => CV_mono (h) (fun m2 h => ?_))
    refine v_iconst (pc := 35) dX5_meeting_35 (by decide) ?_
    refine v_istore (pc := 36) (al2 := [(6, aI 0), (0, aR 552), (2, aI p1), (3, aI p2), (4, aI x4), (5, aI x5)]) dX5_meeting_36 (by decide) rfl ?_
    exact VG_sub (al' := [(0, aR 552), (2, aI p1), (3, aI p2), (4, aI x4), (5, aI x5), (6, aI 0)]) [1, 2, 3, 4, 5, 0] rfl h
set_option maxRecDepth 20000 in
theorem rX5_meeting_38 {E : EN} (hE : Ep E) {k : Nat} {mem : Mm} {Q : Int → Mm → Prop} {p0 p1 p2 x4 x5 x6 : Int} (hp0 : isYd p0)
    (h : (((mem 553 10) ≤ x6 → (R32 (x5 + 1)) ∧ VM E mX5_meeting (k + 1) mem 11 [(0, aR 552), (2, aI p1), (3, aI p2), (4, aI x4), (5, aI (x5 + 1))] [] (retI Q)) ∧ (x6 < (mem 553 10) → (R32 (x6 + 1)) ∧ VM E mX5_meeting (k + 1) mem 56 [(0, aR 552), (2, aI p1), (3, aI p2), (4, aI x4), (5, aI x5), (6, aI x6), (7, aI (x6 + 1))] [] (retI Q)))) :
    VM E mX5_meeting (k + 1) mem 38 [(0, aR 552), (2, aI p1), (3, aI p2), (4, aI x4), (5, aI x5), (6, aI x6)] [] (retI Q) := by
  refine v_iload (pc := 38) dX5_meeting_38 5 rfl ?_
  refine v_aload_n (pc := 40) dX5_meeting_40 0 rfl ?_
  refine m_getfin (pc := 41) (v := 553) hE dX5_meeting_41 flX5_12 rfl at552 rfl ?_
  refine m_getf (pc := 44) (t := 0) (v := (mem 553 10)) dX5_meeting_44 flX5_77 rfl (yd0 (show isYd 553 by unfold isYd; omega)) rfl ?_
  refine v_icmpge (pc := 47) (tgt := 132) dX5_meeting_47 (by decide) (fun c1 => ?_) (fun c1 => ?_)
  · have h := h.1 c1
    obtain ⟨o1, h⟩ := h
    refine m_iinc (pc := 132) (al2 := [(5, aI (x5 + 1)), (0, aR 552), (2, aI p1), (3, aI p2), (4, aI x4), (6, aI x6)]) dX5_meeting_132 4 rfl (by decide) o1 rfl ?_
    refine v_goto (pc := 135) (tgt := 11) dX5_meeting_135 (by decide) ?_
    exact VG_sub (al' := [(0, aR 552), (2, aI p1), (3, aI p2), (4, aI x4), (5, aI (x5 + 1))]) [1, 2, 3, 4, 0] rfl h
  · have h := h.2 c1
    refine v_iload (pc := 50) dX5_meeting_50 5 rfl ?_
    refine v_iconst (pc := 52) dX5_meeting_52 (by decide) ?_
    obtain ⟨o2, h⟩ := h
    refine m_iadd (pc := 53) dX5_meeting_53 o2 ?_
    refine v_istore (pc := 54) (al2 := [(7, aI (x6 + 1)), (0, aR 552), (2, aI p1), (3, aI p2), (4, aI x4), (5, aI x5), (6, aI x6)]) dX5_meeting_54 (by decide) rfl ?_
    exact VG_sub (al' := [(0, aR 552), (2, aI p1), (3, aI p2), (4, aI x4), (5, aI x5), (6, aI x6), (7, aI (x6 + 1))]) [1, 2, 3, 4, 5, 6, 0] rfl h
set_option maxRecDepth 20000 in
theorem rX5_meeting_56 {E : EN} (hE : Ep E) {k : Nat} {mem : Mm} {Q : Int → Mm → Prop} {p0 p1 p2 x4 x5 x6 x7 : Int} (hp0 : isYd p0)
    (h : (((mem 553 10) ≤ x7 → (R32 (x6 + 1)) ∧ VM E mX5_meeting (k + 1) mem 38 [(0, aR 552), (2, aI p1), (3, aI p2), (4, aI x4), (5, aI x5), (6, aI (x6 + 1))] [] (retI Q)) ∧ (x7 < (mem 553 10) → (R32 x6 → R32 x7 → CI E mX10_areBeside k mem [aR 553, aI x6, aI x7] (fun r3 m2 => ((r3 = 0 → (R32 (x7 + 1)) ∧ VM E mX5_meeting (k + 1) m2 56 [(0, aR 552), (2, aI p1), (3, aI p2), (4, aI x4), (5, aI x5), (6, aI x6), (7, aI (x7 + 1))] [] (retI Q)) ∧ (¬ r3 = 0 → (R32 x6 → R32 x7 → CI E mX10_areBeside k m2 [aR 563, aI x6, aI x7] (fun r6 m5 => ((¬ r6 = 0 → (R32 (x7 + 1)) ∧ VM E mX5_meeting (k + 1) m5 56 [(0, aR 552), (2, aI p1), (3, aI p2), (4, aI x4), (5, aI x5), (6, aI x6), (7, aI (x7 + 1))] [] (retI Q)) ∧ (r6 = 0 → ((¬ x4 = p2 → (R32 (x4 + 1)) ∧ (R32 (x7 + 1)) ∧ VM E mX5_meeting (k + 1) m5 56 [(0, aR 552), (2, aI p1), (3, aI p2), (4, aI (x4 + 1)), (5, aI x5), (6, aI x6), (7, aI (x7 + 1))] [] (retI Q)) ∧ (x4 = p2 → (R32 (100 * x5)) ∧ (R32 (10 * x6)) ∧ (R32 ((100 * x5) + (10 * x6))) ∧ (R32 (((100 * x5) + (10 * x6)) + x7)) ∧ Q (((100 * x5) + (10 * x6)) + x7) m5))))))))))))) :
    VM E mX5_meeting (k + 1) mem 56 [(0, aR 552), (2, aI p1), (3, aI p2), (4, aI x4), (5, aI x5), (6, aI x6), (7, aI x7)] [] (retI Q) := by
  refine v_iload (pc := 56) dX5_meeting_56 6 rfl ?_
  refine v_aload_n (pc := 58) dX5_meeting_58 0 rfl ?_
  refine m_getfin (pc := 59) (v := 553) hE dX5_meeting_59 flX5_12 rfl at552 rfl ?_
  refine m_getf (pc := 62) (t := 0) (v := (mem 553 10)) dX5_meeting_62 flX5_77 rfl (yd0 (show isYd 553 by unfold isYd; omega)) rfl ?_
  refine v_icmpge (pc := 65) (tgt := 126) dX5_meeting_65 (by decide) (fun c1 => ?_) (fun c1 => ?_)
  · have h := h.1 c1
    obtain ⟨o1, h⟩ := h
    refine m_iinc (pc := 126) (al2 := [(6, aI (x6 + 1)), (0, aR 552), (2, aI p1), (3, aI p2), (4, aI x4), (5, aI x5), (7, aI x7)]) dX5_meeting_126 5 rfl (by decide) o1 rfl ?_
    refine v_goto (pc := 129) (tgt := 38) dX5_meeting_129 (by decide) ?_
    exact VG_sub (al' := [(0, aR 552), (2, aI p1), (3, aI p2), (4, aI x4), (5, aI x5), (6, aI (x6 + 1))]) [1, 2, 3, 4, 5, 0] rfl h
  · have h := h.2 c1
    refine v_aload_n (pc := 68) dX5_meeting_68 0 rfl ?_
    refine m_getfin (pc := 69) (v := 553) hE dX5_meeting_69 flX5_12 rfl at552 rfl ?_
    refine v_iload (pc := 72) dX5_meeting_72 5 rfl ?_
    refine v_iload (pc := 74) dX5_meeting_74 6 rfl ?_
    refine m_invI (pc := 76) (mi' := mX10_areBeside) (rest := []) [aI x6, aI x7] dX5_meeting_76 (yd0 (show isYd 553 by unfold isYd; omega)) (by decide) rfl msX10_areBeside mvX10_areBeside lkX5_81 rfl (Nat.le_of_ble_eq_true rfl) (fun hn => CI_mono (h (aaI hn 1 rfl) (aaI hn 2 rfl)) (fun r3 m2 h => ?_))
    refine v_ifeq (pc := 79) (tgt := 120) dX5_meeting_79 (by decide) (fun c1 => ?_) (fun c1 => ?_)
    · have h := h.1 c1
      obtain ⟨o4, h⟩ := h
      refine m_iinc (pc := 120) (al2 := [(7, aI (x7 + 1)), (0, aR 552), (2, aI p1), (3, aI p2), (4, aI x4), (5, aI x5), (6, aI x6)]) dX5_meeting_120 6 rfl (by decide) o4 rfl ?_
      refine v_goto (pc := 123) (tgt := 56) dX5_meeting_123 (by decide) ?_
      exact VG_sub (al' := [(0, aR 552), (2, aI p1), (3, aI p2), (4, aI x4), (5, aI x5), (6, aI x6), (7, aI (x7 + 1))]) [1, 2, 3, 4, 5, 6, 0] rfl h
    · have h := h.2 c1
      refine v_aload_n (pc := 82) dX5_meeting_82 0 rfl ?_
      refine m_getfin (pc := 83) (v := 563) hE dX5_meeting_83 flX5_18 rfl at552 rfl ?_
      refine v_iload (pc := 86) dX5_meeting_86 5 rfl ?_
      refine v_iload (pc := 88) dX5_meeting_88 6 rfl ?_
      refine m_invI (pc := 90) (mi' := mX10_areBeside) (rest := []) [aI x6, aI x7] dX5_meeting_90 (yd0 (show isYd 563 by unfold isYd; omega)) (by decide) rfl msX10_areBeside mvX10_areBeside lkX5_81 rfl (Nat.le_of_ble_eq_true rfl) (fun hn => CI_mono (h (aaI hn 1 rfl) (aaI hn 2 rfl)) (fun r6 m5 h => ?_))
      refine v_ifne (pc := 93) (tgt := 120) dX5_meeting_93 (by decide) (fun c1 => ?_) (fun c1 => ?_)
      · have h := h.1 c1
        obtain ⟨o7, h⟩ := h
        refine m_iinc (pc := 120) (al2 := [(7, aI (x7 + 1)), (0, aR 552), (2, aI p1), (3, aI p2), (4, aI x4), (5, aI x5), (6, aI x6)]) dX5_meeting_120 6 rfl (by decide) o7 rfl ?_
        refine v_goto (pc := 123) (tgt := 56) dX5_meeting_123 (by decide) ?_
        exact VG_sub (al' := [(0, aR 552), (2, aI p1), (3, aI p2), (4, aI x4), (5, aI x5), (6, aI x6), (7, aI (x7 + 1))]) [1, 2, 3, 4, 5, 6, 0] rfl h
      · have h := h.2 c1
        refine v_iload (pc := 96) dX5_meeting_96 3 rfl ?_
        refine v_iload_n (pc := 98) dX5_meeting_98 2 rfl ?_
        refine v_icmpne (pc := 99) (tgt := 117) dX5_meeting_99 (by decide) (fun c1 => ?_) (fun c1 => ?_)
        · have h := h.1 c1
          obtain ⟨o8, h⟩ := h
          refine m_iinc (pc := 117) (al2 := [(4, aI (x4 + 1)), (0, aR 552), (2, aI p1), (3, aI p2), (5, aI x5), (6, aI x6), (7, aI x7)]) dX5_meeting_117 3 rfl (by decide) o8 rfl ?_
          obtain ⟨o9, h⟩ := h
          refine m_iinc (pc := 120) (al2 := [(7, aI (x7 + 1)), (4, aI (x4 + 1)), (0, aR 552), (2, aI p1), (3, aI p2), (5, aI x5), (6, aI x6)]) dX5_meeting_120 6 rfl (by decide) o9 rfl ?_
          refine v_goto (pc := 123) (tgt := 56) dX5_meeting_123 (by decide) ?_
          exact VG_sub (al' := [(0, aR 552), (2, aI p1), (3, aI p2), (4, aI (x4 + 1)), (5, aI x5), (6, aI x6), (7, aI (x7 + 1))]) [2, 3, 4, 1, 5, 6, 0] rfl h
        · have h := h.2 c1
          refine v_bipush (pc := 102) dX5_meeting_102 (by decide) ?_
          refine v_iload (pc := 104) dX5_meeting_104 4 rfl ?_
          obtain ⟨o10, h⟩ := h
          refine m_imul (pc := 106) dX5_meeting_106 o10 ?_
          refine v_bipush (pc := 107) dX5_meeting_107 (by decide) ?_
          refine v_iload (pc := 109) dX5_meeting_109 5 rfl ?_
          obtain ⟨o11, h⟩ := h
          refine m_imul (pc := 111) dX5_meeting_111 o11 ?_
          obtain ⟨o12, h⟩ := h
          refine m_iadd (pc := 112) dX5_meeting_112 o12 ?_
          refine v_iload (pc := 113) dX5_meeting_113 6 rfl ?_
          obtain ⟨o13, h⟩ := h
          refine m_iadd (pc := 115) dX5_meeting_115 o13 ?_
          exact m_retI (pc := 116) dX5_meeting_116 rfl h

theorem dX5_findMeet_0 : decode cX5_findMeet 0 = .ok (.aload_n 0, 1) := by decide +kernel
theorem dX5_findMeet_1 : decode cX5_findMeet 1 = .ok (.iconst (-1), 1) := by decide +kernel
theorem dX5_findMeet_2 : decode cX5_findMeet 2 = .ok (.putfield 85, 3) := by decide +kernel
theorem dX5_findMeet_5 : decode cX5_findMeet 5 = .ok (.aload_n 1, 1) := by decide +kernel
theorem dX5_findMeet_6 : decode cX5_findMeet 6 = .ok (.getfield 77, 3) := by decide +kernel
theorem dX5_findMeet_9 : decode cX5_findMeet 9 = .ok (.bipush 10, 2) := by decide +kernel
theorem dX5_findMeet_11 : decode cX5_findMeet 11 = .ok (.if_icmp .lt 5, 3) := by decide +kernel
theorem dX5_findMeet_14 : decode cX5_findMeet 14 = .ok (.iconst 0, 1) := by decide +kernel
theorem dX5_findMeet_15 : decode cX5_findMeet 15 = .ok (.ireturn, 1) := by decide +kernel
theorem dX5_findMeet_16 : decode cX5_findMeet 16 = .ok (.iconst 0, 1) := by decide +kernel
theorem dX5_findMeet_17 : decode cX5_findMeet 17 = .ok (.istore 5, 2) := by decide +kernel
theorem dX5_findMeet_19 : decode cX5_findMeet 19 = .ok (.iload 5, 2) := by decide +kernel
theorem dX5_findMeet_21 : decode cX5_findMeet 21 = .ok (.bipush 32, 2) := by decide +kernel
theorem dX5_findMeet_23 : decode cX5_findMeet 23 = .ok (.if_icmp .ge 67, 3) := by decide +kernel
theorem dX5_findMeet_26 : decode cX5_findMeet 26 = .ok (.aload_n 1, 1) := by decide +kernel
theorem dX5_findMeet_27 : decode cX5_findMeet 27 = .ok (.iload_n 3, 1) := by decide +kernel
theorem dX5_findMeet_28 : decode cX5_findMeet 28 = .ok (.iload 5, 2) := by decide +kernel
theorem dX5_findMeet_30 : decode cX5_findMeet 30 = .ok (.invokevirtual 88, 3) := by decide +kernel
theorem dX5_findMeet_33 : decode cX5_findMeet 33 = .ok (.ifCond .eq 51, 3) := by decide +kernel
theorem dX5_findMeet_36 : decode cX5_findMeet 36 = .ok (.aload_n 0, 1) := by decide +kernel
theorem dX5_findMeet_37 : decode cX5_findMeet 37 = .ok (.aload_n 1, 1) := by decide +kernel
theorem dX5_findMeet_38 : decode cX5_findMeet 38 = .ok (.iload_n 2, 1) := by decide +kernel
theorem dX5_findMeet_39 : decode cX5_findMeet 39 = .ok (.iload_n 3, 1) := by decide +kernel
theorem dX5_findMeet_40 : decode cX5_findMeet 40 = .ok (.iload 5, 2) := by decide +kernel
theorem dX5_findMeet_42 : decode cX5_findMeet 42 = .ok (.iload 4, 2) := by decide +kernel
theorem dX5_findMeet_44 : decode cX5_findMeet 44 = .ok (.invokevirtual 91, 3) := by decide +kernel
theorem dX5_findMeet_47 : decode cX5_findMeet 47 = .ok (.istore 6, 2) := by decide +kernel
theorem dX5_findMeet_49 : decode cX5_findMeet 49 = .ok (.iload 6, 2) := by decide +kernel
theorem dX5_findMeet_51 : decode cX5_findMeet 51 = .ok (.iconst (-1), 1) := by decide +kernel
theorem dX5_findMeet_52 : decode cX5_findMeet 52 = .ok (.if_icmp .eq 32, 3) := by decide +kernel
theorem dX5_findMeet_55 : decode cX5_findMeet 55 = .ok (.aload_n 0, 1) := by decide +kernel
theorem dX5_findMeet_56 : decode cX5_findMeet 56 = .ok (.getfield 85, 3) := by decide +kernel
theorem dX5_findMeet_59 : decode cX5_findMeet 59 = .ok (.iconst (-1), 1) := by decide +kernel
theorem dX5_findMeet_60 : decode cX5_findMeet 60 = .ok (.if_icmp .eq 12, 3) := by decide +kernel
theorem dX5_findMeet_63 : decode cX5_findMeet 63 = .ok (.iload 6, 2) := by decide +kernel
theorem dX5_findMeet_65 : decode cX5_findMeet 65 = .ok (.aload_n 0, 1) := by decide +kernel
theorem dX5_findMeet_66 : decode cX5_findMeet 66 = .ok (.getfield 95, 3) := by decide +kernel
theorem dX5_findMeet_69 : decode cX5_findMeet 69 = .ok (.if_icmp .ge 15, 3) := by decide +kernel
theorem dX5_findMeet_72 : decode cX5_findMeet 72 = .ok (.aload_n 0, 1) := by decide +kernel
theorem dX5_findMeet_73 : decode cX5_findMeet 73 = .ok (.iload 5, 2) := by decide +kernel
theorem dX5_findMeet_75 : decode cX5_findMeet 75 = .ok (.putfield 85, 3) := by decide +kernel
theorem dX5_findMeet_78 : decode cX5_findMeet 78 = .ok (.aload_n 0, 1) := by decide +kernel
theorem dX5_findMeet_79 : decode cX5_findMeet 79 = .ok (.iload 6, 2) := by decide +kernel
theorem dX5_findMeet_81 : decode cX5_findMeet 81 = .ok (.putfield 95, 3) := by decide +kernel
theorem dX5_findMeet_84 : decode cX5_findMeet 84 = .ok (.iinc 5 1, 3) := by decide +kernel
theorem dX5_findMeet_87 : decode cX5_findMeet 87 = .ok (.goto (-68), 3) := by decide +kernel
theorem dX5_findMeet_90 : decode cX5_findMeet 90 = .ok (.aload_n 0, 1) := by decide +kernel
theorem dX5_findMeet_91 : decode cX5_findMeet 91 = .ok (.getfield 85, 3) := by decide +kernel
theorem dX5_findMeet_94 : decode cX5_findMeet 94 = .ok (.iconst (-1), 1) := by decide +kernel
theorem dX5_findMeet_95 : decode cX5_findMeet 95 = .ok (.if_icmp .eq 7, 3) := by decide +kernel
theorem dX5_findMeet_98 : decode cX5_findMeet 98 = .ok (.iconst 1, 1) := by decide +kernel
theorem dX5_findMeet_99 : decode cX5_findMeet 99 = .ok (.goto 4, 3) := by decide +kernel
theorem dX5_findMeet_102 : decode cX5_findMeet 102 = .ok (.iconst 0, 1) := by decide +kernel
theorem dX5_findMeet_103 : decode cX5_findMeet 103 = .ok (.ireturn, 1) := by decide +kernel
set_option maxRecDepth 20000 in
theorem rX5_findMeet_0 {E : EN} (hE : Ep E) {k : Nat} {mem : Mm} {Q : Int → Mm → Prop} {p0 p1 p2 p3 : Int} (hp0 : isYd p0)
    (h : ((((aUp mem 552 7 (-1)) p0 10) < 10 → VM E mX5_findMeet (k + 1) (aUp mem 552 7 (-1)) 19 [(0, aR 552), (1, aR p0), (2, aI p1), (3, aI p2), (4, aI p3), (5, aI 0)] [] (retI Q)) ∧ (10 ≤ ((aUp mem 552 7 (-1)) p0 10) → Q 0 (aUp mem 552 7 (-1))))) :
    VM E mX5_findMeet (k + 1) mem 0 [(0, aR 552), (1, aR p0), (2, aI p1), (3, aI p2), (4, aI p3)] [] (retI Q) := by
  refine v_aload_n (pc := 0) dX5_findMeet_0 0 rfl ?_
  refine v_iconst (pc := 1) dX5_findMeet_1 (by decide) ?_
  refine v_putf (pc := 2) dX5_findMeet_2 flX5_85 ⟨_, _, rfl, Or.inl rfl⟩ rfl (by decide) (fun q => nomatch q) (Or.inl fun _ => rfl) at552 ?_
  refine v_aload_n (pc := 5) dX5_findMeet_5 1 rfl ?_
  refine m_getf (pc := 6) (t := 0) (v := ((aUp mem 552 7 (-1)) p0 10)) dX5_findMeet_6 flX5_77 rfl (yd0 hp0) rfl ?_
  refine v_bipush (pc := 9) dX5_findMeet_9 (by decide) ?_
  refine v_icmplt (pc := 11) (tgt := 16) dX5_findMeet_11 (by decide) (fun c1 => ?_) (fun c1 => ?_)
  · have h := h.1 c1
    refine v_iconst (pc := 16) dX5_findMeet_16 (by decide) ?_
    refine v_istore (pc := 17) (al2 := [(5, aI 0), (0, aR 552), (1, aR p0), (2, aI p1), (3, aI p2), (4, aI p3)]) dX5_findMeet_17 (by decide) rfl ?_
    exact VG_sub (al' := [(0, aR 552), (1, aR p0), (2, aI p1), (3, aI p2), (4, aI p3), (5, aI 0)]) [1, 2, 3, 4, 5, 0] rfl h
  · have h := h.2 c1
    refine v_iconst (pc := 14) dX5_findMeet_14 (by decide) ?_
    exact m_retZ (pc := 15) dX5_findMeet_15 rfl (by decide) h
theorem eX5_findMeet {E : EN} {k : Nat} {mem : Mm} {Q : Int → Mm → Prop} {p0 p1 p2 p3 : Int} (hr_p1 : R32 p1) (hr_p2 : R32 p2) (hr_p3 : R32 p3) (h : VM E mX5_findMeet (k + 1) mem 0 [(0, aR 552), (1, aR p0), (2, aI p1), (3, aI p2), (4, aI p3)] [] (retI Q)) : CI E mX5_findMeet (k + 1) mem [aR 552, aR p0, aI p1, aI p2, aI p3] Q := CI_of rfl (Nat.le_of_ble_eq_true rfl) h (aNs_c (aNr_R _) (aNs_c (aNr_R _) (aNs_c (aNr_I hr_p1) (aNs_c (aNr_I hr_p2) (aNs_c (aNr_I hr_p3) (fun _ q => nomatch q))))))
set_option maxRecDepth 20000 in
theorem rX5_findMeet_19 {E : EN} (hE : Ep E) {k : Nat} {mem : Mm} {Q : Int → Mm → Prop} {p0 p1 p2 p3 x5 : Int} (hp0 : isYd p0)
    (h : ((32 ≤ x5 → (((mem 552 7) = (-1) → Q 0 mem) ∧ (¬ (mem 552 7) = (-1) → Q 1 mem))) ∧ (x5 < 32 → (R32 p2 → R32 x5 → CI E mX10_isOpenTo k mem [aR p0, aI p2, aI x5] (fun r2 m1 => ((r2 = 0 → (R32 (x5 + 1)) ∧ VM E mX5_findMeet (k + 1) m1 19 [(0, aR 552), (1, aR p0), (2, aI p1), (3, aI p2), (4, aI p3), (5, aI (x5 + 1))] [] (retI Q)) ∧ (¬ r2 = 0 → (R32 p1 → R32 p2 → R32 x5 → R32 p3 → CI E mX5_yearBeside k m1 [aR 552, aR p0, aI p1, aI p2, aI x5, aI p3] (fun r5 m4 => ((r5 = (-1) → (R32 (x5 + 1)) ∧ VM E mX5_findMeet (k + 1) m4 19 [(0, aR 552), (1, aR p0), (2, aI p1), (3, aI p2), (4, aI p3), (5, aI (x5 + 1))] [] (retI Q)) ∧ (¬ r5 = (-1) → (((m4 552 7) = (-1) → (R32 (x5 + 1)) ∧ VM E mX5_findMeet (k + 1) (aUp (aUp m4 552 7 x5) 552 8 r5) 19 [(0, aR 552), (1, aR p0), (2, aI p1), (3, aI p2), (4, aI p3), (5, aI (x5 + 1))] [] (retI Q)) ∧ (¬ (m4 552 7) = (-1) → (((m4 552 8) ≤ r5 → (R32 (x5 + 1)) ∧ VM E mX5_findMeet (k + 1) m4 19 [(0, aR 552), (1, aR p0), (2, aI p1), (3, aI p2), (4, aI p3), (5, aI (x5 + 1))] [] (retI Q)) ∧ (r5 < (m4 552 8) → (R32 (x5 + 1)) ∧ VM E mX5_findMeet (k + 1) (aUp (aUp m4 552 7 x5) 552 8 r5) 19 [(0, aR 552), (1, aR p0), (2, aI p1), (3, aI p2), (4, aI p3), (5, aI (x5 + 1))] [] (retI Q)))))))))))))))) :
    VM E mX5_findMeet (k + 1) mem 19 [(0, aR 552), (1, aR p0), (2, aI p1), (3, aI p2), (4, aI p3), (5, aI x5)] [] (retI Q) := by
  refine v_iload (pc := 19) dX5_findMeet_19 5 rfl ?_
  refine v_bipush (pc := 21) dX5_findMeet_21 (by decide) ?_
  refine v_icmpge (pc := 23) (tgt := 90) dX5_findMeet_23 (by decide) (fun c1 => ?_) (fun c1 => ?_)
  · have h := h.1 c1
    refine v_aload_n (pc := 90) dX5_findMeet_90 0 rfl ?_
    refine m_getf (pc := 91) (t := 0) (v := (mem 552 7)) dX5_findMeet_91 flX5_85 rfl at552 rfl ?_
    refine v_iconst (pc := 94) dX5_findMeet_94 (by decide) ?_
    refine v_icmpeq (pc := 95) (tgt := 102) dX5_findMeet_95 (by decide) (fun c1 => ?_) (fun c1 => ?_)
    · have h := h.1 c1
      refine v_iconst (pc := 102) dX5_findMeet_102 (by decide) ?_
      exact m_retZ (pc := 103) dX5_findMeet_103 rfl (by decide) h
    · have h := h.2 c1
      refine v_iconst (pc := 98) dX5_findMeet_98 (by decide) ?_
      refine v_goto (pc := 99) (tgt := 103) dX5_findMeet_99 (by decide) ?_
      exact m_retZ (pc := 103) dX5_findMeet_103 rfl (by decide) h
  · have h := h.2 c1
    refine v_aload_n (pc := 26) dX5_findMeet_26 1 rfl ?_
    refine v_iload_n (pc := 27) dX5_findMeet_27 3 rfl ?_
    refine v_iload (pc := 28) dX5_findMeet_28 5 rfl ?_
    refine m_invI (pc := 30) (mi' := mX10_isOpenTo) (rest := []) [aI p2, aI x5] dX5_findMeet_30 (yd0 hp0) (by decide) rfl msX10_isOpenTo mvX10_isOpenTo lkX5_88 rfl (Nat.le_of_ble_eq_true rfl) (fun hn => CI_mono (h (aaI hn 1 rfl) (aaI hn 2 rfl)) (fun r2 m1 h => ?_))
    refine v_ifeq (pc := 33) (tgt := 84) dX5_findMeet_33 (by decide) (fun c1 => ?_) (fun c1 => ?_)
    · have h := h.1 c1
      obtain ⟨o3, h⟩ := h
      refine m_iinc (pc := 84) (al2 := [(5, aI (x5 + 1)), (0, aR 552), (1, aR p0), (2, aI p1), (3, aI p2), (4, aI p3)]) dX5_findMeet_84 5 rfl (by decide) o3 rfl ?_
      refine v_goto (pc := 87) (tgt := 19) dX5_findMeet_87 (by decide) ?_
      exact VG_sub (al' := [(0, aR 552), (1, aR p0), (2, aI p1), (3, aI p2), (4, aI p3), (5, aI (x5 + 1))]) [1, 2, 3, 4, 5, 0] rfl h
    · have h := h.2 c1
      refine v_aload_n (pc := 36) dX5_findMeet_36 0 rfl ?_
      refine v_aload_n (pc := 37) dX5_findMeet_37 1 rfl ?_
      refine v_iload_n (pc := 38) dX5_findMeet_38 2 rfl ?_
      refine v_iload_n (pc := 39) dX5_findMeet_39 3 rfl ?_
      refine v_iload (pc := 40) dX5_findMeet_40 5 rfl ?_
      refine v_iload (pc := 42) dX5_findMeet_42 4 rfl ?_
      refine m_invI (pc := 44) (mi' := mX5_yearBeside) (rest := []) [aR p0, aI p1, aI p2, aI x5, aI p3] dX5_findMeet_44 at552 (by decide) rfl msX5_yearBeside mvX5_yearBeside lkX5_91 rfl (Nat.le_of_ble_eq_true rfl) (fun hn => CI_mono (h (aaI hn 2 rfl) (aaI hn 3 rfl) (aaI hn 4 rfl) (aaI hn 5 rfl)) (fun r5 m4 h => ?_))
      refine v_istore (pc := 47) (al2 := [(6, aI r5), (0, aR 552), (1, aR p0), (2, aI p1), (3, aI p2), (4, aI p3), (5, aI x5)]) dX5_findMeet_47 (by decide) rfl ?_
      refine v_iload (pc := 49) dX5_findMeet_49 0 rfl ?_
      refine v_iconst (pc := 51) dX5_findMeet_51 (by decide) ?_
      refine v_icmpeq (pc := 52) (tgt := 84) dX5_findMeet_52 (by decide) (fun c1 => ?_) (fun c1 => ?_)
      · have h := h.1 c1
        obtain ⟨o6, h⟩ := h
        refine m_iinc (pc := 84) (al2 := [(5, aI (x5 + 1)), (6, aI r5), (0, aR 552), (1, aR p0), (2, aI p1), (3, aI p2), (4, aI p3)]) dX5_findMeet_84 6 rfl (by decide) o6 rfl ?_
        refine v_goto (pc := 87) (tgt := 19) dX5_findMeet_87 (by decide) ?_
        exact VG_sub (al' := [(0, aR 552), (1, aR p0), (2, aI p1), (3, aI p2), (4, aI p3), (5, aI (x5 + 1))]) [2, 3, 4, 5, 6, 0] rfl h
      · have h := h.2 c1
        refine v_aload_n (pc := 55) dX5_findMeet_55 1 rfl ?_
        refine m_getf (pc := 56) (t := 0) (v := (m4 552 7)) dX5_findMeet_56 flX5_85 rfl at552 rfl ?_
        refine v_iconst (pc := 59) dX5_findMeet_59 (by decide) ?_
        refine v_icmpeq (pc := 60) (tgt := 72) dX5_findMeet_60 (by decide) (fun c1 => ?_) (fun c1 => ?_)
        · have h := h.1 c1
          refine v_aload_n (pc := 72) dX5_findMeet_72 1 rfl ?_
          refine v_iload (pc := 73) dX5_findMeet_73 6 rfl ?_
          refine v_putf (pc := 75) dX5_findMeet_75 flX5_85 ⟨_, _, rfl, Or.inl rfl⟩ rfl (by decide) (fun q => nomatch q) (Or.inl fun _ => rfl) at552 ?_
          refine v_aload_n (pc := 78) dX5_findMeet_78 1 rfl ?_
          refine v_iload (pc := 79) dX5_findMeet_79 0 rfl ?_
          refine v_putf (pc := 81) dX5_findMeet_81 flX5_95 ⟨_, _, rfl, Or.inl rfl⟩ rfl (by decide) (fun q => nomatch q) (Or.inl fun _ => rfl) at552 ?_
          obtain ⟨o7, h⟩ := h
          refine m_iinc (pc := 84) (al2 := [(5, aI (x5 + 1)), (6, aI r5), (0, aR 552), (1, aR p0), (2, aI p1), (3, aI p2), (4, aI p3)]) dX5_findMeet_84 6 rfl (by decide) o7 rfl ?_
          refine v_goto (pc := 87) (tgt := 19) dX5_findMeet_87 (by decide) ?_
          exact VG_sub (al' := [(0, aR 552), (1, aR p0), (2, aI p1), (3, aI p2), (4, aI p3), (5, aI (x5 + 1))]) [2, 3, 4, 5, 6, 0] rfl h
        · have h := h.2 c1
          refine v_iload (pc := 63) dX5_findMeet_63 0 rfl ?_
          refine v_aload_n (pc := 65) dX5_findMeet_65 1 rfl ?_
          refine m_getf (pc := 66) (t := 0) (v := (m4 552 8)) dX5_findMeet_66 flX5_95 rfl at552 rfl ?_
          refine v_icmpge (pc := 69) (tgt := 84) dX5_findMeet_69 (by decide) (fun c1 => ?_) (fun c1 => ?_)
          · have h := h.1 c1
            obtain ⟨o8, h⟩ := h
            refine m_iinc (pc := 84) (al2 := [(5, aI (x5 + 1)), (6, aI r5), (0, aR 552), (1, aR p0), (2, aI p1), (3, aI p2), (4, aI p3)]) dX5_findMeet_84 6 rfl (by decide) o8 rfl ?_
            refine v_goto (pc := 87) (tgt := 19) dX5_findMeet_87 (by decide) ?_
            exact VG_sub (al' := [(0, aR 552), (1, aR p0), (2, aI p1), (3, aI p2), (4, aI p3), (5, aI (x5 + 1))]) [2, 3, 4, 5, 6, 0] rfl h
          · have h := h.2 c1
            refine v_aload_n (pc := 72) dX5_findMeet_72 1 rfl ?_
            refine v_iload (pc := 73) dX5_findMeet_73 6 rfl ?_
            refine v_putf (pc := 75) dX5_findMeet_75 flX5_85 ⟨_, _, rfl, Or.inl rfl⟩ rfl (by decide) (fun q => nomatch q) (Or.inl fun _ => rfl) at552 ?_
            refine v_aload_n (pc := 78) dX5_findMeet_78 1 rfl ?_
            refine v_iload (pc := 79) dX5_findMeet_79 0 rfl ?_
            refine v_putf (pc := 81) dX5_findMeet_81 flX5_95 ⟨_, _, rfl, Or.inl rfl⟩ rfl (by decide) (fun q => nomatch q) (Or.inl fun _ => rfl) at552 ?_
            obtain ⟨o9, h⟩ := h
            refine m_iinc (pc := 84) (al2 := [(5, aI (x5 + 1)), (6, aI r5), (0, aR 552), (1, aR p0), (2, aI p1), (3, aI p2), (4, aI p3)]) dX5_findMeet_84 6 rfl (by decide) o9 rfl ?_
            refine v_goto (pc := 87) (tgt := 19) dX5_findMeet_87 (by decide) ?_
            exact VG_sub (al' := [(0, aR 552), (1, aR p0), (2, aI p1), (3, aI p2), (4, aI p3), (5, aI (x5 + 1))]) [2, 3, 4, 5, 6, 0] rfl h

theorem dX5_yearBeside_0 : decode cX5_yearBeside 0 = .ok (.aload_n 0, 1) := by decide +kernel
theorem dX5_yearBeside_1 : decode cX5_yearBeside 1 = .ok (.aload_n 1, 1) := by decide +kernel
theorem dX5_yearBeside_2 : decode cX5_yearBeside 2 = .ok (.invokevirtual 40, 3) := by decide +kernel
theorem dX5_yearBeside_5 : decode cX5_yearBeside 5 = .ok (.aload_n 0, 1) := by decide +kernel
theorem dX5_yearBeside_6 : decode cX5_yearBeside 6 = .ok (.getfield 12, 3) := by decide +kernel
theorem dX5_yearBeside_9 : decode cX5_yearBeside 9 = .ok (.getfield 77, 3) := by decide +kernel
theorem dX5_yearBeside_12 : decode cX5_yearBeside 12 = .ok (.istore 6, 2) := by decide +kernel
theorem dX5_yearBeside_14 : decode cX5_yearBeside 14 = .ok (.aload_n 0, 1) := by decide +kernel
theorem dX5_yearBeside_15 : decode cX5_yearBeside 15 = .ok (.getfield 12, 3) := by decide +kernel
theorem dX5_yearBeside_18 : decode cX5_yearBeside 18 = .ok (.iload_n 3, 1) := by decide +kernel
theorem dX5_yearBeside_19 : decode cX5_yearBeside 19 = .ok (.iload 4, 2) := by decide +kernel
theorem dX5_yearBeside_21 : decode cX5_yearBeside 21 = .ok (.iconst 0, 1) := by decide +kernel
theorem dX5_yearBeside_22 : decode cX5_yearBeside 22 = .ok (.invokevirtual 98, 3) := by decide +kernel
theorem dX5_yearBeside_25 : decode cX5_yearBeside 25 = .ok (.iconst 0, 1) := by decide +kernel
theorem dX5_yearBeside_26 : decode cX5_yearBeside 26 = .ok (.istore 7, 2) := by decide +kernel
theorem dX5_yearBeside_28 : decode cX5_yearBeside 28 = .ok (.iload 7, 2) := by decide +kernel
theorem dX5_yearBeside_30 : decode cX5_yearBeside 30 = .ok (.iload 5, 2) := by decide +kernel
theorem dX5_yearBeside_32 : decode cX5_yearBeside 32 = .ok (.if_icmp .gt 39, 3) := by decide +kernel
theorem dX5_yearBeside_35 : decode cX5_yearBeside 35 = .ok (.aload_n 0, 1) := by decide +kernel
theorem dX5_yearBeside_36 : decode cX5_yearBeside 36 = .ok (.getfield 12, 3) := by decide +kernel
theorem dX5_yearBeside_39 : decode cX5_yearBeside 39 = .ok (.iload_n 2, 1) := by decide +kernel
theorem dX5_yearBeside_40 : decode cX5_yearBeside 40 = .ok (.iload 6, 2) := by decide +kernel
theorem dX5_yearBeside_42 : decode cX5_yearBeside 42 = .ok (.invokevirtual 81, 3) := by decide +kernel
theorem dX5_yearBeside_45 : decode cX5_yearBeside 45 = .ok (.ifCond .eq 6, 3) := by decide +kernel
theorem dX5_yearBeside_48 : decode cX5_yearBeside 48 = .ok (.iload 7, 2) := by decide +kernel
theorem dX5_yearBeside_50 : decode cX5_yearBeside 50 = .ok (.ireturn, 1) := by decide +kernel
theorem dX5_yearBeside_51 : decode cX5_yearBeside 51 = .ok (.iload 7, 2) := by decide +kernel
theorem dX5_yearBeside_53 : decode cX5_yearBeside 53 = .ok (.iload 5, 2) := by decide +kernel
theorem dX5_yearBeside_55 : decode cX5_yearBeside 55 = .ok (.if_icmp .ge 10, 3) := by decide +kernel
theorem dX5_yearBeside_58 : decode cX5_yearBeside 58 = .ok (.aload_n 0, 1) := by decide +kernel
theorem dX5_yearBeside_59 : decode cX5_yearBeside 59 = .ok (.getfield 12, 3) := by decide +kernel
theorem dX5_yearBeside_62 : decode cX5_yearBeside 62 = .ok (.invokevirtual 43, 3) := by decide +kernel
theorem dX5_yearBeside_65 : decode cX5_yearBeside 65 = .ok (.iinc 7 1, 3) := by decide +kernel
theorem dX5_yearBeside_68 : decode cX5_yearBeside 68 = .ok (.goto (-40), 3) := by decide +kernel
theorem dX5_yearBeside_71 : decode cX5_yearBeside 71 = .ok (.iconst (-1), 1) := by decide +kernel
theorem dX5_yearBeside_72 : decode cX5_yearBeside 72 = .ok (.ireturn, 1) := by decide +kernel
set_option maxRecDepth 20000 in
theorem rX5_yearBeside_0 {E : EN} (hE : Ep E) {k : Nat} {mem : Mm} {Q : Int → Mm → Prop} {p0 p1 p2 p3 p4 : Int} (hp0 : isYd p0)
    (h : (CV E mX5_begin k mem [aR 552, aR p0] (fun m1 => (R32 p2 → R32 p3 → CV E mX10_add k m1 [aR 553, aI p2, aI p3, aI 0] (fun m2 => VM E mX5_yearBeside (k + 1) m2 28 [(0, aR 552), (2, aI p1), (5, aI p4), (6, aI (m1 553 10)), (7, aI 0)] [] (retI Q)))))) :
    VM E mX5_yearBeside (k + 1) mem 0 [(0, aR 552), (1, aR p0), (2, aI p1), (3, aI p2), (4, aI p3), (5, aI p4)] [] (retI Q) := by
  refine v_aload_n (pc := 0) dX5_yearBeside_0 0 rfl ?_
  refine v_aload_n (pc := 1) dX5_yearBeside_1 1 rfl ?_
  refine m_invV (pc := 2) (mi' := mX5_begin) (rest := []) [aR p0] dX5_yearBeside_2 at552 (by decide) rfl msX5_begin mvX5_begin lkX5_40 rfl (Nat.le_of_ble_eq_true rfl) (fun hn => CV_mono (h) (fun m1 h => ?_))
  refine v_aload_n (pc := 5) dX5_yearBeside_5 0 rfl ?_
  refine m_getfin (pc := 6) (v := 553) hE dX5_yearBeside_6 flX5_12 rfl at552 rfl ?_
  refine m_getf (pc := 9) (t := 0) (v := (m1 553 10)) dX5_yearBeside_9 flX5_77 rfl (yd0 (show isYd 553 by unfold isYd; omega)) rfl ?_
  refine v_istore (pc := 12) (al2 := [(6, aI (m1 553 10)), (0, aR 552), (1, aR p0), (2, aI p1), (3, aI p2), (4, aI p3), (5, aI p4)]) dX5_yearBeside_12 (by decide) rfl ?_
  refine v_aload_n (pc := 14) dX5_yearBeside_14 1 rfl ?_
  refine m_getfin (pc := 15) (v := 553) hE dX5_yearBeside_15 flX5_12 rfl at552 rfl ?_
  refine v_iload_n (pc := 18) dX5_yearBeside_18 4 rfl ?_
  refine v_iload (pc := 19) dX5_yearBeside_19 5 rfl ?_
  refine v_iconst (pc := 21) dX5_yearBeside_21 (by decide) ?_
  refine m_invV (pc := 22) (mi' := mX10_add) (rest := []) [aI p2, aI p3, aI 0] dX5_yearBeside_22 (yd0 (show isYd 553 by unfold isYd; omega)) (by decide) rfl msX10_add mvX10_add lkX5_98 rfl (Nat.le_of_ble_eq_true rfl) (fun hn => CV_mono (h (aaI hn 1 rfl) (aaI hn 2 rfl)) (fun m2 h => ?_))
  refine v_iconst (pc := 25) dX5_yearBeside_25 (by decide) ?_
  refine v_istore (pc := 26) (al2 := [(7, aI 0), (6, aI (m1 553 10)), (0, aR 552), (1, aR p0), (2, aI p1), (3, aI p2), (4, aI p3), (5, aI p4)]) dX5_yearBeside_26 (by decide) rfl ?_
  exact VG_sub (al' := [(0, aR 552), (2, aI p1), (5, aI p4), (6, aI (m1 553 10)), (7, aI 0)]) [2, 4, 7, 1, 0] rfl h
theorem eX5_yearBeside {E : EN} {k : Nat} {mem : Mm} {Q : Int → Mm → Prop} {p0 p1 p2 p3 p4 : Int} (hr_p1 : R32 p1) (hr_p2 : R32 p2) (hr_p3 : R32 p3) (hr_p4 : R32 p4) (h : VM E mX5_yearBeside (k + 1) mem 0 [(0, aR 552), (1, aR p0), (2, aI p1), (3, aI p2), (4, aI p3), (5, aI p4)] [] (retI Q)) : CI E mX5_yearBeside (k + 1) mem [aR 552, aR p0, aI p1, aI p2, aI p3, aI p4] Q := CI_of rfl (Nat.le_of_ble_eq_true rfl) h (aNs_c (aNr_R _) (aNs_c (aNr_R _) (aNs_c (aNr_I hr_p1) (aNs_c (aNr_I hr_p2) (aNs_c (aNr_I hr_p3) (aNs_c (aNr_I hr_p4) (fun _ q => nomatch q)))))))
set_option maxRecDepth 20000 in
theorem rX5_yearBeside_28 {E : EN} (hE : Ep E) {k : Nat} {mem : Mm} {Q : Int → Mm → Prop} {p0 p1 p2 p3 p4 x6 x7 : Int} (hp0 : isYd p0)
    (h : ((p4 < x7 → Q (-1) mem) ∧ (x7 ≤ p4 → (R32 p1 → R32 x6 → CI E mX10_areBeside k mem [aR 553, aI p1, aI x6] (fun r2 m1 => ((r2 = 0 → ((p4 ≤ x7 → (R32 (x7 + 1)) ∧ VM E mX5_yearBeside (k + 1) m1 28 [(0, aR 552), (2, aI p1), (5, aI p4), (6, aI x6), (7, aI (x7 + 1))] [] (retI Q)) ∧ (x7 < p4 → (CV E mX10_turnYear k m1 [aR 553] (fun m4 => (R32 (x7 + 1)) ∧ VM E mX5_yearBeside (k + 1) m4 28 [(0, aR 552), (2, aI p1), (5, aI p4), (6, aI x6), (7, aI (x7 + 1))] [] (retI Q)))))) ∧ (¬ r2 = 0 → Q x7 m1))))))) :
    VM E mX5_yearBeside (k + 1) mem 28 [(0, aR 552), (2, aI p1), (5, aI p4), (6, aI x6), (7, aI x7)] [] (retI Q) := by
  refine v_iload (pc := 28) dX5_yearBeside_28 4 rfl ?_
  refine v_iload (pc := 30) dX5_yearBeside_30 2 rfl ?_
  refine v_icmpgt (pc := 32) (tgt := 71) dX5_yearBeside_32 (by decide) (fun c1 => ?_) (fun c1 => ?_)
  · have h := h.1 c1
    refine v_iconst (pc := 71) dX5_yearBeside_71 (by decide) ?_
    exact m_retI (pc := 72) dX5_yearBeside_72 rfl h
  · have h := h.2 c1
    refine v_aload_n (pc := 35) dX5_yearBeside_35 0 rfl ?_
    refine m_getfin (pc := 36) (v := 553) hE dX5_yearBeside_36 flX5_12 rfl at552 rfl ?_
    refine v_iload_n (pc := 39) dX5_yearBeside_39 1 rfl ?_
    refine v_iload (pc := 40) dX5_yearBeside_40 3 rfl ?_
    refine m_invI (pc := 42) (mi' := mX10_areBeside) (rest := []) [aI p1, aI x6] dX5_yearBeside_42 (yd0 (show isYd 553 by unfold isYd; omega)) (by decide) rfl msX10_areBeside mvX10_areBeside lkX5_81 rfl (Nat.le_of_ble_eq_true rfl) (fun hn => CI_mono (h (aaI hn 1 rfl) (aaI hn 2 rfl)) (fun r2 m1 h => ?_))
    refine v_ifeq (pc := 45) (tgt := 51) dX5_yearBeside_45 (by decide) (fun c1 => ?_) (fun c1 => ?_)
    · have h := h.1 c1
      refine v_iload (pc := 51) dX5_yearBeside_51 4 rfl ?_
      refine v_iload (pc := 53) dX5_yearBeside_53 2 rfl ?_
      refine v_icmpge (pc := 55) (tgt := 65) dX5_yearBeside_55 (by decide) (fun c1 => ?_) (fun c1 => ?_)
      · have h := h.1 c1
        obtain ⟨o3, h⟩ := h
        refine m_iinc (pc := 65) (al2 := [(7, aI (x7 + 1)), (0, aR 552), (2, aI p1), (5, aI p4), (6, aI x6)]) dX5_yearBeside_65 4 rfl (by decide) o3 rfl ?_
        refine v_goto (pc := 68) (tgt := 28) dX5_yearBeside_68 (by decide) ?_
        exact VG_sub (al' := [(0, aR 552), (2, aI p1), (5, aI p4), (6, aI x6), (7, aI (x7 + 1))]) [1, 2, 3, 4, 0] rfl h
      · have h := h.2 c1
        refine v_aload_n (pc := 58) dX5_yearBeside_58 0 rfl ?_
        refine m_getfin (pc := 59) (v := 553) hE dX5_yearBeside_59 flX5_12 rfl at552 rfl ?_
        refine m_invV (pc := 62) (mi' := mX10_turnYear) (rest := []) [] dX5_yearBeside_62 (yd0 (show isYd 553 by unfold isYd; omega)) (by decide) rfl msX10_turnYear mvX10_turnYear lkX5_43 rfl (Nat.le_of_ble_eq_true rfl) (fun hn => CV_mono (h) (fun m4 h => ?_))
        obtain ⟨o5, h⟩ := h
        refine m_iinc (pc := 65) (al2 := [(7, aI (x7 + 1)), (0, aR 552), (2, aI p1), (5, aI p4), (6, aI x6)]) dX5_yearBeside_65 4 rfl (by decide) o5 rfl ?_
        refine v_goto (pc := 68) (tgt := 28) dX5_yearBeside_68 (by decide) ?_
        exact VG_sub (al' := [(0, aR 552), (2, aI p1), (5, aI p4), (6, aI x6), (7, aI (x7 + 1))]) [1, 2, 3, 4, 0] rfl h
    · have h := h.2 c1
      refine v_iload (pc := 48) dX5_yearBeside_48 4 rfl ?_
      exact m_retI (pc := 50) dX5_yearBeside_50 rfl h

theorem dX5_hiddenCell_0 : decode cX5_hiddenCell 0 = .ok (.iconst 0, 1) := by decide +kernel
theorem dX5_hiddenCell_1 : decode cX5_hiddenCell 1 = .ok (.istore 4, 2) := by decide +kernel
theorem dX5_hiddenCell_3 : decode cX5_hiddenCell 3 = .ok (.iconst 0, 1) := by decide +kernel
theorem dX5_hiddenCell_4 : decode cX5_hiddenCell 4 = .ok (.istore 5, 2) := by decide +kernel
theorem dX5_hiddenCell_6 : decode cX5_hiddenCell 6 = .ok (.iload 5, 2) := by decide +kernel
theorem dX5_hiddenCell_8 : decode cX5_hiddenCell 8 = .ok (.bipush 32, 2) := by decide +kernel
theorem dX5_hiddenCell_10 : decode cX5_hiddenCell 10 = .ok (.if_icmp .ge 41, 3) := by decide +kernel
theorem dX5_hiddenCell_13 : decode cX5_hiddenCell 13 = .ok (.aload_n 1, 1) := by decide +kernel
theorem dX5_hiddenCell_14 : decode cX5_hiddenCell 14 = .ok (.iload 5, 2) := by decide +kernel
theorem dX5_hiddenCell_16 : decode cX5_hiddenCell 16 = .ok (.invokevirtual 102, 3) := by decide +kernel
theorem dX5_hiddenCell_19 : decode cX5_hiddenCell 19 = .ok (.ifCond .eq 26, 3) := by decide +kernel
theorem dX5_hiddenCell_22 : decode cX5_hiddenCell 22 = .ok (.aload_n 0, 1) := by decide +kernel
theorem dX5_hiddenCell_23 : decode cX5_hiddenCell 23 = .ok (.aload_n 1, 1) := by decide +kernel
theorem dX5_hiddenCell_24 : decode cX5_hiddenCell 24 = .ok (.aload_n 2, 1) := by decide +kernel
theorem dX5_hiddenCell_25 : decode cX5_hiddenCell 25 = .ok (.iload 5, 2) := by decide +kernel
theorem dX5_hiddenCell_27 : decode cX5_hiddenCell 27 = .ok (.invokevirtual 106, 3) := by decide +kernel
theorem dX5_hiddenCell_30 : decode cX5_hiddenCell 30 = .ok (.ifCond .eq 15, 3) := by decide +kernel
theorem dX5_hiddenCell_33 : decode cX5_hiddenCell 33 = .ok (.iload 4, 2) := by decide +kernel
theorem dX5_hiddenCell_35 : decode cX5_hiddenCell 35 = .ok (.iload_n 3, 1) := by decide +kernel
theorem dX5_hiddenCell_36 : decode cX5_hiddenCell 36 = .ok (.if_icmp .ne 6, 3) := by decide +kernel
theorem dX5_hiddenCell_39 : decode cX5_hiddenCell 39 = .ok (.iload 5, 2) := by decide +kernel
theorem dX5_hiddenCell_41 : decode cX5_hiddenCell 41 = .ok (.ireturn, 1) := by decide +kernel
theorem dX5_hiddenCell_42 : decode cX5_hiddenCell 42 = .ok (.iinc 4 1, 3) := by decide +kernel
theorem dX5_hiddenCell_45 : decode cX5_hiddenCell 45 = .ok (.iinc 5 1, 3) := by decide +kernel
theorem dX5_hiddenCell_48 : decode cX5_hiddenCell 48 = .ok (.goto (-42), 3) := by decide +kernel
theorem dX5_hiddenCell_51 : decode cX5_hiddenCell 51 = .ok (.iload_n 3, 1) := by decide +kernel
theorem dX5_hiddenCell_52 : decode cX5_hiddenCell 52 = .ok (.iconst (-1), 1) := by decide +kernel
theorem dX5_hiddenCell_53 : decode cX5_hiddenCell 53 = .ok (.if_icmp .ne 8, 3) := by decide +kernel
theorem dX5_hiddenCell_56 : decode cX5_hiddenCell 56 = .ok (.iload 4, 2) := by decide +kernel
theorem dX5_hiddenCell_58 : decode cX5_hiddenCell 58 = .ok (.goto 4, 3) := by decide +kernel
theorem dX5_hiddenCell_61 : decode cX5_hiddenCell 61 = .ok (.iconst (-1), 1) := by decide +kernel
theorem dX5_hiddenCell_62 : decode cX5_hiddenCell 62 = .ok (.ireturn, 1) := by decide +kernel
set_option maxRecDepth 20000 in
theorem rX5_hiddenCell_0 {E : EN} (hE : Ep E) {k : Nat} {mem : Mm} {Q : Int → Mm → Prop} {p0 p1 p2 : Int} (hp0 : isYd p0) (hp1 : isFd p1)
    (h : VM E mX5_hiddenCell (k + 1) mem 6 [(0, aR 552), (1, aR p0), (2, aR p1), (3, aI p2), (4, aI 0), (5, aI 0)] [] (retI Q)) :
    VM E mX5_hiddenCell (k + 1) mem 0 [(0, aR 552), (1, aR p0), (2, aR p1), (3, aI p2)] [] (retI Q) := by
  refine v_iconst (pc := 0) dX5_hiddenCell_0 (by decide) ?_
  refine v_istore (pc := 1) (al2 := [(4, aI 0), (0, aR 552), (1, aR p0), (2, aR p1), (3, aI p2)]) dX5_hiddenCell_1 (by decide) rfl ?_
  refine v_iconst (pc := 3) dX5_hiddenCell_3 (by decide) ?_
  refine v_istore (pc := 4) (al2 := [(5, aI 0), (4, aI 0), (0, aR 552), (1, aR p0), (2, aR p1), (3, aI p2)]) dX5_hiddenCell_4 (by decide) rfl ?_
  exact VG_sub (al' := [(0, aR 552), (1, aR p0), (2, aR p1), (3, aI p2), (4, aI 0), (5, aI 0)]) [2, 3, 4, 5, 1, 0] rfl h
theorem eX5_hiddenCell {E : EN} {k : Nat} {mem : Mm} {Q : Int → Mm → Prop} {p0 p1 p2 : Int} (hr_p2 : R32 p2) (h : VM E mX5_hiddenCell (k + 1) mem 0 [(0, aR 552), (1, aR p0), (2, aR p1), (3, aI p2)] [] (retI Q)) : CI E mX5_hiddenCell (k + 1) mem [aR 552, aR p0, aR p1, aI p2] Q := CI_of rfl (Nat.le_of_ble_eq_true rfl) h (aNs_c (aNr_R _) (aNs_c (aNr_R _) (aNs_c (aNr_R _) (aNs_c (aNr_I hr_p2) (fun _ q => nomatch q)))))
set_option maxRecDepth 20000 in
theorem rX5_hiddenCell_6 {E : EN} (hE : Ep E) {k : Nat} {mem : Mm} {Q : Int → Mm → Prop} {p0 p1 p2 x4 x5 : Int} (hp0 : isYd p0) (hp1 : isFd p1)
    (h : ((32 ≤ x5 → ((¬ p2 = (-1) → Q (-1) mem) ∧ (p2 = (-1) → Q x4 mem))) ∧ (x5 < 32 → (R32 x5 → CI E mX10_isFreeGrass k mem [aR p0, aI x5] (fun r2 m1 => ((r2 = 0 → (R32 (x5 + 1)) ∧ VM E mX5_hiddenCell (k + 1) m1 6 [(0, aR 552), (1, aR p0), (2, aR p1), (3, aI p2), (4, aI x4), (5, aI (x5 + 1))] [] (retI Q)) ∧ (¬ r2 = 0 → (R32 x5 → CI E mX5_agrees k m1 [aR 552, aR p0, aR p1, aI x5] (fun r5 m4 => ((r5 = 0 → (R32 (x5 + 1)) ∧ VM E mX5_hiddenCell (k + 1) m4 6 [(0, aR 552), (1, aR p0), (2, aR p1), (3, aI p2), (4, aI x4), (5, aI (x5 + 1))] [] (retI Q)) ∧ (¬ r5 = 0 → ((¬ x4 = p2 → (R32 (x4 + 1)) ∧ (R32 (x5 + 1)) ∧ VM E mX5_hiddenCell (k + 1) m4 6 [(0, aR 552), (1, aR p0), (2, aR p1), (3, aI p2), (4, aI (x4 + 1)), (5, aI (x5 + 1))] [] (retI Q)) ∧ (x4 = p2 → Q x5 m4))))))))))))) :
    VM E mX5_hiddenCell (k + 1) mem 6 [(0, aR 552), (1, aR p0), (2, aR p1), (3, aI p2), (4, aI x4), (5, aI x5)] [] (retI Q) := by
  refine v_iload (pc := 6) dX5_hiddenCell_6 5 rfl ?_
  refine v_bipush (pc := 8) dX5_hiddenCell_8 (by decide) ?_
  refine v_icmpge (pc := 10) (tgt := 51) dX5_hiddenCell_10 (by decide) (fun c1 => ?_) (fun c1 => ?_)
  · have h := h.1 c1
    refine v_iload_n (pc := 51) dX5_hiddenCell_51 3 rfl ?_
    refine v_iconst (pc := 52) dX5_hiddenCell_52 (by decide) ?_
    refine v_icmpne (pc := 53) (tgt := 61) dX5_hiddenCell_53 (by decide) (fun c1 => ?_) (fun c1 => ?_)
    · have h := h.1 c1
      refine v_iconst (pc := 61) dX5_hiddenCell_61 (by decide) ?_
      exact m_retI (pc := 62) dX5_hiddenCell_62 rfl h
    · have h := h.2 c1
      refine v_iload (pc := 56) dX5_hiddenCell_56 4 rfl ?_
      refine v_goto (pc := 58) (tgt := 62) dX5_hiddenCell_58 (by decide) ?_
      exact m_retI (pc := 62) dX5_hiddenCell_62 rfl h
  · have h := h.2 c1
    refine v_aload_n (pc := 13) dX5_hiddenCell_13 1 rfl ?_
    refine v_iload (pc := 14) dX5_hiddenCell_14 5 rfl ?_
    refine m_invI (pc := 16) (mi' := mX10_isFreeGrass) (rest := []) [aI x5] dX5_hiddenCell_16 (yd0 hp0) (by decide) rfl msX10_isFreeGrass mvX10_isFreeGrass lkX5_102 rfl (Nat.le_of_ble_eq_true rfl) (fun hn => CI_mono (h (aaI hn 1 rfl)) (fun r2 m1 h => ?_))
    refine v_ifeq (pc := 19) (tgt := 45) dX5_hiddenCell_19 (by decide) (fun c1 => ?_) (fun c1 => ?_)
    · have h := h.1 c1
      obtain ⟨o3, h⟩ := h
      refine m_iinc (pc := 45) (al2 := [(5, aI (x5 + 1)), (0, aR 552), (1, aR p0), (2, aR p1), (3, aI p2), (4, aI x4)]) dX5_hiddenCell_45 5 rfl (by decide) o3 rfl ?_
      refine v_goto (pc := 48) (tgt := 6) dX5_hiddenCell_48 (by decide) ?_
      exact VG_sub (al' := [(0, aR 552), (1, aR p0), (2, aR p1), (3, aI p2), (4, aI x4), (5, aI (x5 + 1))]) [1, 2, 3, 4, 5, 0] rfl h
    · have h := h.2 c1
      refine v_aload_n (pc := 22) dX5_hiddenCell_22 0 rfl ?_
      refine v_aload_n (pc := 23) dX5_hiddenCell_23 1 rfl ?_
      refine v_aload_n (pc := 24) dX5_hiddenCell_24 2 rfl ?_
      refine v_iload (pc := 25) dX5_hiddenCell_25 5 rfl ?_
      refine m_invI (pc := 27) (mi' := mX5_agrees) (rest := []) [aR p0, aR p1, aI x5] dX5_hiddenCell_27 at552 (by decide) rfl msX5_agrees mvX5_agrees lkX5_106 rfl (Nat.le_of_ble_eq_true rfl) (fun hn => CI_mono (h (aaI hn 3 rfl)) (fun r5 m4 h => ?_))
      refine v_ifeq (pc := 30) (tgt := 45) dX5_hiddenCell_30 (by decide) (fun c1 => ?_) (fun c1 => ?_)
      · have h := h.1 c1
        obtain ⟨o6, h⟩ := h
        refine m_iinc (pc := 45) (al2 := [(5, aI (x5 + 1)), (0, aR 552), (1, aR p0), (2, aR p1), (3, aI p2), (4, aI x4)]) dX5_hiddenCell_45 5 rfl (by decide) o6 rfl ?_
        refine v_goto (pc := 48) (tgt := 6) dX5_hiddenCell_48 (by decide) ?_
        exact VG_sub (al' := [(0, aR 552), (1, aR p0), (2, aR p1), (3, aI p2), (4, aI x4), (5, aI (x5 + 1))]) [1, 2, 3, 4, 5, 0] rfl h
      · have h := h.2 c1
        refine v_iload (pc := 33) dX5_hiddenCell_33 4 rfl ?_
        refine v_iload_n (pc := 35) dX5_hiddenCell_35 3 rfl ?_
        refine v_icmpne (pc := 36) (tgt := 42) dX5_hiddenCell_36 (by decide) (fun c1 => ?_) (fun c1 => ?_)
        · have h := h.1 c1
          obtain ⟨o7, h⟩ := h
          refine m_iinc (pc := 42) (al2 := [(4, aI (x4 + 1)), (0, aR 552), (1, aR p0), (2, aR p1), (3, aI p2), (5, aI x5)]) dX5_hiddenCell_42 4 rfl (by decide) o7 rfl ?_
          obtain ⟨o8, h⟩ := h
          refine m_iinc (pc := 45) (al2 := [(5, aI (x5 + 1)), (4, aI (x4 + 1)), (0, aR 552), (1, aR p0), (2, aR p1), (3, aI p2)]) dX5_hiddenCell_45 5 rfl (by decide) o8 rfl ?_
          refine v_goto (pc := 48) (tgt := 6) dX5_hiddenCell_48 (by decide) ?_
          exact VG_sub (al' := [(0, aR 552), (1, aR p0), (2, aR p1), (3, aI p2), (4, aI (x4 + 1)), (5, aI (x5 + 1))]) [2, 3, 4, 5, 1, 0] rfl h
        · have h := h.2 c1
          refine v_iload (pc := 39) dX5_hiddenCell_39 5 rfl ?_
          exact m_retI (pc := 41) dX5_hiddenCell_41 rfl h

theorem dX5_agrees_0 : decode cX5_agrees 0 = .ok (.aload_n 0, 1) := by decide +kernel
theorem dX5_agrees_1 : decode cX5_agrees 1 = .ok (.aload_n 1, 1) := by decide +kernel
theorem dX5_agrees_2 : decode cX5_agrees 2 = .ok (.invokevirtual 40, 3) := by decide +kernel
theorem dX5_agrees_5 : decode cX5_agrees 5 = .ok (.aload_n 0, 1) := by decide +kernel
theorem dX5_agrees_6 : decode cX5_agrees 6 = .ok (.getfield 12, 3) := by decide +kernel
theorem dX5_agrees_9 : decode cX5_agrees 9 = .ok (.iconst 0, 1) := by decide +kernel
theorem dX5_agrees_10 : decode cX5_agrees 10 = .ok (.iload_n 3, 1) := by decide +kernel
theorem dX5_agrees_11 : decode cX5_agrees 11 = .ok (.iconst 0, 1) := by decide +kernel
theorem dX5_agrees_12 : decode cX5_agrees 12 = .ok (.invokevirtual 98, 3) := by decide +kernel
theorem dX5_agrees_15 : decode cX5_agrees 15 = .ok (.aload_n 2, 1) := by decide +kernel
theorem dX5_agrees_16 : decode cX5_agrees 16 = .ok (.invokevirtual 110, 3) := by decide +kernel
theorem dX5_agrees_19 : decode cX5_agrees 19 = .ok (.istore 4, 2) := by decide +kernel
theorem dX5_agrees_21 : decode cX5_agrees 21 = .ok (.iconst 0, 1) := by decide +kernel
theorem dX5_agrees_22 : decode cX5_agrees 22 = .ok (.istore 5, 2) := by decide +kernel
theorem dX5_agrees_24 : decode cX5_agrees 24 = .ok (.iload 5, 2) := by decide +kernel
theorem dX5_agrees_26 : decode cX5_agrees 26 = .ok (.iload 4, 2) := by decide +kernel
theorem dX5_agrees_28 : decode cX5_agrees 28 = .ok (.if_icmp .gt 38, 3) := by decide +kernel
theorem dX5_agrees_31 : decode cX5_agrees 31 = .ok (.aload_n 2, 1) := by decide +kernel
theorem dX5_agrees_32 : decode cX5_agrees 32 = .ok (.aload_n 0, 1) := by decide +kernel
theorem dX5_agrees_33 : decode cX5_agrees 33 = .ok (.getfield 12, 3) := by decide +kernel
theorem dX5_agrees_36 : decode cX5_agrees 36 = .ok (.iload 5, 2) := by decide +kernel
theorem dX5_agrees_38 : decode cX5_agrees 38 = .ok (.invokevirtual 116, 3) := by decide +kernel
theorem dX5_agrees_41 : decode cX5_agrees 41 = .ok (.ifCond .ne 5, 3) := by decide +kernel
theorem dX5_agrees_44 : decode cX5_agrees 44 = .ok (.iconst 0, 1) := by decide +kernel
theorem dX5_agrees_45 : decode cX5_agrees 45 = .ok (.ireturn, 1) := by decide +kernel
theorem dX5_agrees_46 : decode cX5_agrees 46 = .ok (.iload 5, 2) := by decide +kernel
theorem dX5_agrees_48 : decode cX5_agrees 48 = .ok (.iload 4, 2) := by decide +kernel
theorem dX5_agrees_50 : decode cX5_agrees 50 = .ok (.if_icmp .ge 10, 3) := by decide +kernel
theorem dX5_agrees_53 : decode cX5_agrees 53 = .ok (.aload_n 0, 1) := by decide +kernel
theorem dX5_agrees_54 : decode cX5_agrees 54 = .ok (.getfield 12, 3) := by decide +kernel
theorem dX5_agrees_57 : decode cX5_agrees 57 = .ok (.invokevirtual 43, 3) := by decide +kernel
theorem dX5_agrees_60 : decode cX5_agrees 60 = .ok (.iinc 5 1, 3) := by decide +kernel
theorem dX5_agrees_63 : decode cX5_agrees 63 = .ok (.goto (-39), 3) := by decide +kernel
theorem dX5_agrees_66 : decode cX5_agrees 66 = .ok (.iconst 1, 1) := by decide +kernel
theorem dX5_agrees_67 : decode cX5_agrees 67 = .ok (.ireturn, 1) := by decide +kernel
set_option maxRecDepth 20000 in
theorem rX5_agrees_0 {E : EN} (hE : Ep E) {k : Nat} {mem : Mm} {Q : Int → Mm → Prop} {p0 p1 p2 : Int} (hp0 : isYd p0) (hp1 : isFd p1)
    (h : (CV E mX5_begin k mem [aR 552, aR p0] (fun m1 => (R32 p2 → CV E mX10_add k m1 [aR 553, aI 0, aI p2, aI 0] (fun m2 => (CI E mX1_latest k m2 [aR p1] (fun r4 m3 => VM E mX5_agrees (k + 1) m3 24 [(0, aR 552), (2, aR p1), (4, aI r4), (5, aI 0)] [] (retI Q)))))))) :
    VM E mX5_agrees (k + 1) mem 0 [(0, aR 552), (1, aR p0), (2, aR p1), (3, aI p2)] [] (retI Q) := by
  refine v_aload_n (pc := 0) dX5_agrees_0 0 rfl ?_
  refine v_aload_n (pc := 1) dX5_agrees_1 1 rfl ?_
  refine m_invV (pc := 2) (mi' := mX5_begin) (rest := []) [aR p0] dX5_agrees_2 at552 (by decide) rfl msX5_begin mvX5_begin lkX5_40 rfl (Nat.le_of_ble_eq_true rfl) (fun hn => CV_mono (h) (fun m1 h => ?_))
  refine v_aload_n (pc := 5) dX5_agrees_5 0 rfl ?_
  refine m_getfin (pc := 6) (v := 553) hE dX5_agrees_6 flX5_12 rfl at552 rfl ?_
  refine v_iconst (pc := 9) dX5_agrees_9 (by decide) ?_
  refine v_iload_n (pc := 10) dX5_agrees_10 3 rfl ?_
  refine v_iconst (pc := 11) dX5_agrees_11 (by decide) ?_
  refine m_invV (pc := 12) (mi' := mX10_add) (rest := []) [aI 0, aI p2, aI 0] dX5_agrees_12 (yd0 (show isYd 553 by unfold isYd; omega)) (by decide) rfl msX10_add mvX10_add lkX5_98 rfl (Nat.le_of_ble_eq_true rfl) (fun hn => CV_mono (h (aaI hn 2 rfl)) (fun m2 h => ?_))
  refine v_aload_n (pc := 15) dX5_agrees_15 2 rfl ?_
  refine m_invI (pc := 16) (mi' := mX1_latest) (rest := []) [] dX5_agrees_16 (fd0 hp1) (by decide) rfl msX1_latest mvX1_latest lkX5_110 rfl (Nat.le_of_ble_eq_true rfl) (fun hn => CI_mono (h) (fun r4 m3 h => ?_))
  refine v_istore (pc := 19) (al2 := [(4, aI r4), (0, aR 552), (1, aR p0), (2, aR p1), (3, aI p2)]) dX5_agrees_19 (by decide) rfl ?_
  refine v_iconst (pc := 21) dX5_agrees_21 (by decide) ?_
  refine v_istore (pc := 22) (al2 := [(5, aI 0), (4, aI r4), (0, aR 552), (1, aR p0), (2, aR p1), (3, aI p2)]) dX5_agrees_22 (by decide) rfl ?_
  exact VG_sub (al' := [(0, aR 552), (2, aR p1), (4, aI r4), (5, aI 0)]) [2, 4, 1, 0] rfl h
theorem eX5_agrees {E : EN} {k : Nat} {mem : Mm} {Q : Int → Mm → Prop} {p0 p1 p2 : Int} (hr_p2 : R32 p2) (h : VM E mX5_agrees (k + 1) mem 0 [(0, aR 552), (1, aR p0), (2, aR p1), (3, aI p2)] [] (retI Q)) : CI E mX5_agrees (k + 1) mem [aR 552, aR p0, aR p1, aI p2] Q := CI_of rfl (Nat.le_of_ble_eq_true rfl) h (aNs_c (aNr_R _) (aNs_c (aNr_R _) (aNs_c (aNr_R _) (aNs_c (aNr_I hr_p2) (fun _ q => nomatch q)))))
set_option maxRecDepth 20000 in
theorem rX5_agrees_24 {E : EN} (hE : Ep E) {k : Nat} {mem : Mm} {Q : Int → Mm → Prop} {p0 p1 p2 x4 x5 : Int} (hp0 : isYd p0) (hp1 : isFd p1)
    (h : ((x4 < x5 → Q 1 mem) ∧ (x5 ≤ x4 → (R32 x5 → CI E mX1_agree k mem [aR p1, aR 553, aI x5] (fun r2 m1 => ((¬ r2 = 0 → ((x4 ≤ x5 → (R32 (x5 + 1)) ∧ VM E mX5_agrees (k + 1) m1 24 [(0, aR 552), (2, aR p1), (4, aI x4), (5, aI (x5 + 1))] [] (retI Q)) ∧ (x5 < x4 → (CV E mX10_turnYear k m1 [aR 553] (fun m4 => (R32 (x5 + 1)) ∧ VM E mX5_agrees (k + 1) m4 24 [(0, aR 552), (2, aR p1), (4, aI x4), (5, aI (x5 + 1))] [] (retI Q)))))) ∧ (r2 = 0 → Q 0 m1))))))) :
    VM E mX5_agrees (k + 1) mem 24 [(0, aR 552), (2, aR p1), (4, aI x4), (5, aI x5)] [] (retI Q) := by
  refine v_iload (pc := 24) dX5_agrees_24 3 rfl ?_
  refine v_iload (pc := 26) dX5_agrees_26 2 rfl ?_
  refine v_icmpgt (pc := 28) (tgt := 66) dX5_agrees_28 (by decide) (fun c1 => ?_) (fun c1 => ?_)
  · have h := h.1 c1
    refine v_iconst (pc := 66) dX5_agrees_66 (by decide) ?_
    exact m_retZ (pc := 67) dX5_agrees_67 rfl (by decide) h
  · have h := h.2 c1
    refine v_aload_n (pc := 31) dX5_agrees_31 1 rfl ?_
    refine v_aload_n (pc := 32) dX5_agrees_32 0 rfl ?_
    refine m_getfin (pc := 33) (v := 553) hE dX5_agrees_33 flX5_12 rfl at552 rfl ?_
    refine v_iload (pc := 36) dX5_agrees_36 3 rfl ?_
    refine m_invI (pc := 38) (mi' := mX1_agree) (rest := []) [aR 553, aI x5] dX5_agrees_38 (fd0 hp1) (by decide) rfl msX1_agree mvX1_agree lkX5_116 rfl (Nat.le_of_ble_eq_true rfl) (fun hn => CI_mono (h (aaI hn 2 rfl)) (fun r2 m1 h => ?_))
    refine v_ifne (pc := 41) (tgt := 46) dX5_agrees_41 (by decide) (fun c1 => ?_) (fun c1 => ?_)
    · have h := h.1 c1
      refine v_iload (pc := 46) dX5_agrees_46 3 rfl ?_
      refine v_iload (pc := 48) dX5_agrees_48 2 rfl ?_
      refine v_icmpge (pc := 50) (tgt := 60) dX5_agrees_50 (by decide) (fun c1 => ?_) (fun c1 => ?_)
      · have h := h.1 c1
        obtain ⟨o3, h⟩ := h
        refine m_iinc (pc := 60) (al2 := [(5, aI (x5 + 1)), (0, aR 552), (2, aR p1), (4, aI x4)]) dX5_agrees_60 3 rfl (by decide) o3 rfl ?_
        refine v_goto (pc := 63) (tgt := 24) dX5_agrees_63 (by decide) ?_
        exact VG_sub (al' := [(0, aR 552), (2, aR p1), (4, aI x4), (5, aI (x5 + 1))]) [1, 2, 3, 0] rfl h
      · have h := h.2 c1
        refine v_aload_n (pc := 53) dX5_agrees_53 0 rfl ?_
        refine m_getfin (pc := 54) (v := 553) hE dX5_agrees_54 flX5_12 rfl at552 rfl ?_
        refine m_invV (pc := 57) (mi' := mX10_turnYear) (rest := []) [] dX5_agrees_57 (yd0 (show isYd 553 by unfold isYd; omega)) (by decide) rfl msX10_turnYear mvX10_turnYear lkX5_43 rfl (Nat.le_of_ble_eq_true rfl) (fun hn => CV_mono (h) (fun m4 h => ?_))
        obtain ⟨o5, h⟩ := h
        refine m_iinc (pc := 60) (al2 := [(5, aI (x5 + 1)), (0, aR 552), (2, aR p1), (4, aI x4)]) dX5_agrees_60 3 rfl (by decide) o5 rfl ?_
        refine v_goto (pc := 63) (tgt := 24) dX5_agrees_63 (by decide) ?_
        exact VG_sub (al' := [(0, aR 552), (2, aR p1), (4, aI x4), (5, aI (x5 + 1))]) [1, 2, 3, 0] rfl h
    · have h := h.2 c1
      refine v_iconst (pc := 44) dX5_agrees_44 (by decide) ?_
      exact m_retZ (pc := 45) dX5_agrees_45 rfl (by decide) h

theorem dX5_findSpade_0 : decode cX5_findSpade 0 = .ok (.iconst 0, 1) := by decide +kernel
theorem dX5_findSpade_1 : decode cX5_findSpade 1 = .ok (.istore 4, 2) := by decide +kernel
theorem dX5_findSpade_3 : decode cX5_findSpade 3 = .ok (.iload 4, 2) := by decide +kernel
theorem dX5_findSpade_5 : decode cX5_findSpade 5 = .ok (.bipush 32, 2) := by decide +kernel
theorem dX5_findSpade_7 : decode cX5_findSpade 7 = .ok (.if_icmp .ge 17, 3) := by decide +kernel
theorem dX5_findSpade_10 : decode cX5_findSpade 10 = .ok (.aload_n 0, 1) := by decide +kernel
theorem dX5_findSpade_11 : decode cX5_findSpade 11 = .ok (.getfield 25, 3) := by decide +kernel
theorem dX5_findSpade_14 : decode cX5_findSpade 14 = .ok (.iload 4, 2) := by decide +kernel
theorem dX5_findSpade_16 : decode cX5_findSpade 16 = .ok (.iconst 0, 1) := by decide +kernel
theorem dX5_findSpade_17 : decode cX5_findSpade 17 = .ok (.iastore, 1) := by decide +kernel
theorem dX5_findSpade_18 : decode cX5_findSpade 18 = .ok (.iinc 4 1, 3) := by decide +kernel
theorem dX5_findSpade_21 : decode cX5_findSpade 21 = .ok (.goto (-18), 3) := by decide +kernel
theorem dX5_findSpade_24 : decode cX5_findSpade 24 = .ok (.iconst 0, 1) := by decide +kernel
theorem dX5_findSpade_25 : decode cX5_findSpade 25 = .ok (.istore 4, 2) := by decide +kernel
theorem dX5_findSpade_27 : decode cX5_findSpade 27 = .ok (.iconst 0, 1) := by decide +kernel
theorem dX5_findSpade_28 : decode cX5_findSpade 28 = .ok (.istore 5, 2) := by decide +kernel
theorem dX5_findSpade_30 : decode cX5_findSpade 30 = .ok (.iload 5, 2) := by decide +kernel
theorem dX5_findSpade_32 : decode cX5_findSpade 32 = .ok (.bipush 32, 2) := by decide +kernel
theorem dX5_findSpade_34 : decode cX5_findSpade 34 = .ok (.if_icmp .ge 40, 3) := by decide +kernel
theorem dX5_findSpade_37 : decode cX5_findSpade 37 = .ok (.aload_n 1, 1) := by decide +kernel
theorem dX5_findSpade_38 : decode cX5_findSpade 38 = .ok (.iload 5, 2) := by decide +kernel
theorem dX5_findSpade_40 : decode cX5_findSpade 40 = .ok (.invokevirtual 102, 3) := by decide +kernel
theorem dX5_findSpade_43 : decode cX5_findSpade 43 = .ok (.ifCond .eq 25, 3) := by decide +kernel
theorem dX5_findSpade_46 : decode cX5_findSpade 46 = .ok (.aload_n 0, 1) := by decide +kernel
theorem dX5_findSpade_47 : decode cX5_findSpade 47 = .ok (.aload_n 1, 1) := by decide +kernel
theorem dX5_findSpade_48 : decode cX5_findSpade 48 = .ok (.aload_n 2, 1) := by decide +kernel
theorem dX5_findSpade_49 : decode cX5_findSpade 49 = .ok (.iload 5, 2) := by decide +kernel
theorem dX5_findSpade_51 : decode cX5_findSpade 51 = .ok (.invokevirtual 106, 3) := by decide +kernel
theorem dX5_findSpade_54 : decode cX5_findSpade 54 = .ok (.ifCond .eq 14, 3) := by decide +kernel
theorem dX5_findSpade_57 : decode cX5_findSpade 57 = .ok (.iinc 4 1, 3) := by decide +kernel
theorem dX5_findSpade_60 : decode cX5_findSpade 60 = .ok (.aload_n 0, 1) := by decide +kernel
theorem dX5_findSpade_61 : decode cX5_findSpade 61 = .ok (.aload_n 1, 1) := by decide +kernel
theorem dX5_findSpade_62 : decode cX5_findSpade 62 = .ok (.iload 5, 2) := by decide +kernel
theorem dX5_findSpade_64 : decode cX5_findSpade 64 = .ok (.iload_n 3, 1) := by decide +kernel
theorem dX5_findSpade_65 : decode cX5_findSpade 65 = .ok (.invokevirtual 120, 3) := by decide +kernel
theorem dX5_findSpade_68 : decode cX5_findSpade 68 = .ok (.iinc 5 1, 3) := by decide +kernel
theorem dX5_findSpade_71 : decode cX5_findSpade 71 = .ok (.goto (-41), 3) := by decide +kernel
theorem dX5_findSpade_74 : decode cX5_findSpade 74 = .ok (.aload_n 0, 1) := by decide +kernel
theorem dX5_findSpade_75 : decode cX5_findSpade 75 = .ok (.iconst (-1), 1) := by decide +kernel
theorem dX5_findSpade_76 : decode cX5_findSpade 76 = .ok (.putfield 85, 3) := by decide +kernel
theorem dX5_findSpade_79 : decode cX5_findSpade 79 = .ok (.iconst 0, 1) := by decide +kernel
theorem dX5_findSpade_80 : decode cX5_findSpade 80 = .ok (.istore 5, 2) := by decide +kernel
theorem dX5_findSpade_82 : decode cX5_findSpade 82 = .ok (.iload 5, 2) := by decide +kernel
theorem dX5_findSpade_84 : decode cX5_findSpade 84 = .ok (.bipush 32, 2) := by decide +kernel
theorem dX5_findSpade_86 : decode cX5_findSpade 86 = .ok (.if_icmp .ge 60, 3) := by decide +kernel
theorem dX5_findSpade_89 : decode cX5_findSpade 89 = .ok (.aload_n 0, 1) := by decide +kernel
theorem dX5_findSpade_90 : decode cX5_findSpade 90 = .ok (.getfield 25, 3) := by decide +kernel
theorem dX5_findSpade_93 : decode cX5_findSpade 93 = .ok (.iload 5, 2) := by decide +kernel
theorem dX5_findSpade_95 : decode cX5_findSpade 95 = .ok (.iaload, 1) := by decide +kernel
theorem dX5_findSpade_96 : decode cX5_findSpade 96 = .ok (.iload 4, 2) := by decide +kernel
theorem dX5_findSpade_98 : decode cX5_findSpade 98 = .ok (.aload_n 0, 1) := by decide +kernel
theorem dX5_findSpade_99 : decode cX5_findSpade 99 = .ok (.getfield 25, 3) := by decide +kernel
theorem dX5_findSpade_102 : decode cX5_findSpade 102 = .ok (.iload 5, 2) := by decide +kernel
theorem dX5_findSpade_104 : decode cX5_findSpade 104 = .ok (.iaload, 1) := by decide +kernel
theorem dX5_findSpade_105 : decode cX5_findSpade 105 = .ok (.isub, 1) := by decide +kernel
theorem dX5_findSpade_106 : decode cX5_findSpade 106 = .ok (.invokestatic 124, 3) := by decide +kernel
theorem dX5_findSpade_109 : decode cX5_findSpade 109 = .ok (.istore 6, 2) := by decide +kernel
theorem dX5_findSpade_111 : decode cX5_findSpade 111 = .ok (.aload_n 0, 1) := by decide +kernel
theorem dX5_findSpade_112 : decode cX5_findSpade 112 = .ok (.getfield 85, 3) := by decide +kernel
theorem dX5_findSpade_115 : decode cX5_findSpade 115 = .ok (.iconst (-1), 1) := by decide +kernel
theorem dX5_findSpade_116 : decode cX5_findSpade 116 = .ok (.if_icmp .eq 12, 3) := by decide +kernel
theorem dX5_findSpade_119 : decode cX5_findSpade 119 = .ok (.iload 6, 2) := by decide +kernel
theorem dX5_findSpade_121 : decode cX5_findSpade 121 = .ok (.aload_n 0, 1) := by decide +kernel
theorem dX5_findSpade_122 : decode cX5_findSpade 122 = .ok (.getfield 95, 3) := by decide +kernel
theorem dX5_findSpade_125 : decode cX5_findSpade 125 = .ok (.if_icmp .ge 15, 3) := by decide +kernel
theorem dX5_findSpade_128 : decode cX5_findSpade 128 = .ok (.aload_n 0, 1) := by decide +kernel
theorem dX5_findSpade_129 : decode cX5_findSpade 129 = .ok (.iload 5, 2) := by decide +kernel
theorem dX5_findSpade_131 : decode cX5_findSpade 131 = .ok (.putfield 85, 3) := by decide +kernel
theorem dX5_findSpade_134 : decode cX5_findSpade 134 = .ok (.aload_n 0, 1) := by decide +kernel
theorem dX5_findSpade_135 : decode cX5_findSpade 135 = .ok (.iload 6, 2) := by decide +kernel
theorem dX5_findSpade_137 : decode cX5_findSpade 137 = .ok (.putfield 95, 3) := by decide +kernel
theorem dX5_findSpade_140 : decode cX5_findSpade 140 = .ok (.iinc 5 1, 3) := by decide +kernel
theorem dX5_findSpade_143 : decode cX5_findSpade 143 = .ok (.goto (-61), 3) := by decide +kernel
theorem dX5_findSpade_146 : decode cX5_findSpade 146 = .ok (.iload 4, 2) := by decide +kernel
theorem dX5_findSpade_148 : decode cX5_findSpade 148 = .ok (.ifCond .le 7, 3) := by decide +kernel
theorem dX5_findSpade_151 : decode cX5_findSpade 151 = .ok (.iconst 1, 1) := by decide +kernel
theorem dX5_findSpade_152 : decode cX5_findSpade 152 = .ok (.goto 4, 3) := by decide +kernel
theorem dX5_findSpade_155 : decode cX5_findSpade 155 = .ok (.iconst 0, 1) := by decide +kernel
theorem dX5_findSpade_156 : decode cX5_findSpade 156 = .ok (.ireturn, 1) := by decide +kernel
set_option maxRecDepth 20000 in
theorem rX5_findSpade_0 {E : EN} (hE : Ep E) {k : Nat} {mem : Mm} {Q : Int → Mm → Prop} {p0 p1 p2 : Int} (hp0 : isYd p0) (hp1 : isFd p1)
    (h : VM E mX5_findSpade (k + 1) mem 3 [(0, aR 552), (1, aR p0), (2, aR p1), (3, aI p2), (4, aI 0)] [] (retI Q)) :
    VM E mX5_findSpade (k + 1) mem 0 [(0, aR 552), (1, aR p0), (2, aR p1), (3, aI p2)] [] (retI Q) := by
  refine v_iconst (pc := 0) dX5_findSpade_0 (by decide) ?_
  refine v_istore (pc := 1) (al2 := [(4, aI 0), (0, aR 552), (1, aR p0), (2, aR p1), (3, aI p2)]) dX5_findSpade_1 (by decide) rfl ?_
  exact VG_sub (al' := [(0, aR 552), (1, aR p0), (2, aR p1), (3, aI p2), (4, aI 0)]) [1, 2, 3, 4, 0] rfl h
theorem eX5_findSpade {E : EN} {k : Nat} {mem : Mm} {Q : Int → Mm → Prop} {p0 p1 p2 : Int} (hr_p2 : R32 p2) (h : VM E mX5_findSpade (k + 1) mem 0 [(0, aR 552), (1, aR p0), (2, aR p1), (3, aI p2)] [] (retI Q)) : CI E mX5_findSpade (k + 1) mem [aR 552, aR p0, aR p1, aI p2] Q := CI_of rfl (Nat.le_of_ble_eq_true rfl) h (aNs_c (aNr_R _) (aNs_c (aNr_R _) (aNs_c (aNr_R _) (aNs_c (aNr_I hr_p2) (fun _ q => nomatch q)))))
set_option maxRecDepth 20000 in
theorem rX5_findSpade_3 {E : EN} (hE : Ep E) {k : Nat} {mem : Mm} {Q : Int → Mm → Prop} {p0 p1 p2 x4 : Int} (hp0 : isYd p0) (hp1 : isFd p1)
    (h : ((32 ≤ x4 → VM E mX5_findSpade (k + 1) mem 30 [(0, aR 552), (1, aR p0), (2, aR p1), (3, aI p2), (4, aI 0), (5, aI 0)] [] (retI Q)) ∧ (x4 < 32 → (0 ≤ x4 ∧ x4 < 32) ∧ (R32 (x4 + 1)) ∧ VM E mX5_findSpade (k + 1) (aUp mem 574 x4 0) 3 [(0, aR 552), (1, aR p0), (2, aR p1), (3, aI p2), (4, aI (x4 + 1))] [] (retI Q)))) :
    VM E mX5_findSpade (k + 1) mem 3 [(0, aR 552), (1, aR p0), (2, aR p1), (3, aI p2), (4, aI x4)] [] (retI Q) := by
  refine v_iload (pc := 3) dX5_findSpade_3 4 rfl ?_
  refine v_bipush (pc := 5) dX5_findSpade_5 (by decide) ?_
  refine v_icmpge (pc := 7) (tgt := 24) dX5_findSpade_7 (by decide) (fun c1 => ?_) (fun c1 => ?_)
  · have h := h.1 c1
    refine v_iconst (pc := 24) dX5_findSpade_24 (by decide) ?_
    refine v_istore (pc := 25) (al2 := [(4, aI 0), (0, aR 552), (1, aR p0), (2, aR p1), (3, aI p2)]) dX5_findSpade_25 (by decide) rfl ?_
    refine v_iconst (pc := 27) dX5_findSpade_27 (by decide) ?_
    refine v_istore (pc := 28) (al2 := [(5, aI 0), (4, aI 0), (0, aR 552), (1, aR p0), (2, aR p1), (3, aI p2)]) dX5_findSpade_28 (by decide) rfl ?_
    exact VG_sub (al' := [(0, aR 552), (1, aR p0), (2, aR p1), (3, aI p2), (4, aI 0), (5, aI 0)]) [2, 3, 4, 5, 1, 0] rfl h
  · have h := h.2 c1
    refine v_aload_n (pc := 10) dX5_findSpade_10 0 rfl ?_
    refine m_getfin (pc := 11) (v := 574) hE dX5_findSpade_11 flX5_25 rfl at552 rfl ?_
    refine v_iload (pc := 14) dX5_findSpade_14 4 rfl ?_
    refine v_iconst (pc := 16) dX5_findSpade_16 (by decide) ?_
    obtain ⟨o1, h⟩ := h
    refine v_iast (pc := 17) dX5_findSpade_17 at574 o1.1 o1.2 ?_
    obtain ⟨o2, h⟩ := h
    refine m_iinc (pc := 18) (al2 := [(4, aI (x4 + 1)), (0, aR 552), (1, aR p0), (2, aR p1), (3, aI p2)]) dX5_findSpade_18 4 rfl (by decide) o2 rfl ?_
    refine v_goto (pc := 21) (tgt := 3) dX5_findSpade_21 (by decide) ?_
    exact VG_sub (al' := [(0, aR 552), (1, aR p0), (2, aR p1), (3, aI p2), (4, aI (x4 + 1))]) [1, 2, 3, 4, 0] rfl h
set_option maxRecDepth 20000 in
theorem rX5_findSpade_30 {E : EN} (hE : Ep E) {k : Nat} {mem : Mm} {Q : Int → Mm → Prop} {p0 p1 p2 x4 x5 : Int} (hp0 : isYd p0) (hp1 : isFd p1)
    (h : ((32 ≤ x5 → VM E mX5_findSpade (k + 1) (aUp mem 552 7 (-1)) 82 [(0, aR 552), (4, aI x4), (5, aI 0)] [] (retI Q)) ∧ (x5 < 32 → (R32 x5 → CI E mX10_isFreeGrass k mem [aR p0, aI x5] (fun r2 m1 => ((r2 = 0 → (R32 (x5 + 1)) ∧ VM E mX5_findSpade (k + 1) m1 30 [(0, aR 552), (1, aR p0), (2, aR p1), (3, aI p2), (4, aI x4), (5, aI (x5 + 1))] [] (retI Q)) ∧ (¬ r2 = 0 → (R32 x5 → CI E mX5_agrees k m1 [aR 552, aR p0, aR p1, aI x5] (fun r5 m4 => ((r5 = 0 → (R32 (x5 + 1)) ∧ VM E mX5_findSpade (k + 1) m4 30 [(0, aR 552), (1, aR p0), (2, aR p1), (3, aI p2), (4, aI x4), (5, aI (x5 + 1))] [] (retI Q)) ∧ (¬ r5 = 0 → (R32 (x4 + 1)) ∧ (R32 x5 → R32 p2 → CV E mX5_seeBehind k m4 [aR 552, aR p0, aI x5, aI p2] (fun m8 => (R32 (x5 + 1)) ∧ VM E mX5_findSpade (k + 1) m8 30 [(0, aR 552), (1, aR p0), (2, aR p1), (3, aI p2), (4, aI (x4 + 1)), (5, aI (x5 + 1))] [] (retI Q)))))))))))))) :
    VM E mX5_findSpade (k + 1) mem 30 [(0, aR 552), (1, aR p0), (2, aR p1), (3, aI p2), (4, aI x4), (5, aI x5)] [] (retI Q) := by
  refine v_iload (pc := 30) dX5_findSpade_30 5 rfl ?_
  refine v_bipush (pc := 32) dX5_findSpade_32 (by decide) ?_
  refine v_icmpge (pc := 34) (tgt := 74) dX5_findSpade_34 (by decide) (fun c1 => ?_) (fun c1 => ?_)
  · have h := h.1 c1
    refine v_aload_n (pc := 74) dX5_findSpade_74 0 rfl ?_
    refine v_iconst (pc := 75) dX5_findSpade_75 (by decide) ?_
    refine v_putf (pc := 76) dX5_findSpade_76 flX5_85 ⟨_, _, rfl, Or.inl rfl⟩ rfl (by decide) (fun q => nomatch q) (Or.inl fun _ => rfl) at552 ?_
    refine v_iconst (pc := 79) dX5_findSpade_79 (by decide) ?_
    refine v_istore (pc := 80) (al2 := [(5, aI 0), (0, aR 552), (1, aR p0), (2, aR p1), (3, aI p2), (4, aI x4)]) dX5_findSpade_80 (by decide) rfl ?_
    exact VG_sub (al' := [(0, aR 552), (4, aI x4), (5, aI 0)]) [1, 5, 0] rfl h
  · have h := h.2 c1
    refine v_aload_n (pc := 37) dX5_findSpade_37 1 rfl ?_
    refine v_iload (pc := 38) dX5_findSpade_38 5 rfl ?_
    refine m_invI (pc := 40) (mi' := mX10_isFreeGrass) (rest := []) [aI x5] dX5_findSpade_40 (yd0 hp0) (by decide) rfl msX10_isFreeGrass mvX10_isFreeGrass lkX5_102 rfl (Nat.le_of_ble_eq_true rfl) (fun hn => CI_mono (h (aaI hn 1 rfl)) (fun r2 m1 h => ?_))
    refine v_ifeq (pc := 43) (tgt := 68) dX5_findSpade_43 (by decide) (fun c1 => ?_) (fun c1 => ?_)
    · have h := h.1 c1
      obtain ⟨o3, h⟩ := h
      refine m_iinc (pc := 68) (al2 := [(5, aI (x5 + 1)), (0, aR 552), (1, aR p0), (2, aR p1), (3, aI p2), (4, aI x4)]) dX5_findSpade_68 5 rfl (by decide) o3 rfl ?_
      refine v_goto (pc := 71) (tgt := 30) dX5_findSpade_71 (by decide) ?_
      exact VG_sub (al' := [(0, aR 552), (1, aR p0), (2, aR p1), (3, aI p2), (4, aI x4), (5, aI (x5 + 1))]) [1, 2, 3, 4, 5, 0] rfl h
    · have h := h.2 c1
      refine v_aload_n (pc := 46) dX5_findSpade_46 0 rfl ?_
      refine v_aload_n (pc := 47) dX5_findSpade_47 1 rfl ?_
      refine v_aload_n (pc := 48) dX5_findSpade_48 2 rfl ?_
      refine v_iload (pc := 49) dX5_findSpade_49 5 rfl ?_
      refine m_invI (pc := 51) (mi' := mX5_agrees) (rest := []) [aR p0, aR p1, aI x5] dX5_findSpade_51 at552 (by decide) rfl msX5_agrees mvX5_agrees lkX5_106 rfl (Nat.le_of_ble_eq_true rfl) (fun hn => CI_mono (h (aaI hn 3 rfl)) (fun r5 m4 h => ?_))
      refine v_ifeq (pc := 54) (tgt := 68) dX5_findSpade_54 (by decide) (fun c1 => ?_) (fun c1 => ?_)
      · have h := h.1 c1
        obtain ⟨o6, h⟩ := h
        refine m_iinc (pc := 68) (al2 := [(5, aI (x5 + 1)), (0, aR 552), (1, aR p0), (2, aR p1), (3, aI p2), (4, aI x4)]) dX5_findSpade_68 5 rfl (by decide) o6 rfl ?_
        refine v_goto (pc := 71) (tgt := 30) dX5_findSpade_71 (by decide) ?_
        exact VG_sub (al' := [(0, aR 552), (1, aR p0), (2, aR p1), (3, aI p2), (4, aI x4), (5, aI (x5 + 1))]) [1, 2, 3, 4, 5, 0] rfl h
      · have h := h.2 c1
        obtain ⟨o7, h⟩ := h
        refine m_iinc (pc := 57) (al2 := [(4, aI (x4 + 1)), (0, aR 552), (1, aR p0), (2, aR p1), (3, aI p2), (5, aI x5)]) dX5_findSpade_57 4 rfl (by decide) o7 rfl ?_
        refine v_aload_n (pc := 60) dX5_findSpade_60 1 rfl ?_
        refine v_aload_n (pc := 61) dX5_findSpade_61 2 rfl ?_
        refine v_iload (pc := 62) dX5_findSpade_62 5 rfl ?_
        refine v_iload_n (pc := 64) dX5_findSpade_64 4 rfl ?_
        refine m_invV (pc := 65) (mi' := mX5_seeBehind) (rest := []) [aR p0, aI x5, aI p2] dX5_findSpade_65 at552 (by decide) rfl msX5_seeBehind mvX5_seeBehind lkX5_120 rfl (Nat.le_of_ble_eq_true rfl) (fun hn => CV_mono (h (aaI hn 2 rfl) (aaI hn 3 rfl)) (fun m8 h => ?_))
        obtain ⟨o9, h⟩ := h
        refine m_iinc (pc := 68) (al2 := [(5, aI (x5 + 1)), (4, aI (x4 + 1)), (0, aR 552), (1, aR p0), (2, aR p1), (3, aI p2)]) dX5_findSpade_68 5 rfl (by decide) o9 rfl ?_
        refine v_goto (pc := 71) (tgt := 30) dX5_findSpade_71 (by decide) ?_
        exact VG_sub (al' := [(0, aR 552), (1, aR p0), (2, aR p1), (3, aI p2), (4, aI (x4 + 1)), (5, aI (x5 + 1))]) [2, 3, 4, 5, 1, 0] rfl h
set_option maxRecDepth 20000 in
theorem rX5_findSpade_82 {E : EN} (hE : Ep E) {k : Nat} {mem : Mm} {Q : Int → Mm → Prop} {p0 p1 p2 x4 x5 : Int} (hp0 : isYd p0) (hp1 : isFd p1)
    (h : ((32 ≤ x5 → ((x4 ≤ 0 → Q 0 mem) ∧ (0 < x4 → Q 1 mem))) ∧ (x5 < 32 → (0 ≤ x5 ∧ x5 < 32) ∧ (R32 (x4 - (mem 574 x5))) ∧ (((mem 552 7) = (-1) → (R32 (x5 + 1)) ∧ VM E mX5_findSpade (k + 1) (aUp (aUp mem 552 7 x5) 552 8 (max (mem 574 x5) (x4 - (mem 574 x5)))) 82 [(0, aR 552), (4, aI x4), (5, aI (x5 + 1))] [] (retI Q)) ∧ (¬ (mem 552 7) = (-1) → (((mem 552 8) ≤ (max (mem 574 x5) (x4 - (mem 574 x5))) → (R32 (x5 + 1)) ∧ VM E mX5_findSpade (k + 1) mem 82 [(0, aR 552), (4, aI x4), (5, aI (x5 + 1))] [] (retI Q)) ∧ ((max (mem 574 x5) (x4 - (mem 574 x5))) < (mem 552 8) → (R32 (x5 + 1)) ∧ VM E mX5_findSpade (k + 1) (aUp (aUp mem 552 7 x5) 552 8 (max (mem 574 x5) (x4 - (mem 574 x5)))) 82 [(0, aR 552), (4, aI x4), (5, aI (x5 + 1))] [] (retI Q)))))))) :
    VM E mX5_findSpade (k + 1) mem 82 [(0, aR 552), (4, aI x4), (5, aI x5)] [] (retI Q) := by
  refine v_iload (pc := 82) dX5_findSpade_82 2 rfl ?_
  refine v_bipush (pc := 84) dX5_findSpade_84 (by decide) ?_
  refine v_icmpge (pc := 86) (tgt := 146) dX5_findSpade_86 (by decide) (fun c1 => ?_) (fun c1 => ?_)
  · have h := h.1 c1
    refine v_iload (pc := 146) dX5_findSpade_146 1 rfl ?_
    refine v_ifle (pc := 148) (tgt := 155) dX5_findSpade_148 (by decide) (fun c1 => ?_) (fun c1 => ?_)
    · have h := h.1 c1
      refine v_iconst (pc := 155) dX5_findSpade_155 (by decide) ?_
      exact m_retZ (pc := 156) dX5_findSpade_156 rfl (by decide) h
    · have h := h.2 c1
      refine v_iconst (pc := 151) dX5_findSpade_151 (by decide) ?_
      refine v_goto (pc := 152) (tgt := 156) dX5_findSpade_152 (by decide) ?_
      exact m_retZ (pc := 156) dX5_findSpade_156 rfl (by decide) h
  · have h := h.2 c1
    refine v_aload_n (pc := 89) dX5_findSpade_89 0 rfl ?_
    refine m_getfin (pc := 90) (v := 574) hE dX5_findSpade_90 flX5_25 rfl at552 rfl ?_
    refine v_iload (pc := 93) dX5_findSpade_93 2 rfl ?_
    obtain ⟨o1, h⟩ := h
    refine m_iald (pc := 95) (v := (mem 574 x5)) dX5_findSpade_95 at574 o1.1 o1.2 rfl ?_
    refine v_iload (pc := 96) dX5_findSpade_96 1 rfl ?_
    refine v_aload_n (pc := 98) dX5_findSpade_98 0 rfl ?_
    refine m_getfin (pc := 99) (v := 574) hE dX5_findSpade_99 flX5_25 rfl at552 rfl ?_
    refine v_iload (pc := 102) dX5_findSpade_102 2 rfl ?_
    refine m_iald (pc := 104) (v := (mem 574 x5)) dX5_findSpade_104 at574 o1.1 o1.2 rfl ?_
    obtain ⟨o2, h⟩ := h
    refine m_isub (pc := 105) dX5_findSpade_105 o2 ?_
    refine m_mmax (pc := 106) dX5_findSpade_106 lmX5_124 sM_max iM cM_max (Nat.le_of_ble_eq_true rfl) ?_
    refine v_istore (pc := 109) (al2 := [(6, aI (max (mem 574 x5) (x4 - (mem 574 x5)))), (0, aR 552), (4, aI x4), (5, aI x5)]) dX5_findSpade_109 (by decide) rfl ?_
    refine v_aload_n (pc := 111) dX5_findSpade_111 1 rfl ?_
    refine m_getf (pc := 112) (t := 0) (v := (mem 552 7)) dX5_findSpade_112 flX5_85 rfl at552 rfl ?_
    refine v_iconst (pc := 115) dX5_findSpade_115 (by decide) ?_
    refine v_icmpeq (pc := 116) (tgt := 128) dX5_findSpade_116 (by decide) (fun c1 => ?_) (fun c1 => ?_)
    · have h := h.1 c1
      refine v_aload_n (pc := 128) dX5_findSpade_128 1 rfl ?_
      refine v_iload (pc := 129) dX5_findSpade_129 3 rfl ?_
      refine v_putf (pc := 131) dX5_findSpade_131 flX5_85 ⟨_, _, rfl, Or.inl rfl⟩ rfl (by decide) (fun q => nomatch q) (Or.inl fun _ => rfl) at552 ?_
      refine v_aload_n (pc := 134) dX5_findSpade_134 1 rfl ?_
      refine v_iload (pc := 135) dX5_findSpade_135 0 rfl ?_
      refine v_putf (pc := 137) dX5_findSpade_137 flX5_95 ⟨_, _, rfl, Or.inl rfl⟩ rfl (by decide) (fun q => nomatch q) (Or.inl fun _ => rfl) at552 ?_
      obtain ⟨o3, h⟩ := h
      refine m_iinc (pc := 140) (al2 := [(5, aI (x5 + 1)), (6, aI (max (mem 574 x5) (x4 - (mem 574 x5)))), (0, aR 552), (4, aI x4)]) dX5_findSpade_140 3 rfl (by decide) o3 rfl ?_
      refine v_goto (pc := 143) (tgt := 82) dX5_findSpade_143 (by decide) ?_
      exact VG_sub (al' := [(0, aR 552), (4, aI x4), (5, aI (x5 + 1))]) [2, 3, 0] rfl h
    · have h := h.2 c1
      refine v_iload (pc := 119) dX5_findSpade_119 0 rfl ?_
      refine v_aload_n (pc := 121) dX5_findSpade_121 1 rfl ?_
      refine m_getf (pc := 122) (t := 0) (v := (mem 552 8)) dX5_findSpade_122 flX5_95 rfl at552 rfl ?_
      refine v_icmpge (pc := 125) (tgt := 140) dX5_findSpade_125 (by decide) (fun c1 => ?_) (fun c1 => ?_)
      · have h := h.1 c1
        obtain ⟨o4, h⟩ := h
        refine m_iinc (pc := 140) (al2 := [(5, aI (x5 + 1)), (6, aI (max (mem 574 x5) (x4 - (mem 574 x5)))), (0, aR 552), (4, aI x4)]) dX5_findSpade_140 3 rfl (by decide) o4 rfl ?_
        refine v_goto (pc := 143) (tgt := 82) dX5_findSpade_143 (by decide) ?_
        exact VG_sub (al' := [(0, aR 552), (4, aI x4), (5, aI (x5 + 1))]) [2, 3, 0] rfl h
      · have h := h.2 c1
        refine v_aload_n (pc := 128) dX5_findSpade_128 1 rfl ?_
        refine v_iload (pc := 129) dX5_findSpade_129 3 rfl ?_
        refine v_putf (pc := 131) dX5_findSpade_131 flX5_85 ⟨_, _, rfl, Or.inl rfl⟩ rfl (by decide) (fun q => nomatch q) (Or.inl fun _ => rfl) at552 ?_
        refine v_aload_n (pc := 134) dX5_findSpade_134 1 rfl ?_
        refine v_iload (pc := 135) dX5_findSpade_135 0 rfl ?_
        refine v_putf (pc := 137) dX5_findSpade_137 flX5_95 ⟨_, _, rfl, Or.inl rfl⟩ rfl (by decide) (fun q => nomatch q) (Or.inl fun _ => rfl) at552 ?_
        obtain ⟨o5, h⟩ := h
        refine m_iinc (pc := 140) (al2 := [(5, aI (x5 + 1)), (6, aI (max (mem 574 x5) (x4 - (mem 574 x5)))), (0, aR 552), (4, aI x4)]) dX5_findSpade_140 3 rfl (by decide) o5 rfl ?_
        refine v_goto (pc := 143) (tgt := 82) dX5_findSpade_143 (by decide) ?_
        exact VG_sub (al' := [(0, aR 552), (4, aI x4), (5, aI (x5 + 1))]) [2, 3, 0] rfl h

theorem dX5_seeBehind_0 : decode cX5_seeBehind 0 = .ok (.aload_n 0, 1) := by decide +kernel
theorem dX5_seeBehind_1 : decode cX5_seeBehind 1 = .ok (.aload_n 1, 1) := by decide +kernel
theorem dX5_seeBehind_2 : decode cX5_seeBehind 2 = .ok (.invokevirtual 40, 3) := by decide +kernel
theorem dX5_seeBehind_5 : decode cX5_seeBehind 5 = .ok (.aload_n 0, 1) := by decide +kernel
theorem dX5_seeBehind_6 : decode cX5_seeBehind 6 = .ok (.getfield 12, 3) := by decide +kernel
theorem dX5_seeBehind_9 : decode cX5_seeBehind 9 = .ok (.iconst 0, 1) := by decide +kernel
theorem dX5_seeBehind_10 : decode cX5_seeBehind 10 = .ok (.iload_n 2, 1) := by decide +kernel
theorem dX5_seeBehind_11 : decode cX5_seeBehind 11 = .ok (.iconst 0, 1) := by decide +kernel
theorem dX5_seeBehind_12 : decode cX5_seeBehind 12 = .ok (.invokevirtual 98, 3) := by decide +kernel
theorem dX5_seeBehind_15 : decode cX5_seeBehind 15 = .ok (.iconst 0, 1) := by decide +kernel
theorem dX5_seeBehind_16 : decode cX5_seeBehind 16 = .ok (.istore 4, 2) := by decide +kernel
theorem dX5_seeBehind_18 : decode cX5_seeBehind 18 = .ok (.iload 4, 2) := by decide +kernel
theorem dX5_seeBehind_20 : decode cX5_seeBehind 20 = .ok (.iload_n 3, 1) := by decide +kernel
theorem dX5_seeBehind_21 : decode cX5_seeBehind 21 = .ok (.if_icmp .ge 16, 3) := by decide +kernel
theorem dX5_seeBehind_24 : decode cX5_seeBehind 24 = .ok (.aload_n 0, 1) := by decide +kernel
theorem dX5_seeBehind_25 : decode cX5_seeBehind 25 = .ok (.getfield 12, 3) := by decide +kernel
theorem dX5_seeBehind_28 : decode cX5_seeBehind 28 = .ok (.invokevirtual 43, 3) := by decide +kernel
theorem dX5_seeBehind_31 : decode cX5_seeBehind 31 = .ok (.iinc 4 1, 3) := by decide +kernel
theorem dX5_seeBehind_34 : decode cX5_seeBehind 34 = .ok (.goto (-16), 3) := by decide +kernel
theorem dX5_seeBehind_37 : decode cX5_seeBehind 37 = .ok (.iconst 0, 1) := by decide +kernel
theorem dX5_seeBehind_38 : decode cX5_seeBehind 38 = .ok (.istore 4, 2) := by decide +kernel
theorem dX5_seeBehind_40 : decode cX5_seeBehind 40 = .ok (.iload 4, 2) := by decide +kernel
theorem dX5_seeBehind_42 : decode cX5_seeBehind 42 = .ok (.bipush 32, 2) := by decide +kernel
theorem dX5_seeBehind_44 : decode cX5_seeBehind 44 = .ok (.if_icmp .ge 37, 3) := by decide +kernel
theorem dX5_seeBehind_47 : decode cX5_seeBehind 47 = .ok (.aload_n 0, 1) := by decide +kernel
theorem dX5_seeBehind_48 : decode cX5_seeBehind 48 = .ok (.getfield 25, 3) := by decide +kernel
theorem dX5_seeBehind_51 : decode cX5_seeBehind 51 = .ok (.iload 4, 2) := by decide +kernel
theorem dX5_seeBehind_53 : decode cX5_seeBehind 53 = .ok (.dup2, 1) := by decide +kernel
theorem dX5_seeBehind_54 : decode cX5_seeBehind 54 = .ok (.iaload, 1) := by decide +kernel
theorem dX5_seeBehind_55 : decode cX5_seeBehind 55 = .ok (.aload_n 0, 1) := by decide +kernel
theorem dX5_seeBehind_56 : decode cX5_seeBehind 56 = .ok (.getfield 12, 3) := by decide +kernel
theorem dX5_seeBehind_59 : decode cX5_seeBehind 59 = .ok (.iload 4, 2) := by decide +kernel
theorem dX5_seeBehind_61 : decode cX5_seeBehind 61 = .ok (.invokevirtual 130, 3) := by decide +kernel
theorem dX5_seeBehind_64 : decode cX5_seeBehind 64 = .ok (.iconst (-1), 1) := by decide +kernel
theorem dX5_seeBehind_65 : decode cX5_seeBehind 65 = .ok (.if_icmp .ne 7, 3) := by decide +kernel
theorem dX5_seeBehind_68 : decode cX5_seeBehind 68 = .ok (.iconst 0, 1) := by decide +kernel
theorem dX5_seeBehind_69 : decode cX5_seeBehind 69 = .ok (.goto 4, 3) := by decide +kernel
theorem dX5_seeBehind_72 : decode cX5_seeBehind 72 = .ok (.iconst 1, 1) := by decide +kernel
theorem dX5_seeBehind_73 : decode cX5_seeBehind 73 = .ok (.iadd, 1) := by decide +kernel
theorem dX5_seeBehind_74 : decode cX5_seeBehind 74 = .ok (.iastore, 1) := by decide +kernel
theorem dX5_seeBehind_75 : decode cX5_seeBehind 75 = .ok (.iinc 4 1, 3) := by decide +kernel
theorem dX5_seeBehind_78 : decode cX5_seeBehind 78 = .ok (.goto (-38), 3) := by decide +kernel
theorem dX5_seeBehind_81 : decode cX5_seeBehind 81 = .ok (.return_, 1) := by decide +kernel
set_option maxRecDepth 20000 in
theorem rX5_seeBehind_0 {E : EN} (hE : Ep E) {k : Nat} {mem : Mm} {Q : Mm → Prop} {p0 p1 p2 : Int} (hp0 : isYd p0)
    (h : (CV E mX5_begin k mem [aR 552, aR p0] (fun m1 => (R32 p1 → CV E mX10_add k m1 [aR 553, aI 0, aI p1, aI 0] (fun m2 => VM E mX5_seeBehind (k + 1) m2 18 [(0, aR 552), (3, aI p2), (4, aI 0)] [] (retV Q)))))) :
    VM E mX5_seeBehind (k + 1) mem 0 [(0, aR 552), (1, aR p0), (2, aI p1), (3, aI p2)] [] (retV Q) := by
  refine v_aload_n (pc := 0) dX5_seeBehind_0 0 rfl ?_
  refine v_aload_n (pc := 1) dX5_seeBehind_1 1 rfl ?_
  refine m_invV (pc := 2) (mi' := mX5_begin) (rest := []) [aR p0] dX5_seeBehind_2 at552 (by decide) rfl msX5_begin mvX5_begin lkX5_40 rfl (Nat.le_of_ble_eq_true rfl) (fun hn => CV_mono (h) (fun m1 h => ?_))
  refine v_aload_n (pc := 5) dX5_seeBehind_5 0 rfl ?_
  refine m_getfin (pc := 6) (v := 553) hE dX5_seeBehind_6 flX5_12 rfl at552 rfl ?_
  refine v_iconst (pc := 9) dX5_seeBehind_9 (by decide) ?_
  refine v_iload_n (pc := 10) dX5_seeBehind_10 2 rfl ?_
  refine v_iconst (pc := 11) dX5_seeBehind_11 (by decide) ?_
  refine m_invV (pc := 12) (mi' := mX10_add) (rest := []) [aI 0, aI p1, aI 0] dX5_seeBehind_12 (yd0 (show isYd 553 by unfold isYd; omega)) (by decide) rfl msX10_add mvX10_add lkX5_98 rfl (Nat.le_of_ble_eq_true rfl) (fun hn => CV_mono (h (aaI hn 2 rfl)) (fun m2 h => ?_))
  refine v_iconst (pc := 15) dX5_seeBehind_15 (by decide) ?_
  refine v_istore (pc := 16) (al2 := [(4, aI 0), (0, aR 552), (1, aR p0), (2, aI p1), (3, aI p2)]) dX5_seeBehind_16 (by decide) rfl ?_
  exact VG_sub (al' := [(0, aR 552), (3, aI p2), (4, aI 0)]) [1, 4, 0] rfl h
theorem eX5_seeBehind {E : EN} {k : Nat} {mem : Mm} {Q : Mm → Prop} {p0 p1 p2 : Int} (hr_p1 : R32 p1) (hr_p2 : R32 p2) (h : VM E mX5_seeBehind (k + 1) mem 0 [(0, aR 552), (1, aR p0), (2, aI p1), (3, aI p2)] [] (retV Q)) : CV E mX5_seeBehind (k + 1) mem [aR 552, aR p0, aI p1, aI p2] Q := CV_of rfl (Nat.le_of_ble_eq_true rfl) h (aNs_c (aNr_R _) (aNs_c (aNr_R _) (aNs_c (aNr_I hr_p1) (aNs_c (aNr_I hr_p2) (fun _ q => nomatch q)))))
set_option maxRecDepth 20000 in
theorem rX5_seeBehind_18 {E : EN} (hE : Ep E) {k : Nat} {mem : Mm} {Q : Mm → Prop} {p0 p1 p2 x4 : Int} (hp0 : isYd p0)
    (h : ((p2 ≤ x4 → VM E mX5_seeBehind (k + 1) mem 40 [(0, aR 552), (4, aI 0)] [] (retV Q)) ∧ (x4 < p2 → (CV E mX10_turnYear k mem [aR 553] (fun m1 => (R32 (x4 + 1)) ∧ VM E mX5_seeBehind (k + 1) m1 18 [(0, aR 552), (3, aI p2), (4, aI (x4 + 1))] [] (retV Q)))))) :
    VM E mX5_seeBehind (k + 1) mem 18 [(0, aR 552), (3, aI p2), (4, aI x4)] [] (retV Q) := by
  refine v_iload (pc := 18) dX5_seeBehind_18 2 rfl ?_
  refine v_iload_n (pc := 20) dX5_seeBehind_20 1 rfl ?_
  refine v_icmpge (pc := 21) (tgt := 37) dX5_seeBehind_21 (by decide) (fun c1 => ?_) (fun c1 => ?_)
  · have h := h.1 c1
    refine v_iconst (pc := 37) dX5_seeBehind_37 (by decide) ?_
    refine v_istore (pc := 38) (al2 := [(4, aI 0), (0, aR 552), (3, aI p2)]) dX5_seeBehind_38 (by decide) rfl ?_
    exact VG_sub (al' := [(0, aR 552), (4, aI 0)]) [1, 0] rfl h
  · have h := h.2 c1
    refine v_aload_n (pc := 24) dX5_seeBehind_24 0 rfl ?_
    refine m_getfin (pc := 25) (v := 553) hE dX5_seeBehind_25 flX5_12 rfl at552 rfl ?_
    refine m_invV (pc := 28) (mi' := mX10_turnYear) (rest := []) [] dX5_seeBehind_28 (yd0 (show isYd 553 by unfold isYd; omega)) (by decide) rfl msX10_turnYear mvX10_turnYear lkX5_43 rfl (Nat.le_of_ble_eq_true rfl) (fun hn => CV_mono (h) (fun m1 h => ?_))
    obtain ⟨o2, h⟩ := h
    refine m_iinc (pc := 31) (al2 := [(4, aI (x4 + 1)), (0, aR 552), (3, aI p2)]) dX5_seeBehind_31 2 rfl (by decide) o2 rfl ?_
    refine v_goto (pc := 34) (tgt := 18) dX5_seeBehind_34 (by decide) ?_
    exact VG_sub (al' := [(0, aR 552), (3, aI p2), (4, aI (x4 + 1))]) [1, 2, 0] rfl h
set_option maxRecDepth 20000 in
theorem rX5_seeBehind_40 {E : EN} (hE : Ep E) {k : Nat} {mem : Mm} {Q : Mm → Prop} {p0 p1 p2 x4 : Int} (hp0 : isYd p0)
    (h : ((32 ≤ x4 → Q mem) ∧ (x4 < 32 → (0 ≤ x4 ∧ x4 < 32) ∧ (R32 x4 → CI E mX10_plotIn k mem [aR 553, aI x4] (fun r3 m2 => ((¬ r3 = (-1) → (R32 ((mem 574 x4) + 1)) ∧ (R32 (x4 + 1)) ∧ VM E mX5_seeBehind (k + 1) (aUp m2 574 x4 ((mem 574 x4) + 1)) 40 [(0, aR 552), (4, aI (x4 + 1))] [] (retV Q)) ∧ (r3 = (-1) → (R32 ((mem 574 x4) + 0)) ∧ (R32 (x4 + 1)) ∧ VM E mX5_seeBehind (k + 1) (aUp m2 574 x4 ((mem 574 x4) + 0)) 40 [(0, aR 552), (4, aI (x4 + 1))] [] (retV Q)))))))) :
    VM E mX5_seeBehind (k + 1) mem 40 [(0, aR 552), (4, aI x4)] [] (retV Q) := by
  refine v_iload (pc := 40) dX5_seeBehind_40 1 rfl ?_
  refine v_bipush (pc := 42) dX5_seeBehind_42 (by decide) ?_
  refine v_icmpge (pc := 44) (tgt := 81) dX5_seeBehind_44 (by decide) (fun c1 => ?_) (fun c1 => ?_)
  · have h := h.1 c1
    exact m_retV (pc := 81) dX5_seeBehind_81 rfl h
  · have h := h.2 c1
    refine v_aload_n (pc := 47) dX5_seeBehind_47 0 rfl ?_
    refine m_getfin (pc := 48) (v := 574) hE dX5_seeBehind_48 flX5_25 rfl at552 rfl ?_
    refine v_iload (pc := 51) dX5_seeBehind_51 1 rfl ?_
    refine v_dup2 (pc := 53) dX5_seeBehind_53 rfl rfl ?_
    obtain ⟨o1, h⟩ := h
    refine m_iald (pc := 54) (v := (mem 574 x4)) dX5_seeBehind_54 at574 o1.1 o1.2 rfl ?_
    refine v_aload_n (pc := 55) dX5_seeBehind_55 0 rfl ?_
    refine m_getfin (pc := 56) (v := 553) hE dX5_seeBehind_56 flX5_12 rfl at552 rfl ?_
    refine v_iload (pc := 59) dX5_seeBehind_59 1 rfl ?_
    refine m_invI (pc := 61) (mi' := mX10_plotIn) (rest := [aI (mem 574 x4), aI x4, aR 574]) [aI x4] dX5_seeBehind_61 (yd0 (show isYd 553 by unfold isYd; omega)) (by decide) rfl msX10_plotIn mvX10_plotIn lkX5_130 rfl (Nat.le_of_ble_eq_true rfl) (fun hn => CI_mono (h (aaI hn 1 rfl)) (fun r3 m2 h => ?_))
    refine v_iconst (pc := 64) dX5_seeBehind_64 (by decide) ?_
    refine v_icmpne (pc := 65) (tgt := 72) dX5_seeBehind_65 (by decide) (fun c1 => ?_) (fun c1 => ?_)
    · have h := h.1 c1
      refine v_iconst (pc := 72) dX5_seeBehind_72 (by decide) ?_
      obtain ⟨o4, h⟩ := h
      refine m_iadd (pc := 73) dX5_seeBehind_73 o4 ?_
      refine v_iast (pc := 74) dX5_seeBehind_74 at574 o1.1 o1.2 ?_
      obtain ⟨o5, h⟩ := h
      refine m_iinc (pc := 75) (al2 := [(4, aI (x4 + 1)), (0, aR 552)]) dX5_seeBehind_75 1 rfl (by decide) o5 rfl ?_
      refine v_goto (pc := 78) (tgt := 40) dX5_seeBehind_78 (by decide) ?_
      exact VG_sub (al' := [(0, aR 552), (4, aI (x4 + 1))]) [1, 0] rfl h
    · have h := h.2 c1
      refine v_iconst (pc := 68) dX5_seeBehind_68 (by decide) ?_
      refine v_goto (pc := 69) (tgt := 73) dX5_seeBehind_69 (by decide) ?_
      obtain ⟨o6, h⟩ := h
      refine m_iadd (pc := 73) dX5_seeBehind_73 o6 ?_
      refine v_iast (pc := 74) dX5_seeBehind_74 at574 o1.1 o1.2 ?_
      obtain ⟨o7, h⟩ := h
      refine m_iinc (pc := 75) (al2 := [(4, aI (x4 + 1)), (0, aR 552)]) dX5_seeBehind_75 1 rfl (by decide) o7 rfl ?_
      refine v_goto (pc := 78) (tgt := 40) dX5_seeBehind_78 (by decide) ?_
      exact VG_sub (al' := [(0, aR 552), (4, aI (x4 + 1))]) [1, 0] rfl h

theorem dX5_movedBy_0 : decode cX5_movedBy 0 = .ok (.aload_n 0, 1) := by decide +kernel
theorem dX5_movedBy_1 : decode cX5_movedBy 1 = .ok (.aload_n 1, 1) := by decide +kernel
theorem dX5_movedBy_2 : decode cX5_movedBy 2 = .ok (.invokevirtual 40, 3) := by decide +kernel
theorem dX5_movedBy_5 : decode cX5_movedBy 5 = .ok (.aload_n 0, 1) := by decide +kernel
theorem dX5_movedBy_6 : decode cX5_movedBy 6 = .ok (.getfield 12, 3) := by decide +kernel
theorem dX5_movedBy_9 : decode cX5_movedBy 9 = .ok (.aload_n 2, 1) := by decide +kernel
theorem dX5_movedBy_10 : decode cX5_movedBy 10 = .ok (.putfield 36, 3) := by decide +kernel
theorem dX5_movedBy_13 : decode cX5_movedBy 13 = .ok (.iconst 0, 1) := by decide +kernel
theorem dX5_movedBy_14 : decode cX5_movedBy 14 = .ok (.istore 4, 2) := by decide +kernel
theorem dX5_movedBy_16 : decode cX5_movedBy 16 = .ok (.iconst 0, 1) := by decide +kernel
theorem dX5_movedBy_17 : decode cX5_movedBy 17 = .ok (.istore 5, 2) := by decide +kernel
theorem dX5_movedBy_19 : decode cX5_movedBy 19 = .ok (.iload 5, 2) := by decide +kernel
theorem dX5_movedBy_21 : decode cX5_movedBy 21 = .ok (.iload_n 3, 1) := by decide +kernel
theorem dX5_movedBy_22 : decode cX5_movedBy 22 = .ok (.if_icmp .ge 28, 3) := by decide +kernel
theorem dX5_movedBy_25 : decode cX5_movedBy 25 = .ok (.aload_n 0, 1) := by decide +kernel
theorem dX5_movedBy_26 : decode cX5_movedBy 26 = .ok (.getfield 12, 3) := by decide +kernel
theorem dX5_movedBy_29 : decode cX5_movedBy 29 = .ok (.invokevirtual 43, 3) := by decide +kernel
theorem dX5_movedBy_32 : decode cX5_movedBy 32 = .ok (.iload 4, 2) := by decide +kernel
theorem dX5_movedBy_34 : decode cX5_movedBy 34 = .ok (.aload_n 0, 1) := by decide +kernel
theorem dX5_movedBy_35 : decode cX5_movedBy 35 = .ok (.getfield 12, 3) := by decide +kernel
theorem dX5_movedBy_38 : decode cX5_movedBy 38 = .ok (.getfield 134, 3) := by decide +kernel
theorem dX5_movedBy_41 : decode cX5_movedBy 41 = .ok (.iadd, 1) := by decide +kernel
theorem dX5_movedBy_42 : decode cX5_movedBy 42 = .ok (.istore 4, 2) := by decide +kernel
theorem dX5_movedBy_44 : decode cX5_movedBy 44 = .ok (.iinc 5 1, 3) := by decide +kernel
theorem dX5_movedBy_47 : decode cX5_movedBy 47 = .ok (.goto (-28), 3) := by decide +kernel
theorem dX5_movedBy_50 : decode cX5_movedBy 50 = .ok (.iload 4, 2) := by decide +kernel
theorem dX5_movedBy_52 : decode cX5_movedBy 52 = .ok (.ireturn, 1) := by decide +kernel
set_option maxRecDepth 20000 in
theorem rX5_movedBy_0 {E : EN} (hE : Ep E) {k : Nat} {mem : Mm} {Q : Int → Mm → Prop} {p0 p1 p2 : Int} (hp0 : isYd p0) (hp1 : isTx p1)
    (h : (CV E mX5_begin k mem [aR 552, aR p0] (fun m1 => VM E mX5_movedBy (k + 1) (aUp m1 553 9 p1) 19 [(0, aR 552), (3, aI p2), (4, aI 0), (5, aI 0)] [] (retI Q)))) :
    VM E mX5_movedBy (k + 1) mem 0 [(0, aR 552), (1, aR p0), (2, aR p1), (3, aI p2)] [] (retI Q) := by
  refine v_aload_n (pc := 0) dX5_movedBy_0 0 rfl ?_
  refine v_aload_n (pc := 1) dX5_movedBy_1 1 rfl ?_
  refine m_invV (pc := 2) (mi' := mX5_begin) (rest := []) [aR p0] dX5_movedBy_2 at552 (by decide) rfl msX5_begin mvX5_begin lkX5_40 rfl (Nat.le_of_ble_eq_true rfl) (fun hn => CV_mono (h) (fun m1 h => ?_))
  refine v_aload_n (pc := 5) dX5_movedBy_5 0 rfl ?_
  refine m_getfin (pc := 6) (v := 553) hE dX5_movedBy_6 flX5_12 rfl at552 rfl ?_
  refine v_aload_n (pc := 9) dX5_movedBy_9 2 rfl ?_
  refine v_putf (pc := 10) dX5_movedBy_10 flX5_36 ⟨_, _, rfl, Or.inl rfl⟩ rfl (by decide) (fun q => nomatch q) (Or.inl fun _ => rfl) (yd0 (show isYd 553 by unfold isYd; omega)) ?_
  refine v_iconst (pc := 13) dX5_movedBy_13 (by decide) ?_
  refine v_istore (pc := 14) (al2 := [(4, aI 0), (0, aR 552), (1, aR p0), (2, aR p1), (3, aI p2)]) dX5_movedBy_14 (by decide) rfl ?_
  refine v_iconst (pc := 16) dX5_movedBy_16 (by decide) ?_
  refine v_istore (pc := 17) (al2 := [(5, aI 0), (4, aI 0), (0, aR 552), (1, aR p0), (2, aR p1), (3, aI p2)]) dX5_movedBy_17 (by decide) rfl ?_
  exact VG_sub (al' := [(0, aR 552), (3, aI p2), (4, aI 0), (5, aI 0)]) [2, 5, 1, 0] rfl h
theorem eX5_movedBy {E : EN} {k : Nat} {mem : Mm} {Q : Int → Mm → Prop} {p0 p1 p2 : Int} (hr_p2 : R32 p2) (h : VM E mX5_movedBy (k + 1) mem 0 [(0, aR 552), (1, aR p0), (2, aR p1), (3, aI p2)] [] (retI Q)) : CI E mX5_movedBy (k + 1) mem [aR 552, aR p0, aR p1, aI p2] Q := CI_of rfl (Nat.le_of_ble_eq_true rfl) h (aNs_c (aNr_R _) (aNs_c (aNr_R _) (aNs_c (aNr_R _) (aNs_c (aNr_I hr_p2) (fun _ q => nomatch q)))))
set_option maxRecDepth 20000 in
theorem rX5_movedBy_19 {E : EN} (hE : Ep E) {k : Nat} {mem : Mm} {Q : Int → Mm → Prop} {p0 p1 p2 x4 x5 : Int} (hp0 : isYd p0) (hp1 : isTx p1)
    (h : ((p2 ≤ x5 → Q x4 mem) ∧ (x5 < p2 → (CV E mX10_turnYear k mem [aR 553] (fun m1 => (R32 (x4 + (m1 553 11))) ∧ (R32 (x5 + 1)) ∧ VM E mX5_movedBy (k + 1) m1 19 [(0, aR 552), (3, aI p2), (4, aI (x4 + (m1 553 11))), (5, aI (x5 + 1))] [] (retI Q)))))) :
    VM E mX5_movedBy (k + 1) mem 19 [(0, aR 552), (3, aI p2), (4, aI x4), (5, aI x5)] [] (retI Q) := by
  refine v_iload (pc := 19) dX5_movedBy_19 3 rfl ?_
  refine v_iload_n (pc := 21) dX5_movedBy_21 1 rfl ?_
  refine v_icmpge (pc := 22) (tgt := 50) dX5_movedBy_22 (by decide) (fun c1 => ?_) (fun c1 => ?_)
  · have h := h.1 c1
    refine v_iload (pc := 50) dX5_movedBy_50 2 rfl ?_
    exact m_retI (pc := 52) dX5_movedBy_52 rfl h
  · have h := h.2 c1
    refine v_aload_n (pc := 25) dX5_movedBy_25 0 rfl ?_
    refine m_getfin (pc := 26) (v := 553) hE dX5_movedBy_26 flX5_12 rfl at552 rfl ?_
    refine m_invV (pc := 29) (mi' := mX10_turnYear) (rest := []) [] dX5_movedBy_29 (yd0 (show isYd 553 by unfold isYd; omega)) (by decide) rfl msX10_turnYear mvX10_turnYear lkX5_43 rfl (Nat.le_of_ble_eq_true rfl) (fun hn => CV_mono (h) (fun m1 h => ?_))
    refine v_iload (pc := 32) dX5_movedBy_32 2 rfl ?_
    refine v_aload_n (pc := 34) dX5_movedBy_34 0 rfl ?_
    refine m_getfin (pc := 35) (v := 553) hE dX5_movedBy_35 flX5_12 rfl at552 rfl ?_
    refine m_getf (pc := 38) (t := 0) (v := (m1 553 11)) dX5_movedBy_38 flX5_134 rfl (yd0 (show isYd 553 by unfold isYd; omega)) rfl ?_
    obtain ⟨o2, h⟩ := h
    refine m_iadd (pc := 41) dX5_movedBy_41 o2 ?_
    refine v_istore (pc := 42) (al2 := [(4, aI (x4 + (m1 553 11))), (0, aR 552), (3, aI p2), (5, aI x5)]) dX5_movedBy_42 (by decide) rfl ?_
    obtain ⟨o3, h⟩ := h
    refine m_iinc (pc := 44) (al2 := [(5, aI (x5 + 1)), (4, aI (x4 + (m1 553 11))), (0, aR 552), (3, aI p2)]) dX5_movedBy_44 3 rfl (by decide) o3 rfl ?_
    refine v_goto (pc := 47) (tgt := 19) dX5_movedBy_47 (by decide) ?_
    exact VG_sub (al' := [(0, aR 552), (3, aI p2), (4, aI (x4 + (m1 553 11))), (5, aI (x5 + 1))]) [2, 3, 1, 0] rfl h

theorem dX5_chanceOf_0 : decode cX5_chanceOf 0 = .ok (.aload_n 0, 1) := by decide +kernel
theorem dX5_chanceOf_1 : decode cX5_chanceOf 1 = .ok (.aload_n 1, 1) := by decide +kernel
theorem dX5_chanceOf_2 : decode cX5_chanceOf 2 = .ok (.invokevirtual 40, 3) := by decide +kernel
theorem dX5_chanceOf_5 : decode cX5_chanceOf 5 = .ok (.aload_n 0, 1) := by decide +kernel
theorem dX5_chanceOf_6 : decode cX5_chanceOf 6 = .ok (.iload_n 2, 1) := by decide +kernel
theorem dX5_chanceOf_7 : decode cX5_chanceOf 7 = .ok (.iload_n 3, 1) := by decide +kernel
theorem dX5_chanceOf_8 : decode cX5_chanceOf 8 = .ok (.iload 4, 2) := by decide +kernel
theorem dX5_chanceOf_10 : decode cX5_chanceOf 10 = .ok (.invokevirtual 67, 3) := by decide +kernel
theorem dX5_chanceOf_13 : decode cX5_chanceOf 13 = .ok (.istore 5, 2) := by decide +kernel
theorem dX5_chanceOf_15 : decode cX5_chanceOf 15 = .ok (.iload 5, 2) := by decide +kernel
theorem dX5_chanceOf_17 : decode cX5_chanceOf 17 = .ok (.iconst (-1), 1) := by decide +kernel
theorem dX5_chanceOf_18 : decode cX5_chanceOf 18 = .ok (.if_icmp .eq 10, 3) := by decide +kernel
theorem dX5_chanceOf_21 : decode cX5_chanceOf 21 = .ok (.iload 5, 2) := by decide +kernel
theorem dX5_chanceOf_23 : decode cX5_chanceOf 23 = .ok (.bipush 40, 2) := by decide +kernel
theorem dX5_chanceOf_25 : decode cX5_chanceOf 25 = .ok (.if_icmp .le 5, 3) := by decide +kernel
theorem dX5_chanceOf_28 : decode cX5_chanceOf 28 = .ok (.lconst 0, 1) := by decide +kernel
theorem dX5_chanceOf_29 : decode cX5_chanceOf 29 = .ok (.lreturn, 1) := by decide +kernel
theorem dX5_chanceOf_30 : decode cX5_chanceOf 30 = .ok (.iload 5, 2) := by decide +kernel
theorem dX5_chanceOf_32 : decode cX5_chanceOf 32 = .ok (.ifCond .ne 7, 3) := by decide +kernel
theorem dX5_chanceOf_35 : decode cX5_chanceOf 35 = .ok (.ldc2_w 137, 3) := by decide +kernel
theorem dX5_chanceOf_38 : decode cX5_chanceOf 38 = .ok (.lreturn, 1) := by decide +kernel
theorem dX5_chanceOf_39 : decode cX5_chanceOf 39 = .ok (.aload_n 1, 1) := by decide +kernel
theorem dX5_chanceOf_40 : decode cX5_chanceOf 40 = .ok (.getfield 139, 3) := by decide +kernel
theorem dX5_chanceOf_43 : decode cX5_chanceOf 43 = .ok (.iconst 2, 1) := by decide +kernel
theorem dX5_chanceOf_44 : decode cX5_chanceOf 44 = .ok (.iaload, 1) := by decide +kernel
theorem dX5_chanceOf_45 : decode cX5_chanceOf 45 = .ok (.istore 6, 2) := by decide +kernel
theorem dX5_chanceOf_47 : decode cX5_chanceOf 47 = .ok (.iconst 0, 1) := by decide +kernel
theorem dX5_chanceOf_48 : decode cX5_chanceOf 48 = .ok (.istore 7, 2) := by decide +kernel
theorem dX5_chanceOf_50 : decode cX5_chanceOf 50 = .ok (.iload 7, 2) := by decide +kernel
theorem dX5_chanceOf_52 : decode cX5_chanceOf 52 = .ok (.bipush 40, 2) := by decide +kernel
theorem dX5_chanceOf_54 : decode cX5_chanceOf 54 = .ok (.if_icmp .gt 17, 3) := by decide +kernel
theorem dX5_chanceOf_57 : decode cX5_chanceOf 57 = .ok (.aload_n 0, 1) := by decide +kernel
theorem dX5_chanceOf_58 : decode cX5_chanceOf 58 = .ok (.getfield 28, 3) := by decide +kernel
theorem dX5_chanceOf_61 : decode cX5_chanceOf 61 = .ok (.iload 7, 2) := by decide +kernel
theorem dX5_chanceOf_63 : decode cX5_chanceOf 63 = .ok (.lconst 0, 1) := by decide +kernel
theorem dX5_chanceOf_64 : decode cX5_chanceOf 64 = .ok (.lastore, 1) := by decide +kernel
theorem dX5_chanceOf_65 : decode cX5_chanceOf 65 = .ok (.iinc 7 1, 3) := by decide +kernel
theorem dX5_chanceOf_68 : decode cX5_chanceOf 68 = .ok (.goto (-18), 3) := by decide +kernel
theorem dX5_chanceOf_71 : decode cX5_chanceOf 71 = .ok (.aload_n 0, 1) := by decide +kernel
theorem dX5_chanceOf_72 : decode cX5_chanceOf 72 = .ok (.getfield 28, 3) := by decide +kernel
theorem dX5_chanceOf_75 : decode cX5_chanceOf 75 = .ok (.iconst 0, 1) := by decide +kernel
theorem dX5_chanceOf_76 : decode cX5_chanceOf 76 = .ok (.ldc2_w 137, 3) := by decide +kernel
theorem dX5_chanceOf_79 : decode cX5_chanceOf 79 = .ok (.lastore, 1) := by decide +kernel
theorem dX5_chanceOf_80 : decode cX5_chanceOf 80 = .ok (.iconst 0, 1) := by decide +kernel
theorem dX5_chanceOf_81 : decode cX5_chanceOf 81 = .ok (.istore 7, 2) := by decide +kernel
theorem dX5_chanceOf_83 : decode cX5_chanceOf 83 = .ok (.iload 7, 2) := by decide +kernel
theorem dX5_chanceOf_85 : decode cX5_chanceOf 85 = .ok (.iload 4, 2) := by decide +kernel
theorem dX5_chanceOf_87 : decode cX5_chanceOf 87 = .ok (.if_icmp .ge 78, 3) := by decide +kernel
theorem dX5_chanceOf_90 : decode cX5_chanceOf 90 = .ok (.iload 5, 2) := by decide +kernel
theorem dX5_chanceOf_92 : decode cX5_chanceOf 92 = .ok (.iconst 1, 1) := by decide +kernel
theorem dX5_chanceOf_93 : decode cX5_chanceOf 93 = .ok (.isub, 1) := by decide +kernel
theorem dX5_chanceOf_94 : decode cX5_chanceOf 94 = .ok (.istore 8, 2) := by decide +kernel
theorem dX5_chanceOf_96 : decode cX5_chanceOf 96 = .ok (.iload 8, 2) := by decide +kernel
theorem dX5_chanceOf_98 : decode cX5_chanceOf 98 = .ok (.ifCond .lt 61, 3) := by decide +kernel
theorem dX5_chanceOf_101 : decode cX5_chanceOf 101 = .ok (.aload_n 0, 1) := by decide +kernel
theorem dX5_chanceOf_102 : decode cX5_chanceOf 102 = .ok (.getfield 28, 3) := by decide +kernel
theorem dX5_chanceOf_105 : decode cX5_chanceOf 105 = .ok (.iload 8, 2) := by decide +kernel
theorem dX5_chanceOf_107 : decode cX5_chanceOf 107 = .ok (.iconst 1, 1) := by decide +kernel
theorem dX5_chanceOf_108 : decode cX5_chanceOf 108 = .ok (.iadd, 1) := by decide +kernel
theorem dX5_chanceOf_109 : decode cX5_chanceOf 109 = .ok (.dup2, 1) := by decide +kernel
theorem dX5_chanceOf_110 : decode cX5_chanceOf 110 = .ok (.laload, 1) := by decide +kernel
theorem dX5_chanceOf_111 : decode cX5_chanceOf 111 = .ok (.aload_n 0, 1) := by decide +kernel
theorem dX5_chanceOf_112 : decode cX5_chanceOf 112 = .ok (.getfield 28, 3) := by decide +kernel
theorem dX5_chanceOf_115 : decode cX5_chanceOf 115 = .ok (.iload 8, 2) := by decide +kernel
theorem dX5_chanceOf_117 : decode cX5_chanceOf 117 = .ok (.laload, 1) := by decide +kernel
theorem dX5_chanceOf_118 : decode cX5_chanceOf 118 = .ok (.bipush 10, 2) := by decide +kernel
theorem dX5_chanceOf_120 : decode cX5_chanceOf 120 = .ok (.iload 6, 2) := by decide +kernel
theorem dX5_chanceOf_122 : decode cX5_chanceOf 122 = .ok (.isub, 1) := by decide +kernel
theorem dX5_chanceOf_123 : decode cX5_chanceOf 123 = .ok (.i2l, 1) := by decide +kernel
theorem dX5_chanceOf_124 : decode cX5_chanceOf 124 = .ok (.lmul, 1) := by decide +kernel
theorem dX5_chanceOf_125 : decode cX5_chanceOf 125 = .ok (.ldc2_w 142, 3) := by decide +kernel
theorem dX5_chanceOf_128 : decode cX5_chanceOf 128 = .ok (.ldiv, 1) := by decide +kernel
theorem dX5_chanceOf_129 : decode cX5_chanceOf 129 = .ok (.ladd, 1) := by decide +kernel
theorem dX5_chanceOf_130 : decode cX5_chanceOf 130 = .ok (.lastore, 1) := by decide +kernel
theorem dX5_chanceOf_131 : decode cX5_chanceOf 131 = .ok (.aload_n 0, 1) := by decide +kernel
theorem dX5_chanceOf_132 : decode cX5_chanceOf 132 = .ok (.getfield 28, 3) := by decide +kernel
theorem dX5_chanceOf_135 : decode cX5_chanceOf 135 = .ok (.iload 8, 2) := by decide +kernel
theorem dX5_chanceOf_137 : decode cX5_chanceOf 137 = .ok (.aload_n 0, 1) := by decide +kernel
theorem dX5_chanceOf_138 : decode cX5_chanceOf 138 = .ok (.getfield 28, 3) := by decide +kernel
theorem dX5_chanceOf_141 : decode cX5_chanceOf 141 = .ok (.iload 8, 2) := by decide +kernel
theorem dX5_chanceOf_143 : decode cX5_chanceOf 143 = .ok (.laload, 1) := by decide +kernel
theorem dX5_chanceOf_144 : decode cX5_chanceOf 144 = .ok (.iload 6, 2) := by decide +kernel
theorem dX5_chanceOf_146 : decode cX5_chanceOf 146 = .ok (.i2l, 1) := by decide +kernel
theorem dX5_chanceOf_147 : decode cX5_chanceOf 147 = .ok (.lmul, 1) := by decide +kernel
theorem dX5_chanceOf_148 : decode cX5_chanceOf 148 = .ok (.ldc2_w 142, 3) := by decide +kernel
theorem dX5_chanceOf_151 : decode cX5_chanceOf 151 = .ok (.ldiv, 1) := by decide +kernel
theorem dX5_chanceOf_152 : decode cX5_chanceOf 152 = .ok (.lastore, 1) := by decide +kernel
theorem dX5_chanceOf_153 : decode cX5_chanceOf 153 = .ok (.iinc 8 (-1), 3) := by decide +kernel
theorem dX5_chanceOf_156 : decode cX5_chanceOf 156 = .ok (.goto (-60), 3) := by decide +kernel
theorem dX5_chanceOf_159 : decode cX5_chanceOf 159 = .ok (.iinc 7 1, 3) := by decide +kernel
theorem dX5_chanceOf_162 : decode cX5_chanceOf 162 = .ok (.goto (-79), 3) := by decide +kernel
theorem dX5_chanceOf_165 : decode cX5_chanceOf 165 = .ok (.aload_n 0, 1) := by decide +kernel
theorem dX5_chanceOf_166 : decode cX5_chanceOf 166 = .ok (.getfield 28, 3) := by decide +kernel
theorem dX5_chanceOf_169 : decode cX5_chanceOf 169 = .ok (.iload 5, 2) := by decide +kernel
theorem dX5_chanceOf_171 : decode cX5_chanceOf 171 = .ok (.laload, 1) := by decide +kernel
theorem dX5_chanceOf_172 : decode cX5_chanceOf 172 = .ok (.lreturn, 1) := by decide +kernel
set_option maxRecDepth 20000 in
theorem rX5_chanceOf_0 {E : EN} (hE : Ep E) {k : Nat} {mem : Mm} {Q : Int → Mm → Prop} {p0 p1 p2 p3 : Int} (hp0 : isYd p0)
    (h : (CV E mX5_begin k mem [aR 552, aR p0] (fun m1 => (R32 p1 → R32 p2 → R32 p3 → CI E mX5_yearIn k m1 [aR 552, aI p1, aI p2, aI p3] (fun r3 m2 => ((r3 = (-1) → Q 0 m2) ∧ (¬ r3 = (-1) → ((r3 ≤ 40 → ((¬ r3 = 0 → VM E mX5_chanceOf (k + 1) m2 50 [(0, aR 552), (4, aI p3), (5, aI r3), (6, aI (m2 (p0 + 8) 2)), (7, aI 0)] [] (retL Q)) ∧ (r3 = 0 → Q 1000000000000 m2))) ∧ (40 < r3 → Q 0 m2))))))))) :
    VM E mX5_chanceOf (k + 1) mem 0 [(0, aR 552), (1, aR p0), (2, aI p1), (3, aI p2), (4, aI p3)] [] (retL Q) := by
  refine v_aload_n (pc := 0) dX5_chanceOf_0 0 rfl ?_
  refine v_aload_n (pc := 1) dX5_chanceOf_1 1 rfl ?_
  refine m_invV (pc := 2) (mi' := mX5_begin) (rest := []) [aR p0] dX5_chanceOf_2 at552 (by decide) rfl msX5_begin mvX5_begin lkX5_40 rfl (Nat.le_of_ble_eq_true rfl) (fun hn => CV_mono (h) (fun m1 h => ?_))
  refine v_aload_n (pc := 5) dX5_chanceOf_5 0 rfl ?_
  refine v_iload_n (pc := 6) dX5_chanceOf_6 2 rfl ?_
  refine v_iload_n (pc := 7) dX5_chanceOf_7 3 rfl ?_
  refine v_iload (pc := 8) dX5_chanceOf_8 4 rfl ?_
  refine m_invI (pc := 10) (mi' := mX5_yearIn) (rest := []) [aI p1, aI p2, aI p3] dX5_chanceOf_10 at552 (by decide) rfl msX5_yearIn mvX5_yearIn lkX5_67 rfl (Nat.le_of_ble_eq_true rfl) (fun hn => CI_mono (h (aaI hn 1 rfl) (aaI hn 2 rfl) (aaI hn 3 rfl)) (fun r3 m2 h => ?_))
  refine v_istore (pc := 13) (al2 := [(5, aI r3), (0, aR 552), (1, aR p0), (2, aI p1), (3, aI p2), (4, aI p3)]) dX5_chanceOf_13 (by decide) rfl ?_
  refine v_iload (pc := 15) dX5_chanceOf_15 0 rfl ?_
  refine v_iconst (pc := 17) dX5_chanceOf_17 (by decide) ?_
  refine v_icmpeq (pc := 18) (tgt := 28) dX5_chanceOf_18 (by decide) (fun c1 => ?_) (fun c1 => ?_)
  · have h := h.1 c1
    refine v_lconst0 (pc := 28) dX5_chanceOf_28 ?_
    exact m_retL (pc := 29) dX5_chanceOf_29 rfl h
  · have h := h.2 c1
    refine v_iload (pc := 21) dX5_chanceOf_21 0 rfl ?_
    refine v_bipush (pc := 23) dX5_chanceOf_23 (by decide) ?_
    refine v_icmple (pc := 25) (tgt := 30) dX5_chanceOf_25 (by decide) (fun c1 => ?_) (fun c1 => ?_)
    · have h := h.1 c1
      refine v_iload (pc := 30) dX5_chanceOf_30 0 rfl ?_
      refine v_ifne (pc := 32) (tgt := 39) dX5_chanceOf_32 (by decide) (fun c1 => ?_) (fun c1 => ?_)
      · have h := h.1 c1
        refine v_aload_n (pc := 39) dX5_chanceOf_39 2 rfl ?_
        refine m_getfin (pc := 40) (v := (p0 + 8)) hE dX5_chanceOf_40 flX5_139 rfl (yd0 hp0) rfl ?_
        refine v_iconst (pc := 43) dX5_chanceOf_43 (by decide) ?_
        refine m_iald (pc := 44) (v := (m2 (p0 + 8) 2)) dX5_chanceOf_44 (yd8 hp0) (by omega) (by omega) rfl ?_
        refine v_istore (pc := 45) (al2 := [(6, aI (m2 (p0 + 8) 2)), (5, aI r3), (0, aR 552), (1, aR p0), (2, aI p1), (3, aI p2), (4, aI p3)]) dX5_chanceOf_45 (by decide) rfl ?_
        refine v_iconst (pc := 47) dX5_chanceOf_47 (by decide) ?_
        refine v_istore (pc := 48) (al2 := [(7, aI 0), (6, aI (m2 (p0 + 8) 2)), (5, aI r3), (0, aR 552), (1, aR p0), (2, aI p1), (3, aI p2), (4, aI p3)]) dX5_chanceOf_48 (by decide) rfl ?_
        exact VG_sub (al' := [(0, aR 552), (4, aI p3), (5, aI r3), (6, aI (m2 (p0 + 8) 2)), (7, aI 0)]) [3, 7, 2, 1, 0] rfl h
      · have h := h.2 c1
        refine v_ldc2 (pc := 35) (n := 1000000000000) dX5_chanceOf_35 cnX5_137 (by decide) ?_
        exact m_retL (pc := 38) dX5_chanceOf_38 rfl h
    · have h := h.2 c1
      refine v_lconst0 (pc := 28) dX5_chanceOf_28 ?_
      exact m_retL (pc := 29) dX5_chanceOf_29 rfl h
theorem eX5_chanceOf {E : EN} {k : Nat} {mem : Mm} {Q : Int → Mm → Prop} {p0 p1 p2 p3 : Int} (hr_p1 : R32 p1) (hr_p2 : R32 p2) (hr_p3 : R32 p3) (h : VM E mX5_chanceOf (k + 1) mem 0 [(0, aR 552), (1, aR p0), (2, aI p1), (3, aI p2), (4, aI p3)] [] (retL Q)) : CL E mX5_chanceOf (k + 1) mem [aR 552, aR p0, aI p1, aI p2, aI p3] Q := CL_of rfl (Nat.le_of_ble_eq_true rfl) h (aNs_c (aNr_R _) (aNs_c (aNr_R _) (aNs_c (aNr_I hr_p1) (aNs_c (aNr_I hr_p2) (aNs_c (aNr_I hr_p3) (fun _ q => nomatch q))))))
set_option maxRecDepth 20000 in
theorem rX5_chanceOf_50 {E : EN} (hE : Ep E) {k : Nat} {mem : Mm} {Q : Int → Mm → Prop} {p0 p1 p2 p3 x5 x6 x7 : Int} (hp0 : isYd p0)
    (h : ((40 < x7 → VM E mX5_chanceOf (k + 1) (aUp mem 575 0 1000000000000) 83 [(0, aR 552), (4, aI p3), (5, aI x5), (6, aI x6), (7, aI 0)] [] (retL Q)) ∧ (x7 ≤ 40 → (0 ≤ x7 ∧ x7 < 41) ∧ (R32 (x7 + 1)) ∧ VM E mX5_chanceOf (k + 1) (aUp mem 575 x7 0) 50 [(0, aR 552), (4, aI p3), (5, aI x5), (6, aI x6), (7, aI (x7 + 1))] [] (retL Q)))) :
    VM E mX5_chanceOf (k + 1) mem 50 [(0, aR 552), (4, aI p3), (5, aI x5), (6, aI x6), (7, aI x7)] [] (retL Q) := by
  refine v_iload (pc := 50) dX5_chanceOf_50 4 rfl ?_
  refine v_bipush (pc := 52) dX5_chanceOf_52 (by decide) ?_
  refine v_icmpgt (pc := 54) (tgt := 71) dX5_chanceOf_54 (by decide) (fun c1 => ?_) (fun c1 => ?_)
  · have h := h.1 c1
    refine v_aload_n (pc := 71) dX5_chanceOf_71 0 rfl ?_
    refine m_getfin (pc := 72) (v := 575) hE dX5_chanceOf_72 flX5_28 rfl at552 rfl ?_
    refine v_iconst (pc := 75) dX5_chanceOf_75 (by decide) ?_
    refine v_ldc2 (pc := 76) (n := 1000000000000) dX5_chanceOf_76 cnX5_137 (by decide) ?_
    refine v_last (pc := 79) dX5_chanceOf_79 at575 (by omega) (by omega) ?_
    refine v_iconst (pc := 80) dX5_chanceOf_80 (by decide) ?_
    refine v_istore (pc := 81) (al2 := [(7, aI 0), (0, aR 552), (4, aI p3), (5, aI x5), (6, aI x6)]) dX5_chanceOf_81 (by decide) rfl ?_
    exact VG_sub (al' := [(0, aR 552), (4, aI p3), (5, aI x5), (6, aI x6), (7, aI 0)]) [1, 2, 3, 4, 0] rfl h
  · have h := h.2 c1
    refine v_aload_n (pc := 57) dX5_chanceOf_57 0 rfl ?_
    refine m_getfin (pc := 58) (v := 575) hE dX5_chanceOf_58 flX5_28 rfl at552 rfl ?_
    refine v_iload (pc := 61) dX5_chanceOf_61 4 rfl ?_
    refine v_lconst0 (pc := 63) dX5_chanceOf_63 ?_
    obtain ⟨o1, h⟩ := h
    refine v_last (pc := 64) dX5_chanceOf_64 at575 o1.1 o1.2 ?_
    obtain ⟨o2, h⟩ := h
    refine m_iinc (pc := 65) (al2 := [(7, aI (x7 + 1)), (0, aR 552), (4, aI p3), (5, aI x5), (6, aI x6)]) dX5_chanceOf_65 4 rfl (by decide) o2 rfl ?_
    refine v_goto (pc := 68) (tgt := 50) dX5_chanceOf_68 (by decide) ?_
    exact VG_sub (al' := [(0, aR 552), (4, aI p3), (5, aI x5), (6, aI x6), (7, aI (x7 + 1))]) [1, 2, 3, 4, 0] rfl h
set_option maxRecDepth 20000 in
theorem rX5_chanceOf_83 {E : EN} (hE : Ep E) {k : Nat} {mem : Mm} {Q : Int → Mm → Prop} {p0 p1 p2 p3 x5 x6 x7 : Int} (hp0 : isYd p0)
    (h : ((p3 ≤ x7 → (0 ≤ x5 ∧ x5 < 41) ∧ Q (mem 575 x5) mem) ∧ (x7 < p3 → (R32 (x5 - 1)) ∧ VM E mX5_chanceOf (k + 1) mem 96 [(0, aR 552), (4, aI p3), (5, aI x5), (6, aI x6), (7, aI x7), (8, aI (x5 - 1))] [] (retL Q)))) :
    VM E mX5_chanceOf (k + 1) mem 83 [(0, aR 552), (4, aI p3), (5, aI x5), (6, aI x6), (7, aI x7)] [] (retL Q) := by
  refine v_iload (pc := 83) dX5_chanceOf_83 4 rfl ?_
  refine v_iload (pc := 85) dX5_chanceOf_85 1 rfl ?_
  refine v_icmpge (pc := 87) (tgt := 165) dX5_chanceOf_87 (by decide) (fun c1 => ?_) (fun c1 => ?_)
  · have h := h.1 c1
    refine v_aload_n (pc := 165) dX5_chanceOf_165 0 rfl ?_
    refine m_getfin (pc := 166) (v := 575) hE dX5_chanceOf_166 flX5_28 rfl at552 rfl ?_
    refine v_iload (pc := 169) dX5_chanceOf_169 2 rfl ?_
    obtain ⟨o1, h⟩ := h
    refine m_lald (pc := 171) (v := (mem 575 x5)) dX5_chanceOf_171 at575 o1.1 o1.2 rfl ?_
    exact m_retL (pc := 172) dX5_chanceOf_172 rfl h
  · have h := h.2 c1
    refine v_iload (pc := 90) dX5_chanceOf_90 2 rfl ?_
    refine v_iconst (pc := 92) dX5_chanceOf_92 (by decide) ?_
    obtain ⟨o2, h⟩ := h
    refine m_isub (pc := 93) dX5_chanceOf_93 o2 ?_
    refine v_istore (pc := 94) (al2 := [(8, aI (x5 - 1)), (0, aR 552), (4, aI p3), (5, aI x5), (6, aI x6), (7, aI x7)]) dX5_chanceOf_94 (by decide) rfl ?_
    exact VG_sub (al' := [(0, aR 552), (4, aI p3), (5, aI x5), (6, aI x6), (7, aI x7), (8, aI (x5 - 1))]) [1, 2, 3, 4, 5, 0] rfl h
set_option maxRecDepth 20000 in
theorem rX5_chanceOf_96 {E : EN} (hE : Ep E) {k : Nat} {mem : Mm} {Q : Int → Mm → Prop} {p0 p1 p2 p3 x5 x6 x7 x8 : Int} (hp0 : isYd p0)
    (h : ((x8 < 0 → (R32 (x7 + 1)) ∧ VM E mX5_chanceOf (k + 1) mem 83 [(0, aR 552), (4, aI p3), (5, aI x5), (6, aI x6), (7, aI (x7 + 1))] [] (retL Q)) ∧ (0 ≤ x8 → (R32 (x8 + 1)) ∧ (0 ≤ (x8 + 1) ∧ (x8 + 1) < 41) ∧ (0 ≤ x8 ∧ x8 < 41) ∧ (R32 (10 - x6)) ∧ (R64 ((mem 575 x8) * (10 - x6))) ∧ (R64 ((mem 575 (x8 + 1)) + (w64 (Int.tdiv ((mem 575 x8) * (10 - x6)) 10)))) ∧ (R64 (((aUp mem 575 (x8 + 1) ((mem 575 (x8 + 1)) + (w64 (Int.tdiv ((mem 575 x8) * (10 - x6)) 10)))) 575 x8) * x6)) ∧ (R32 (x8 + (-1))) ∧ VM E mX5_chanceOf (k + 1) (aUp (aUp mem 575 (x8 + 1) ((mem 575 (x8 + 1)) + (w64 (Int.tdiv ((mem 575 x8) * (10 - x6)) 10)))) 575 x8 (w64 (Int.tdiv (((aUp mem 575 (x8 + 1) ((mem 575 (x8 + 1)) + (w64 (Int.tdiv ((mem 575 x8) * (10 - x6)) 10)))) 575 x8) * x6) 10))) 96 [(0, aR 552), (4, aI p3), (5, aI x5), (6, aI x6), (7, aI x7), (8, aI (x8 + (-1)))] [] (retL Q)))) :
    VM E mX5_chanceOf (k + 1) mem 96 [(0, aR 552), (4, aI p3), (5, aI x5), (6, aI x6), (7, aI x7), (8, aI x8)] [] (retL Q) := by
  refine v_iload (pc := 96) dX5_chanceOf_96 5 rfl ?_
  refine v_iflt (pc := 98) (tgt := 159) dX5_chanceOf_98 (by decide) (fun c1 => ?_) (fun c1 => ?_)
  · have h := h.1 c1
    obtain ⟨o1, h⟩ := h
    refine m_iinc (pc := 159) (al2 := [(7, aI (x7 + 1)), (0, aR 552), (4, aI p3), (5, aI x5), (6, aI x6), (8, aI x8)]) dX5_chanceOf_159 4 rfl (by decide) o1 rfl ?_
    refine v_goto (pc := 162) (tgt := 83) dX5_chanceOf_162 (by decide) ?_
    exact VG_sub (al' := [(0, aR 552), (4, aI p3), (5, aI x5), (6, aI x6), (7, aI (x7 + 1))]) [1, 2, 3, 4, 0] rfl h
  · have h := h.2 c1
    refine v_aload_n (pc := 101) dX5_chanceOf_101 0 rfl ?_
    refine m_getfin (pc := 102) (v := 575) hE dX5_chanceOf_102 flX5_28 rfl at552 rfl ?_
    refine v_iload (pc := 105) dX5_chanceOf_105 5 rfl ?_
    refine v_iconst (pc := 107) dX5_chanceOf_107 (by decide) ?_
    obtain ⟨o2, h⟩ := h
    refine m_iadd (pc := 108) dX5_chanceOf_108 o2 ?_
    refine v_dup2 (pc := 109) dX5_chanceOf_109 rfl rfl ?_
    obtain ⟨o3, h⟩ := h
    refine m_lald (pc := 110) (v := (mem 575 (x8 + 1))) dX5_chanceOf_110 at575 o3.1 o3.2 rfl ?_
    refine v_aload_n (pc := 111) dX5_chanceOf_111 0 rfl ?_
    refine m_getfin (pc := 112) (v := 575) hE dX5_chanceOf_112 flX5_28 rfl at552 rfl ?_
    refine v_iload (pc := 115) dX5_chanceOf_115 5 rfl ?_
    obtain ⟨o4, h⟩ := h
    refine m_lald (pc := 117) (v := (mem 575 x8)) dX5_chanceOf_117 at575 o4.1 o4.2 rfl ?_
    refine v_bipush (pc := 118) dX5_chanceOf_118 (by decide) ?_
    refine v_iload (pc := 120) dX5_chanceOf_120 3 rfl ?_
    obtain ⟨o5, h⟩ := h
    refine m_isub (pc := 122) dX5_chanceOf_122 o5 ?_
    refine v_i2l (pc := 123) dX5_chanceOf_123 ?_
    obtain ⟨o6, h⟩ := h
    refine m_lmul (pc := 124) dX5_chanceOf_124 o6 ?_
    refine v_ldc2 (pc := 125) (n := 10) dX5_chanceOf_125 cnX5_142 (by decide) ?_
    refine v_ldiv (pc := 128) dX5_chanceOf_128 (by decide) ?_
    obtain ⟨o7, h⟩ := h
    refine m_ladd (pc := 129) dX5_chanceOf_129 o7 ?_
    refine v_last (pc := 130) dX5_chanceOf_130 at575 o3.1 o3.2 ?_
    refine v_aload_n (pc := 131) dX5_chanceOf_131 0 rfl ?_
    refine m_getfin (pc := 132) (v := 575) hE dX5_chanceOf_132 flX5_28 rfl at552 rfl ?_
    refine v_iload (pc := 135) dX5_chanceOf_135 5 rfl ?_
    refine v_aload_n (pc := 137) dX5_chanceOf_137 0 rfl ?_
    refine m_getfin (pc := 138) (v := 575) hE dX5_chanceOf_138 flX5_28 rfl at552 rfl ?_
    refine v_iload (pc := 141) dX5_chanceOf_141 5 rfl ?_
    refine m_lald (pc := 143) (v := ((aUp mem 575 (x8 + 1) ((mem 575 (x8 + 1)) + (w64 (Int.tdiv ((mem 575 x8) * (10 - x6)) 10)))) 575 x8)) dX5_chanceOf_143 at575 o4.1 o4.2 rfl ?_
    refine v_iload (pc := 144) dX5_chanceOf_144 3 rfl ?_
    refine v_i2l (pc := 146) dX5_chanceOf_146 ?_
    obtain ⟨o8, h⟩ := h
    refine m_lmul (pc := 147) dX5_chanceOf_147 o8 ?_
    refine v_ldc2 (pc := 148) (n := 10) dX5_chanceOf_148 cnX5_142 (by decide) ?_
    refine v_ldiv (pc := 151) dX5_chanceOf_151 (by decide) ?_
    refine v_last (pc := 152) dX5_chanceOf_152 at575 o4.1 o4.2 ?_
    obtain ⟨o9, h⟩ := h
    refine m_iinc (pc := 153) (al2 := [(8, aI (x8 + (-1))), (0, aR 552), (4, aI p3), (5, aI x5), (6, aI x6), (7, aI x7)]) dX5_chanceOf_153 5 rfl (by decide) o9 rfl ?_
    refine v_goto (pc := 156) (tgt := 96) dX5_chanceOf_156 (by decide) ?_
    exact VG_sub (al' := [(0, aR 552), (4, aI p3), (5, aI x5), (6, aI x6), (7, aI x7), (8, aI (x8 + (-1)))]) [1, 2, 3, 4, 5, 0] rfl h

theorem dX5_yearsRound_0 : decode cX5_yearsRound 0 = .ok (.aload_n 0, 1) := by decide +kernel
theorem dX5_yearsRound_1 : decode cX5_yearsRound 1 = .ok (.aload_n 1, 1) := by decide +kernel
theorem dX5_yearsRound_2 : decode cX5_yearsRound 2 = .ok (.invokevirtual 40, 3) := by decide +kernel
theorem dX5_yearsRound_5 : decode cX5_yearsRound 5 = .ok (.iconst 0, 1) := by decide +kernel
theorem dX5_yearsRound_6 : decode cX5_yearsRound 6 = .ok (.istore_n 3, 1) := by decide +kernel
theorem dX5_yearsRound_7 : decode cX5_yearsRound 7 = .ok (.iconst 1, 1) := by decide +kernel
theorem dX5_yearsRound_8 : decode cX5_yearsRound 8 = .ok (.istore 4, 2) := by decide +kernel
theorem dX5_yearsRound_10 : decode cX5_yearsRound 10 = .ok (.iload 4, 2) := by decide +kernel
theorem dX5_yearsRound_12 : decode cX5_yearsRound 12 = .ok (.sipush 200, 3) := by decide +kernel
theorem dX5_yearsRound_15 : decode cX5_yearsRound 15 = .ok (.if_icmp .gt 56, 3) := by decide +kernel
theorem dX5_yearsRound_18 : decode cX5_yearsRound 18 = .ok (.aload_n 0, 1) := by decide +kernel
theorem dX5_yearsRound_19 : decode cX5_yearsRound 19 = .ok (.getfield 12, 3) := by decide +kernel
theorem dX5_yearsRound_22 : decode cX5_yearsRound 22 = .ok (.getfield 46, 3) := by decide +kernel
theorem dX5_yearsRound_25 : decode cX5_yearsRound 25 = .ok (.iload_n 2, 1) := by decide +kernel
theorem dX5_yearsRound_26 : decode cX5_yearsRound 26 = .ok (.iaload, 1) := by decide +kernel
theorem dX5_yearsRound_27 : decode cX5_yearsRound 27 = .ok (.istore 5, 2) := by decide +kernel
theorem dX5_yearsRound_29 : decode cX5_yearsRound 29 = .ok (.aload_n 0, 1) := by decide +kernel
theorem dX5_yearsRound_30 : decode cX5_yearsRound 30 = .ok (.getfield 12, 3) := by decide +kernel
theorem dX5_yearsRound_33 : decode cX5_yearsRound 33 = .ok (.invokevirtual 43, 3) := by decide +kernel
theorem dX5_yearsRound_36 : decode cX5_yearsRound 36 = .ok (.iload_n 3, 1) := by decide +kernel
theorem dX5_yearsRound_37 : decode cX5_yearsRound 37 = .ok (.aload_n 0, 1) := by decide +kernel
theorem dX5_yearsRound_38 : decode cX5_yearsRound 38 = .ok (.getfield 12, 3) := by decide +kernel
theorem dX5_yearsRound_41 : decode cX5_yearsRound 41 = .ok (.getfield 46, 3) := by decide +kernel
theorem dX5_yearsRound_44 : decode cX5_yearsRound 44 = .ok (.iload_n 2, 1) := by decide +kernel
theorem dX5_yearsRound_45 : decode cX5_yearsRound 45 = .ok (.iaload, 1) := by decide +kernel
theorem dX5_yearsRound_46 : decode cX5_yearsRound 46 = .ok (.iload 5, 2) := by decide +kernel
theorem dX5_yearsRound_48 : decode cX5_yearsRound 48 = .ok (.isub, 1) := by decide +kernel
theorem dX5_yearsRound_49 : decode cX5_yearsRound 49 = .ok (.bipush 32, 2) := by decide +kernel
theorem dX5_yearsRound_51 : decode cX5_yearsRound 51 = .ok (.invokestatic 144, 3) := by decide +kernel
theorem dX5_yearsRound_54 : decode cX5_yearsRound 54 = .ok (.iadd, 1) := by decide +kernel
theorem dX5_yearsRound_55 : decode cX5_yearsRound 55 = .ok (.istore_n 3, 1) := by decide +kernel
theorem dX5_yearsRound_56 : decode cX5_yearsRound 56 = .ok (.iload_n 3, 1) := by decide +kernel
theorem dX5_yearsRound_57 : decode cX5_yearsRound 57 = .ok (.bipush 32, 2) := by decide +kernel
theorem dX5_yearsRound_59 : decode cX5_yearsRound 59 = .ok (.if_icmp .lt 6, 3) := by decide +kernel
theorem dX5_yearsRound_62 : decode cX5_yearsRound 62 = .ok (.iload 4, 2) := by decide +kernel
theorem dX5_yearsRound_64 : decode cX5_yearsRound 64 = .ok (.ireturn, 1) := by decide +kernel
theorem dX5_yearsRound_65 : decode cX5_yearsRound 65 = .ok (.iinc 4 1, 3) := by decide +kernel
theorem dX5_yearsRound_68 : decode cX5_yearsRound 68 = .ok (.goto (-58), 3) := by decide +kernel
theorem dX5_yearsRound_71 : decode cX5_yearsRound 71 = .ok (.iconst (-1), 1) := by decide +kernel
theorem dX5_yearsRound_72 : decode cX5_yearsRound 72 = .ok (.ireturn, 1) := by decide +kernel
set_option maxRecDepth 20000 in
theorem rX5_yearsRound_0 {E : EN} (hE : Ep E) {k : Nat} {mem : Mm} {Q : Int → Mm → Prop} {p0 p1 : Int} (hp0 : isYd p0)
    (h : (CV E mX5_begin k mem [aR 552, aR p0] (fun m1 => VM E mX5_yearsRound (k + 1) m1 10 [(0, aR 552), (2, aI p1), (3, aI 0), (4, aI 1)] [] (retI Q)))) :
    VM E mX5_yearsRound (k + 1) mem 0 [(0, aR 552), (1, aR p0), (2, aI p1)] [] (retI Q) := by
  refine v_aload_n (pc := 0) dX5_yearsRound_0 0 rfl ?_
  refine v_aload_n (pc := 1) dX5_yearsRound_1 1 rfl ?_
  refine m_invV (pc := 2) (mi' := mX5_begin) (rest := []) [aR p0] dX5_yearsRound_2 at552 (by decide) rfl msX5_begin mvX5_begin lkX5_40 rfl (Nat.le_of_ble_eq_true rfl) (fun hn => CV_mono (h) (fun m1 h => ?_))
  refine v_iconst (pc := 5) dX5_yearsRound_5 (by decide) ?_
  refine v_istore_n (pc := 6) (al2 := [(3, aI 0), (0, aR 552), (1, aR p0), (2, aI p1)]) dX5_yearsRound_6 (by decide) rfl ?_
  refine v_iconst (pc := 7) dX5_yearsRound_7 (by decide) ?_
  refine v_istore (pc := 8) (al2 := [(4, aI 1), (3, aI 0), (0, aR 552), (1, aR p0), (2, aI p1)]) dX5_yearsRound_8 (by decide) rfl ?_
  exact VG_sub (al' := [(0, aR 552), (2, aI p1), (3, aI 0), (4, aI 1)]) [2, 4, 1, 0] rfl h
theorem eX5_yearsRound {E : EN} {k : Nat} {mem : Mm} {Q : Int → Mm → Prop} {p0 p1 : Int} (hr_p1 : R32 p1) (h : VM E mX5_yearsRound (k + 1) mem 0 [(0, aR 552), (1, aR p0), (2, aI p1)] [] (retI Q)) : CI E mX5_yearsRound (k + 1) mem [aR 552, aR p0, aI p1] Q := CI_of rfl (Nat.le_of_ble_eq_true rfl) h (aNs_c (aNr_R _) (aNs_c (aNr_R _) (aNs_c (aNr_I hr_p1) (fun _ q => nomatch q))))
set_option maxRecDepth 20000 in
theorem rX5_yearsRound_10 {E : EN} (hE : Ep E) {k : Nat} {mem : Mm} {Q : Int → Mm → Prop} {p0 p1 x3 x4 : Int} (hp0 : isYd p0)
    (h : ((200 < x4 → Q (-1) mem) ∧ (x4 ≤ 200 → (0 ≤ p1 ∧ p1 < 10) ∧ (CV E mX10_turnYear k mem [aR 553] (fun m2 => (R32 ((m2 557 p1) - (mem 557 p1))) ∧ (R32 ((m2 557 p1) - (mem 557 p1)) → CI E mJ9_floorMod_7cf53 k m2 [aI ((m2 557 p1) - (mem 557 p1)), aI 32] (fun r5 m4 => (R32 (x3 + r5)) ∧ (((x3 + r5) < 32 → (R32 (x4 + 1)) ∧ VM E mX5_yearsRound (k + 1) m4 10 [(0, aR 552), (2, aI p1), (3, aI (x3 + r5)), (4, aI (x4 + 1))] [] (retI Q)) ∧ (32 ≤ (x3 + r5) → Q x4 m4))))))))) :
    VM E mX5_yearsRound (k + 1) mem 10 [(0, aR 552), (2, aI p1), (3, aI x3), (4, aI x4)] [] (retI Q) := by
  refine v_iload (pc := 10) dX5_yearsRound_10 3 rfl ?_
  refine v_sipush (pc := 12) dX5_yearsRound_12 (by decide) ?_
  refine v_icmpgt (pc := 15) (tgt := 71) dX5_yearsRound_15 (by decide) (fun c1 => ?_) (fun c1 => ?_)
  · have h := h.1 c1
    refine v_iconst (pc := 71) dX5_yearsRound_71 (by decide) ?_
    exact m_retI (pc := 72) dX5_yearsRound_72 rfl h
  · have h := h.2 c1
    refine v_aload_n (pc := 18) dX5_yearsRound_18 0 rfl ?_
    refine m_getfin (pc := 19) (v := 553) hE dX5_yearsRound_19 flX5_12 rfl at552 rfl ?_
    refine m_getfin (pc := 22) (v := 557) hE dX5_yearsRound_22 flX5_46 rfl (yd0 (show isYd 553 by unfold isYd; omega)) rfl ?_
    refine v_iload_n (pc := 25) dX5_yearsRound_25 1 rfl ?_
    obtain ⟨o1, h⟩ := h
    refine m_iald (pc := 26) (v := (mem 557 p1)) dX5_yearsRound_26 (yd4 (show isYd 553 by unfold isYd; omega)) o1.1 o1.2 rfl ?_
    refine v_istore (pc := 27) (al2 := [(5, aI (mem 557 p1)), (0, aR 552), (2, aI p1), (3, aI x3), (4, aI x4)]) dX5_yearsRound_27 (by decide) rfl ?_
    refine v_aload_n (pc := 29) dX5_yearsRound_29 1 rfl ?_
    refine m_getfin (pc := 30) (v := 553) hE dX5_yearsRound_30 flX5_12 rfl at552 rfl ?_
    refine m_invV (pc := 33) (mi' := mX10_turnYear) (rest := []) [] dX5_yearsRound_33 (yd0 (show isYd 553 by unfold isYd; omega)) (by decide) rfl msX10_turnYear mvX10_turnYear lkX5_43 rfl (Nat.le_of_ble_eq_true rfl) (fun hn => CV_mono (h) (fun m2 h => ?_))
    refine v_iload_n (pc := 36) dX5_yearsRound_36 3 rfl ?_
    refine v_aload_n (pc := 37) dX5_yearsRound_37 1 rfl ?_
    refine m_getfin (pc := 38) (v := 553) hE dX5_yearsRound_38 flX5_12 rfl at552 rfl ?_
    refine m_getfin (pc := 41) (v := 557) hE dX5_yearsRound_41 flX5_46 rfl (yd0 (show isYd 553 by unfold isYd; omega)) rfl ?_
    refine v_iload_n (pc := 44) dX5_yearsRound_44 2 rfl ?_
    refine m_iald (pc := 45) (v := (m2 557 p1)) dX5_yearsRound_45 (yd4 (show isYd 553 by unfold isYd; omega)) o1.1 o1.2 rfl ?_
    refine v_iload (pc := 46) dX5_yearsRound_46 0 rfl ?_
    obtain ⟨o3, h⟩ := h
    refine m_isub (pc := 48) dX5_yearsRound_48 o3 ?_
    refine v_bipush (pc := 49) dX5_yearsRound_49 (by decide) ?_
    refine m_invSI (pc := 51) (mi' := mJ9_floorMod_7cf53) (rest := [aI x3]) [aI ((m2 557 p1) - (mem 557 p1)), aI 32] dX5_yearsRound_51 msJ9_floorMod_7cf53 stJ9_floorMod_7cf53 lkX5_144 rfl (Nat.le_of_ble_eq_true rfl) (fun hn => CI_mono (h (aaI hn 0 rfl)) (fun r5 m4 h => ?_))
    obtain ⟨o6, h⟩ := h
    refine m_iadd (pc := 54) dX5_yearsRound_54 o6 ?_
    refine v_istore_n (pc := 55) (al2 := [(3, aI (x3 + r5)), (5, aI (mem 557 p1)), (0, aR 552), (2, aI p1), (4, aI x4)]) dX5_yearsRound_55 (by decide) rfl ?_
    refine v_iload_n (pc := 56) dX5_yearsRound_56 0 rfl ?_
    refine v_bipush (pc := 57) dX5_yearsRound_57 (by decide) ?_
    refine v_icmplt (pc := 59) (tgt := 65) dX5_yearsRound_59 (by decide) (fun c1 => ?_) (fun c1 => ?_)
    · have h := h.1 c1
      obtain ⟨o7, h⟩ := h
      refine m_iinc (pc := 65) (al2 := [(4, aI (x4 + 1)), (3, aI (x3 + r5)), (5, aI (mem 557 p1)), (0, aR 552), (2, aI p1)]) dX5_yearsRound_65 4 rfl (by decide) o7 rfl ?_
      refine v_goto (pc := 68) (tgt := 10) dX5_yearsRound_68 (by decide) ?_
      exact VG_sub (al' := [(0, aR 552), (2, aI p1), (3, aI (x3 + r5)), (4, aI (x4 + 1))]) [3, 4, 1, 0] rfl h
    · have h := h.2 c1
      refine v_iload (pc := 62) dX5_yearsRound_62 4 rfl ?_
      exact m_retI (pc := 64) dX5_yearsRound_64 rfl h
