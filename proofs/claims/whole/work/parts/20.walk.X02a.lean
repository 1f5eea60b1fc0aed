theorem dX2_keep_0 : decode cX2_keep 0 = .ok (.aload_n 0, 1) := by decide +kernel
theorem dX2_keep_1 : decode cX2_keep 1 = .ok (.getfield 10, 3) := by decide +kernel
theorem dX2_keep_4 : decode cX2_keep 4 = .ok (.aload_n 1, 1) := by decide +kernel
theorem dX2_keep_5 : decode cX2_keep 5 = .ok (.invokevirtual 30, 3) := by decide +kernel
theorem dX2_keep_8 : decode cX2_keep 8 = .ok (.aload_n 0, 1) := by decide +kernel
theorem dX2_keep_9 : decode cX2_keep 9 = .ok (.getfield 19, 3) := by decide +kernel
theorem dX2_keep_12 : decode cX2_keep 12 = .ok (.aload_n 2, 1) := by decide +kernel
theorem dX2_keep_13 : decode cX2_keep 13 = .ok (.invokevirtual 34, 3) := by decide +kernel
theorem dX2_keep_16 : decode cX2_keep 16 = .ok (.aload_n 0, 1) := by decide +kernel
theorem dX2_keep_17 : decode cX2_keep 17 = .ok (.getfield 26, 3) := by decide +kernel
theorem dX2_keep_20 : decode cX2_keep 20 = .ok (.aload_n 3, 1) := by decide +kernel
theorem dX2_keep_21 : decode cX2_keep 21 = .ok (.invokevirtual 37, 3) := by decide +kernel
theorem dX2_keep_24 : decode cX2_keep 24 = .ok (.aload_n 0, 1) := by decide +kernel
theorem dX2_keep_25 : decode cX2_keep 25 = .ok (.iconst 1, 1) := by decide +kernel
theorem dX2_keep_26 : decode cX2_keep 26 = .ok (.putfield 40, 3) := by decide +kernel
theorem dX2_keep_29 : decode cX2_keep 29 = .ok (.return_, 1) := by decide +kernel
set_option maxRecDepth 20000 in
theorem rX2_keep_0 {E : EN} (hE : Ep E) {k : Nat} {mem : Mm} {Q : Mm → Prop} {y p0 p1 p2 : Int} (hy : isIm y) (hp0 : isYd p0) (hp1 : isFd p1) (hp2 : isLw p2)
    (h : (CV E mX10_copyFrom k mem [aR (y + 1), aR p0] (fun m1 => (CV E mX1_copyFrom k m1 [aR (y + 11), aR p1] (fun m2 => (CV E mX3_copyFrom k m2 [aR (y + 15), aR p2] (fun m3 => Q (aUp m3 y 3 1)))))))) :
    VM E mX2_keep (k + 1) mem 0 [(0, aR y), (1, aR p0), (2, aR p1), (3, aR p2)] [] (retV Q) := by
  refine v_aload_n (pc := 0) dX2_keep_0 0 rfl ?_
  refine m_getfin (pc := 1) (v := (y + 1)) hE dX2_keep_1 flX2_10 rfl (im0 hy) rfl ?_
  refine v_aload_n (pc := 4) dX2_keep_4 1 rfl ?_
  refine m_invV (pc := 5) (mi' := mX10_copyFrom) (rest := []) [aR p0] dX2_keep_5 (yd0 (im_o0 hy)) (by decide) rfl msX10_copyFrom mvX10_copyFrom lkX2_30 rfl (Nat.le_of_ble_eq_true rfl) (fun hn => CV_mono (h) (fun m1 h => ?_))
  refine v_aload_n (pc := 8) dX2_keep_8 0 rfl ?_
  refine m_getfin (pc := 9) (v := (y + 11)) hE dX2_keep_9 flX2_19 rfl (im0 hy) rfl ?_
  refine v_aload_n (pc := 12) dX2_keep_12 2 rfl ?_
  refine m_invV (pc := 13) (mi' := mX1_copyFrom) (rest := []) [aR p1] dX2_keep_13 (fd0 (im_o1 hy)) (by decide) rfl msX1_copyFrom mvX1_copyFrom lkX2_34 rfl (Nat.le_of_ble_eq_true rfl) (fun hn => CV_mono (h) (fun m2 h => ?_))
  refine v_aload_n (pc := 16) dX2_keep_16 0 rfl ?_
  refine m_getfin (pc := 17) (v := (y + 15)) hE dX2_keep_17 flX2_26 rfl (im0 hy) rfl ?_
  refine v_aload_n (pc := 20) dX2_keep_20 3 rfl ?_
  refine m_invV (pc := 21) (mi' := mX3_copyFrom) (rest := []) [aR p2] dX2_keep_21 (lw0 (im_o2 hy)) (by decide) rfl msX3_copyFrom mvX3_copyFrom lkX2_37 rfl (Nat.le_of_ble_eq_true rfl) (fun hn => CV_mono (h) (fun m3 h => ?_))
  refine v_aload_n (pc := 24) dX2_keep_24 0 rfl ?_
  refine v_iconst (pc := 25) dX2_keep_25 (by decide) ?_
  refine v_putf (pc := 26) dX2_keep_26 flX2_40 ⟨_, _, rfl, Or.inl rfl⟩ rfl (by decide) (fun _ => by decide) (Or.inl fun _ => rfl) (im0 hy) ?_
  exact m_retV (pc := 29) dX2_keep_29 rfl h
theorem eX2_keep {E : EN} {k : Nat} {mem : Mm} {Q : Mm → Prop} {y p0 p1 p2 : Int}  (h : VM E mX2_keep (k + 1) mem 0 [(0, aR y), (1, aR p0), (2, aR p1), (3, aR p2)] [] (retV Q)) : CV E mX2_keep (k + 1) mem [aR y, aR p0, aR p1, aR p2] Q := CV_of rfl (Nat.le_of_ble_eq_true rfl) h (aNs_c (aNr_R _) (aNs_c (aNr_R _) (aNs_c (aNr_R _) (aNs_c (aNr_R _) (fun _ q => nomatch q)))))

theorem dX2_giveBack_0 : decode cX2_giveBack 0 = .ok (.aload_n 1, 1) := by decide +kernel
theorem dX2_giveBack_1 : decode cX2_giveBack 1 = .ok (.aload_n 0, 1) := by decide +kernel
theorem dX2_giveBack_2 : decode cX2_giveBack 2 = .ok (.getfield 10, 3) := by decide +kernel
theorem dX2_giveBack_5 : decode cX2_giveBack 5 = .ok (.invokevirtual 30, 3) := by decide +kernel
theorem dX2_giveBack_8 : decode cX2_giveBack 8 = .ok (.aload_n 2, 1) := by decide +kernel
theorem dX2_giveBack_9 : decode cX2_giveBack 9 = .ok (.aload_n 0, 1) := by decide +kernel
theorem dX2_giveBack_10 : decode cX2_giveBack 10 = .ok (.getfield 19, 3) := by decide +kernel
theorem dX2_giveBack_13 : decode cX2_giveBack 13 = .ok (.invokevirtual 34, 3) := by decide +kernel
theorem dX2_giveBack_16 : decode cX2_giveBack 16 = .ok (.aload_n 3, 1) := by decide +kernel
theorem dX2_giveBack_17 : decode cX2_giveBack 17 = .ok (.aload_n 0, 1) := by decide +kernel
theorem dX2_giveBack_18 : decode cX2_giveBack 18 = .ok (.getfield 26, 3) := by decide +kernel
theorem dX2_giveBack_21 : decode cX2_giveBack 21 = .ok (.invokevirtual 37, 3) := by decide +kernel
theorem dX2_giveBack_24 : decode cX2_giveBack 24 = .ok (.return_, 1) := by decide +kernel
set_option maxRecDepth 20000 in
theorem rX2_giveBack_0 {E : EN} (hE : Ep E) {k : Nat} {mem : Mm} {Q : Mm → Prop} {y p0 p1 p2 : Int} (hy : isIm y) (hp0 : isYd p0) (hp1 : isFd p1) (hp2 : isLw p2)
    (h : (CV E mX10_copyFrom k mem [aR p0, aR (y + 1)] (fun m1 => (CV E mX1_copyFrom k m1 [aR p1, aR (y + 11)] (fun m2 => (CV E mX3_copyFrom k m2 [aR p2, aR (y + 15)] (fun m3 => Q m3))))))) :
    VM E mX2_giveBack (k + 1) mem 0 [(0, aR y), (1, aR p0), (2, aR p1), (3, aR p2)] [] (retV Q) := by
  refine v_aload_n (pc := 0) dX2_giveBack_0 1 rfl ?_
  refine v_aload_n (pc := 1) dX2_giveBack_1 0 rfl ?_
  refine m_getfin (pc := 2) (v := (y + 1)) hE dX2_giveBack_2 flX2_10 rfl (im0 hy) rfl ?_
  refine m_invV (pc := 5) (mi' := mX10_copyFrom) (rest := []) [aR (y + 1)] dX2_giveBack_5 (yd0 hp0) (by decide) rfl msX10_copyFrom mvX10_copyFrom lkX2_30 rfl (Nat.le_of_ble_eq_true rfl) (fun hn => CV_mono (h) (fun m1 h => ?_))
  refine v_aload_n (pc := 8) dX2_giveBack_8 2 rfl ?_
  refine v_aload_n (pc := 9) dX2_giveBack_9 0 rfl ?_
  refine m_getfin (pc := 10) (v := (y + 11)) hE dX2_giveBack_10 flX2_19 rfl (im0 hy) rfl ?_
  refine m_invV (pc := 13) (mi' := mX1_copyFrom) (rest := []) [aR (y + 11)] dX2_giveBack_13 (fd0 hp1) (by decide) rfl msX1_copyFrom mvX1_copyFrom lkX2_34 rfl (Nat.le_of_ble_eq_true rfl) (fun hn => CV_mono (h) (fun m2 h => ?_))
  refine v_aload_n (pc := 16) dX2_giveBack_16 3 rfl ?_
  refine v_aload_n (pc := 17) dX2_giveBack_17 0 rfl ?_
  refine m_getfin (pc := 18) (v := (y + 15)) hE dX2_giveBack_18 flX2_26 rfl (im0 hy) rfl ?_
  refine m_invV (pc := 21) (mi' := mX3_copyFrom) (rest := []) [aR (y + 15)] dX2_giveBack_21 (lw0 hp2) (by decide) rfl msX3_copyFrom mvX3_copyFrom lkX2_37 rfl (Nat.le_of_ble_eq_true rfl) (fun hn => CV_mono (h) (fun m3 h => ?_))
  exact m_retV (pc := 24) dX2_giveBack_24 rfl h
theorem eX2_giveBack {E : EN} {k : Nat} {mem : Mm} {Q : Mm → Prop} {y p0 p1 p2 : Int}  (h : VM E mX2_giveBack (k + 1) mem 0 [(0, aR y), (1, aR p0), (2, aR p1), (3, aR p2)] [] (retV Q)) : CV E mX2_giveBack (k + 1) mem [aR y, aR p0, aR p1, aR p2] Q := CV_of rfl (Nat.le_of_ble_eq_true rfl) h (aNs_c (aNr_R _) (aNs_c (aNr_R _) (aNs_c (aNr_R _) (aNs_c (aNr_R _) (fun _ q => nomatch q)))))
