theorem dX9_copyFrom_0 : decode cX9_copyFrom 0 = .ok (.aload_n 0, 1) := by decide +kernel
theorem dX9_copyFrom_1 : decode cX9_copyFrom 1 = .ok (.aload_n 1, 1) := by decide +kernel
theorem dX9_copyFrom_2 : decode cX9_copyFrom 2 = .ok (.getfield 37, 3) := by decide +kernel
theorem dX9_copyFrom_5 : decode cX9_copyFrom 5 = .ok (.putfield 37, 3) := by decide +kernel
theorem dX9_copyFrom_8 : decode cX9_copyFrom 8 = .ok (.aload_n 0, 1) := by decide +kernel
theorem dX9_copyFrom_9 : decode cX9_copyFrom 9 = .ok (.aload_n 1, 1) := by decide +kernel
theorem dX9_copyFrom_10 : decode cX9_copyFrom 10 = .ok (.getfield 41, 3) := by decide +kernel
theorem dX9_copyFrom_13 : decode cX9_copyFrom 13 = .ok (.putfield 41, 3) := by decide +kernel
theorem dX9_copyFrom_16 : decode cX9_copyFrom 16 = .ok (.aload_n 1, 1) := by decide +kernel
theorem dX9_copyFrom_17 : decode cX9_copyFrom 17 = .ok (.getfield 9, 3) := by decide +kernel
theorem dX9_copyFrom_20 : decode cX9_copyFrom 20 = .ok (.iconst 0, 1) := by decide +kernel
theorem dX9_copyFrom_21 : decode cX9_copyFrom 21 = .ok (.aload_n 0, 1) := by decide +kernel
theorem dX9_copyFrom_22 : decode cX9_copyFrom 22 = .ok (.getfield 9, 3) := by decide +kernel
theorem dX9_copyFrom_25 : decode cX9_copyFrom 25 = .ok (.iconst 0, 1) := by decide +kernel
theorem dX9_copyFrom_26 : decode cX9_copyFrom 26 = .ok (.bipush 12, 2) := by decide +kernel
theorem dX9_copyFrom_28 : decode cX9_copyFrom 28 = .ok (.invokestatic 44, 3) := by decide +kernel
theorem dX9_copyFrom_31 : decode cX9_copyFrom 31 = .ok (.aload_n 1, 1) := by decide +kernel
theorem dX9_copyFrom_32 : decode cX9_copyFrom 32 = .ok (.getfield 15, 3) := by decide +kernel
theorem dX9_copyFrom_35 : decode cX9_copyFrom 35 = .ok (.iconst 0, 1) := by decide +kernel
theorem dX9_copyFrom_36 : decode cX9_copyFrom 36 = .ok (.aload_n 0, 1) := by decide +kernel
theorem dX9_copyFrom_37 : decode cX9_copyFrom 37 = .ok (.getfield 15, 3) := by decide +kernel
theorem dX9_copyFrom_40 : decode cX9_copyFrom 40 = .ok (.iconst 0, 1) := by decide +kernel
theorem dX9_copyFrom_41 : decode cX9_copyFrom 41 = .ok (.bipush 12, 2) := by decide +kernel
theorem dX9_copyFrom_43 : decode cX9_copyFrom 43 = .ok (.invokestatic 44, 3) := by decide +kernel
theorem dX9_copyFrom_46 : decode cX9_copyFrom 46 = .ok (.aload_n 1, 1) := by decide +kernel
theorem dX9_copyFrom_47 : decode cX9_copyFrom 47 = .ok (.getfield 18, 3) := by decide +kernel
theorem dX9_copyFrom_50 : decode cX9_copyFrom 50 = .ok (.iconst 0, 1) := by decide +kernel
theorem dX9_copyFrom_51 : decode cX9_copyFrom 51 = .ok (.aload_n 0, 1) := by decide +kernel
theorem dX9_copyFrom_52 : decode cX9_copyFrom 52 = .ok (.getfield 18, 3) := by decide +kernel
theorem dX9_copyFrom_55 : decode cX9_copyFrom 55 = .ok (.iconst 0, 1) := by decide +kernel
theorem dX9_copyFrom_56 : decode cX9_copyFrom 56 = .ok (.bipush 12, 2) := by decide +kernel
theorem dX9_copyFrom_58 : decode cX9_copyFrom 58 = .ok (.invokestatic 44, 3) := by decide +kernel
theorem dX9_copyFrom_61 : decode cX9_copyFrom 61 = .ok (.aload_n 1, 1) := by decide +kernel
theorem dX9_copyFrom_62 : decode cX9_copyFrom 62 = .ok (.getfield 21, 3) := by decide +kernel
theorem dX9_copyFrom_65 : decode cX9_copyFrom 65 = .ok (.iconst 0, 1) := by decide +kernel
theorem dX9_copyFrom_66 : decode cX9_copyFrom 66 = .ok (.aload_n 0, 1) := by decide +kernel
theorem dX9_copyFrom_67 : decode cX9_copyFrom 67 = .ok (.getfield 21, 3) := by decide +kernel
theorem dX9_copyFrom_70 : decode cX9_copyFrom 70 = .ok (.iconst 0, 1) := by decide +kernel
theorem dX9_copyFrom_71 : decode cX9_copyFrom 71 = .ok (.bipush 12, 2) := by decide +kernel
theorem dX9_copyFrom_73 : decode cX9_copyFrom 73 = .ok (.invokestatic 44, 3) := by decide +kernel
theorem dX9_copyFrom_76 : decode cX9_copyFrom 76 = .ok (.aload_n 1, 1) := by decide +kernel
theorem dX9_copyFrom_77 : decode cX9_copyFrom 77 = .ok (.getfield 24, 3) := by decide +kernel
theorem dX9_copyFrom_80 : decode cX9_copyFrom 80 = .ok (.iconst 0, 1) := by decide +kernel
theorem dX9_copyFrom_81 : decode cX9_copyFrom 81 = .ok (.aload_n 0, 1) := by decide +kernel
theorem dX9_copyFrom_82 : decode cX9_copyFrom 82 = .ok (.getfield 24, 3) := by decide +kernel
theorem dX9_copyFrom_85 : decode cX9_copyFrom 85 = .ok (.iconst 0, 1) := by decide +kernel
theorem dX9_copyFrom_86 : decode cX9_copyFrom 86 = .ok (.bipush 12, 2) := by decide +kernel
theorem dX9_copyFrom_88 : decode cX9_copyFrom 88 = .ok (.invokestatic 44, 3) := by decide +kernel
theorem dX9_copyFrom_91 : decode cX9_copyFrom 91 = .ok (.aload_n 1, 1) := by decide +kernel
theorem dX9_copyFrom_92 : decode cX9_copyFrom 92 = .ok (.getfield 27, 3) := by decide +kernel
theorem dX9_copyFrom_95 : decode cX9_copyFrom 95 = .ok (.iconst 0, 1) := by decide +kernel
theorem dX9_copyFrom_96 : decode cX9_copyFrom 96 = .ok (.aload_n 0, 1) := by decide +kernel
theorem dX9_copyFrom_97 : decode cX9_copyFrom 97 = .ok (.getfield 27, 3) := by decide +kernel
theorem dX9_copyFrom_100 : decode cX9_copyFrom 100 = .ok (.iconst 0, 1) := by decide +kernel
theorem dX9_copyFrom_101 : decode cX9_copyFrom 101 = .ok (.sipush 400, 3) := by decide +kernel
theorem dX9_copyFrom_104 : decode cX9_copyFrom 104 = .ok (.invokestatic 44, 3) := by decide +kernel
theorem dX9_copyFrom_107 : decode cX9_copyFrom 107 = .ok (.aload_n 1, 1) := by decide +kernel
theorem dX9_copyFrom_108 : decode cX9_copyFrom 108 = .ok (.getfield 30, 3) := by decide +kernel
theorem dX9_copyFrom_111 : decode cX9_copyFrom 111 = .ok (.iconst 0, 1) := by decide +kernel
theorem dX9_copyFrom_112 : decode cX9_copyFrom 112 = .ok (.aload_n 0, 1) := by decide +kernel
theorem dX9_copyFrom_113 : decode cX9_copyFrom 113 = .ok (.getfield 30, 3) := by decide +kernel
theorem dX9_copyFrom_116 : decode cX9_copyFrom 116 = .ok (.iconst 0, 1) := by decide +kernel
theorem dX9_copyFrom_117 : decode cX9_copyFrom 117 = .ok (.sipush 400, 3) := by decide +kernel
theorem dX9_copyFrom_120 : decode cX9_copyFrom 120 = .ok (.invokestatic 44, 3) := by decide +kernel
theorem dX9_copyFrom_123 : decode cX9_copyFrom 123 = .ok (.return_, 1) := by decide +kernel
set_option maxRecDepth 20000 in
theorem rX9_copyFrom_0 {E : EN} (hE : Ep E) {k : Nat} {mem : Mm} {Q : Mm → Prop} {y p0 : Int} (hy : isTx y) (hp0 : isTx p0)
    (h : Q (aCp (aCp (aCp (aCp (aCp (aCp (aCp (aUp (aUp mem y 0 (mem p0 0)) y 8 ((aUp mem y 0 (mem p0 0)) p0 8)) (p0 + 1) (y + 1) 12) (p0 + 2) (y + 2) 12) (p0 + 3) (y + 3) 12) (p0 + 4) (y + 4) 12) (p0 + 5) (y + 5) 12) (p0 + 6) (y + 6) 400) (p0 + 7) (y + 7) 400)) :
    VM E mX9_copyFrom (k + 1) mem 0 [(0, aR y), (1, aR p0)] [] (retV Q) := by
  refine v_aload_n (pc := 0) dX9_copyFrom_0 0 rfl ?_
  refine v_aload_n (pc := 1) dX9_copyFrom_1 1 rfl ?_
  refine m_getf (pc := 2) (t := 0) (v := (mem p0 0)) dX9_copyFrom_2 flX9_37 rfl (tx0 hp0) rfl ?_
  refine v_putf (pc := 5) dX9_copyFrom_5 flX9_37 ⟨_, _, rfl, Or.inl rfl⟩ rfl (by decide) (fun q => nomatch q) (Or.inl fun _ => rfl) (tx0 hy) ?_
  refine v_aload_n (pc := 8) dX9_copyFrom_8 0 rfl ?_
  refine v_aload_n (pc := 9) dX9_copyFrom_9 1 rfl ?_
  refine m_getf (pc := 10) (t := 0) (v := ((aUp mem y 0 (mem p0 0)) p0 8)) dX9_copyFrom_10 flX9_41 rfl (tx0 hp0) rfl ?_
  refine v_putf (pc := 13) dX9_copyFrom_13 flX9_41 ⟨_, _, rfl, Or.inl rfl⟩ rfl (by decide) (fun q => nomatch q) (Or.inl fun _ => rfl) (tx0 hy) ?_
  refine v_aload_n (pc := 16) dX9_copyFrom_16 1 rfl ?_
  refine m_getfin (pc := 17) (v := (p0 + 1)) hE dX9_copyFrom_17 flX9_9 rfl (tx0 hp0) rfl ?_
  refine v_iconst (pc := 20) dX9_copyFrom_20 (by decide) ?_
  refine v_aload_n (pc := 21) dX9_copyFrom_21 0 rfl ?_
  refine m_getfin (pc := 22) (v := (y + 1)) hE dX9_copyFrom_22 flX9_9 rfl (tx0 hy) rfl ?_
  refine v_iconst (pc := 25) dX9_copyFrom_25 (by decide) ?_
  refine v_bipush (pc := 26) dX9_copyFrom_26 (by decide) ?_
  refine m_copy (pc := 28) dX9_copyFrom_28 lmX9_44 nC sC iC (tx1 hp0) (tx1 hy) (by decide) (by decide) (by decide) (Nat.le_of_ble_eq_true rfl) ?_
  refine v_aload_n (pc := 31) dX9_copyFrom_31 1 rfl ?_
  refine m_getfin (pc := 32) (v := (p0 + 2)) hE dX9_copyFrom_32 flX9_15 rfl (tx0 hp0) rfl ?_
  refine v_iconst (pc := 35) dX9_copyFrom_35 (by decide) ?_
  refine v_aload_n (pc := 36) dX9_copyFrom_36 0 rfl ?_
  refine m_getfin (pc := 37) (v := (y + 2)) hE dX9_copyFrom_37 flX9_15 rfl (tx0 hy) rfl ?_
  refine v_iconst (pc := 40) dX9_copyFrom_40 (by decide) ?_
  refine v_bipush (pc := 41) dX9_copyFrom_41 (by decide) ?_
  refine m_copy (pc := 43) dX9_copyFrom_43 lmX9_44 nC sC iC (tx2 hp0) (tx2 hy) (by decide) (by decide) (by decide) (Nat.le_of_ble_eq_true rfl) ?_
  refine v_aload_n (pc := 46) dX9_copyFrom_46 1 rfl ?_
  refine m_getfin (pc := 47) (v := (p0 + 3)) hE dX9_copyFrom_47 flX9_18 rfl (tx0 hp0) rfl ?_
  refine v_iconst (pc := 50) dX9_copyFrom_50 (by decide) ?_
  refine v_aload_n (pc := 51) dX9_copyFrom_51 0 rfl ?_
  refine m_getfin (pc := 52) (v := (y + 3)) hE dX9_copyFrom_52 flX9_18 rfl (tx0 hy) rfl ?_
  refine v_iconst (pc := 55) dX9_copyFrom_55 (by decide) ?_
  refine v_bipush (pc := 56) dX9_copyFrom_56 (by decide) ?_
  refine m_copy (pc := 58) dX9_copyFrom_58 lmX9_44 nC sC iC (tx3 hp0) (tx3 hy) (by decide) (by decide) (by decide) (Nat.le_of_ble_eq_true rfl) ?_
  refine v_aload_n (pc := 61) dX9_copyFrom_61 1 rfl ?_
  refine m_getfin (pc := 62) (v := (p0 + 4)) hE dX9_copyFrom_62 flX9_21 rfl (tx0 hp0) rfl ?_
  refine v_iconst (pc := 65) dX9_copyFrom_65 (by decide) ?_
  refine v_aload_n (pc := 66) dX9_copyFrom_66 0 rfl ?_
  refine m_getfin (pc := 67) (v := (y + 4)) hE dX9_copyFrom_67 flX9_21 rfl (tx0 hy) rfl ?_
  refine v_iconst (pc := 70) dX9_copyFrom_70 (by decide) ?_
  refine v_bipush (pc := 71) dX9_copyFrom_71 (by decide) ?_
  refine m_copy (pc := 73) dX9_copyFrom_73 lmX9_44 nC sC iC (tx4 hp0) (tx4 hy) (by decide) (by decide) (by decide) (Nat.le_of_ble_eq_true rfl) ?_
  refine v_aload_n (pc := 76) dX9_copyFrom_76 1 rfl ?_
  refine m_getfin (pc := 77) (v := (p0 + 5)) hE dX9_copyFrom_77 flX9_24 rfl (tx0 hp0) rfl ?_
  refine v_iconst (pc := 80) dX9_copyFrom_80 (by decide) ?_
  refine v_aload_n (pc := 81) dX9_copyFrom_81 0 rfl ?_
  refine m_getfin (pc := 82) (v := (y + 5)) hE dX9_copyFrom_82 flX9_24 rfl (tx0 hy) rfl ?_
  refine v_iconst (pc := 85) dX9_copyFrom_85 (by decide) ?_
  refine v_bipush (pc := 86) dX9_copyFrom_86 (by decide) ?_
  refine m_copy (pc := 88) dX9_copyFrom_88 lmX9_44 nC sC iC (tx5 hp0) (tx5 hy) (by decide) (by decide) (by decide) (Nat.le_of_ble_eq_true rfl) ?_
  refine v_aload_n (pc := 91) dX9_copyFrom_91 1 rfl ?_
  refine m_getfin (pc := 92) (v := (p0 + 6)) hE dX9_copyFrom_92 flX9_27 rfl (tx0 hp0) rfl ?_
  refine v_iconst (pc := 95) dX9_copyFrom_95 (by decide) ?_
  refine v_aload_n (pc := 96) dX9_copyFrom_96 0 rfl ?_
  refine m_getfin (pc := 97) (v := (y + 6)) hE dX9_copyFrom_97 flX9_27 rfl (tx0 hy) rfl ?_
  refine v_iconst (pc := 100) dX9_copyFrom_100 (by decide) ?_
  refine v_sipush (pc := 101) dX9_copyFrom_101 (by decide) ?_
  refine m_copy (pc := 104) dX9_copyFrom_104 lmX9_44 nC sC iC (tx6 hp0) (tx6 hy) (by decide) (by decide) (by decide) (Nat.le_of_ble_eq_true rfl) ?_
  refine v_aload_n (pc := 107) dX9_copyFrom_107 1 rfl ?_
  refine m_getfin (pc := 108) (v := (p0 + 7)) hE dX9_copyFrom_108 flX9_30 rfl (tx0 hp0) rfl ?_
  refine v_iconst (pc := 111) dX9_copyFrom_111 (by decide) ?_
  refine v_aload_n (pc := 112) dX9_copyFrom_112 0 rfl ?_
  refine m_getfin (pc := 113) (v := (y + 7)) hE dX9_copyFrom_113 flX9_30 rfl (tx0 hy) rfl ?_
  refine v_iconst (pc := 116) dX9_copyFrom_116 (by decide) ?_
  refine v_sipush (pc := 117) dX9_copyFrom_117 (by decide) ?_
  refine m_copy (pc := 120) dX9_copyFrom_120 lmX9_44 nC sC iC (tx7 hp0) (tx7 hy) (by decide) (by decide) (by decide) (Nat.le_of_ble_eq_true rfl) ?_
  exact m_retV (pc := 123) dX9_copyFrom_123 rfl h
theorem eX9_copyFrom {E : EN} {k : Nat} {mem : Mm} {Q : Mm → Prop} {y p0 : Int}  (h : VM E mX9_copyFrom (k + 1) mem 0 [(0, aR y), (1, aR p0)] [] (retV Q)) : CV E mX9_copyFrom (k + 1) mem [aR y, aR p0] Q := CV_of rfl (Nat.le_of_ble_eq_true rfl) h (aNs_c (aNr_R _) (aNs_c (aNr_R _) (fun _ q => nomatch q)))

theorem dX9_clear_0 : decode cX9_clear 0 = .ok (.aload_n 0, 1) := by decide +kernel
theorem dX9_clear_1 : decode cX9_clear 1 = .ok (.iconst 0, 1) := by decide +kernel
theorem dX9_clear_2 : decode cX9_clear 2 = .ok (.putfield 37, 3) := by decide +kernel
theorem dX9_clear_5 : decode cX9_clear 5 = .ok (.aload_n 0, 1) := by decide +kernel
theorem dX9_clear_6 : decode cX9_clear 6 = .ok (.iconst 0, 1) := by decide +kernel
theorem dX9_clear_7 : decode cX9_clear 7 = .ok (.putfield 41, 3) := by decide +kernel
theorem dX9_clear_10 : decode cX9_clear 10 = .ok (.return_, 1) := by decide +kernel
set_option maxRecDepth 20000 in
theorem rX9_clear_0 {E : EN} (hE : Ep E) {k : Nat} {mem : Mm} {Q : Mm → Prop} {y : Int} (hy : isTx y)
    (h : Q (aUp (aUp mem y 0 0) y 8 0)) :
    VM E mX9_clear k mem 0 [(0, aR y)] [] (retV Q) := by
  refine v_aload_n (pc := 0) dX9_clear_0 0 rfl ?_
  refine v_iconst (pc := 1) dX9_clear_1 (by decide) ?_
  refine v_putf (pc := 2) dX9_clear_2 flX9_37 ⟨_, _, rfl, Or.inl rfl⟩ rfl (by decide) (fun q => nomatch q) (Or.inl fun _ => rfl) (tx0 hy) ?_
  refine v_aload_n (pc := 5) dX9_clear_5 0 rfl ?_
  refine v_iconst (pc := 6) dX9_clear_6 (by decide) ?_
  refine v_putf (pc := 7) dX9_clear_7 flX9_41 ⟨_, _, rfl, Or.inl rfl⟩ rfl (by decide) (fun q => nomatch q) (Or.inl fun _ => rfl) (tx0 hy) ?_
  exact m_retV (pc := 10) dX9_clear_10 rfl h
theorem eX9_clear {E : EN} {k : Nat} {mem : Mm} {Q : Mm → Prop} {y : Int}  (h : VM E mX9_clear k mem 0 [(0, aR y)] [] (retV Q)) : CV E mX9_clear k mem [aR y] Q := CV_of rfl (Nat.le_of_ble_eq_true rfl) h (aNs_c (aNr_R _) (fun _ q => nomatch q))

theorem dX9_open_0 : decode cX9_open 0 = .ok (.aload_n 0, 1) := by decide +kernel
theorem dX9_open_1 : decode cX9_open 1 = .ok (.getfield 37, 3) := by decide +kernel
theorem dX9_open_4 : decode cX9_open 4 = .ok (.bipush 12, 2) := by decide +kernel
theorem dX9_open_6 : decode cX9_open 6 = .ok (.if_icmp .ge 53, 3) := by decide +kernel
theorem dX9_open_9 : decode cX9_open 9 = .ok (.aload_n 0, 1) := by decide +kernel
theorem dX9_open_10 : decode cX9_open 10 = .ok (.getfield 9, 3) := by decide +kernel
theorem dX9_open_13 : decode cX9_open 13 = .ok (.aload_n 0, 1) := by decide +kernel
theorem dX9_open_14 : decode cX9_open 14 = .ok (.getfield 37, 3) := by decide +kernel
theorem dX9_open_17 : decode cX9_open 17 = .ok (.iload_n 1, 1) := by decide +kernel
theorem dX9_open_18 : decode cX9_open 18 = .ok (.iastore, 1) := by decide +kernel
theorem dX9_open_19 : decode cX9_open 19 = .ok (.aload_n 0, 1) := by decide +kernel
theorem dX9_open_20 : decode cX9_open 20 = .ok (.getfield 15, 3) := by decide +kernel
theorem dX9_open_23 : decode cX9_open 23 = .ok (.aload_n 0, 1) := by decide +kernel
theorem dX9_open_24 : decode cX9_open 24 = .ok (.getfield 37, 3) := by decide +kernel
theorem dX9_open_27 : decode cX9_open 27 = .ok (.iconst 1, 1) := by decide +kernel
theorem dX9_open_28 : decode cX9_open 28 = .ok (.iastore, 1) := by decide +kernel
theorem dX9_open_29 : decode cX9_open 29 = .ok (.aload_n 0, 1) := by decide +kernel
theorem dX9_open_30 : decode cX9_open 30 = .ok (.getfield 18, 3) := by decide +kernel
theorem dX9_open_33 : decode cX9_open 33 = .ok (.aload_n 0, 1) := by decide +kernel
theorem dX9_open_34 : decode cX9_open 34 = .ok (.getfield 37, 3) := by decide +kernel
theorem dX9_open_37 : decode cX9_open 37 = .ok (.iconst (-1), 1) := by decide +kernel
theorem dX9_open_38 : decode cX9_open 38 = .ok (.iastore, 1) := by decide +kernel
theorem dX9_open_39 : decode cX9_open 39 = .ok (.aload_n 0, 1) := by decide +kernel
theorem dX9_open_40 : decode cX9_open 40 = .ok (.getfield 21, 3) := by decide +kernel
theorem dX9_open_43 : decode cX9_open 43 = .ok (.aload_n 0, 1) := by decide +kernel
theorem dX9_open_44 : decode cX9_open 44 = .ok (.getfield 37, 3) := by decide +kernel
theorem dX9_open_47 : decode cX9_open 47 = .ok (.iconst (-1), 1) := by decide +kernel
theorem dX9_open_48 : decode cX9_open 48 = .ok (.iastore, 1) := by decide +kernel
theorem dX9_open_49 : decode cX9_open 49 = .ok (.aload_n 0, 1) := by decide +kernel
theorem dX9_open_50 : decode cX9_open 50 = .ok (.getfield 24, 3) := by decide +kernel
theorem dX9_open_53 : decode cX9_open 53 = .ok (.aload_n 0, 1) := by decide +kernel
theorem dX9_open_54 : decode cX9_open 54 = .ok (.getfield 37, 3) := by decide +kernel
theorem dX9_open_57 : decode cX9_open 57 = .ok (.iconst (-1), 1) := by decide +kernel
theorem dX9_open_58 : decode cX9_open 58 = .ok (.iastore, 1) := by decide +kernel
theorem dX9_open_59 : decode cX9_open 59 = .ok (.return_, 1) := by decide +kernel
set_option maxRecDepth 20000 in
theorem rX9_open_0 {E : EN} (hE : Ep E) {k : Nat} {mem : Mm} {Q : Mm → Prop} {y p0 : Int} (hy : isTx y)
    (h : ((12 ≤ (mem y 0) → Q mem) ∧ ((mem y 0) < 12 → (0 ≤ (mem y 0) ∧ (mem y 0) < 12) ∧ Q (aUp (aUp (aUp (aUp (aUp mem (y + 1) (mem y 0) p0) (y + 2) (mem y 0) 1) (y + 3) (mem y 0) (-1)) (y + 4) (mem y 0) (-1)) (y + 5) (mem y 0) (-1))))) :
    VM E mX9_open k mem 0 [(0, aR y), (1, aI p0)] [] (retV Q) := by
  refine v_aload_n (pc := 0) dX9_open_0 0 rfl ?_
  refine m_getf (pc := 1) (t := 0) (v := (mem y 0)) dX9_open_1 flX9_37 rfl (tx0 hy) rfl ?_
  refine v_bipush (pc := 4) dX9_open_4 (by decide) ?_
  refine v_icmpge (pc := 6) (tgt := 59) dX9_open_6 (by decide) (fun c1 => ?_) (fun c1 => ?_)
  · have h := h.1 c1
    exact m_retV (pc := 59) dX9_open_59 rfl h
  · have h := h.2 c1
    refine v_aload_n (pc := 9) dX9_open_9 0 rfl ?_
    refine m_getfin (pc := 10) (v := (y + 1)) hE dX9_open_10 flX9_9 rfl (tx0 hy) rfl ?_
    refine v_aload_n (pc := 13) dX9_open_13 0 rfl ?_
    refine m_getf (pc := 14) (t := 0) (v := (mem y 0)) dX9_open_14 flX9_37 rfl (tx0 hy) rfl ?_
    refine v_iload_n (pc := 17) dX9_open_17 1 rfl ?_
    obtain ⟨o1, h⟩ := h
    refine v_iast (pc := 18) dX9_open_18 (tx1 hy) o1.1 o1.2 ?_
    refine v_aload_n (pc := 19) dX9_open_19 0 rfl ?_
    refine m_getfin (pc := 20) (v := (y + 2)) hE dX9_open_20 flX9_15 rfl (tx0 hy) rfl ?_
    refine v_aload_n (pc := 23) dX9_open_23 0 rfl ?_
    refine m_getf (pc := 24) (t := 0) (v := (mem y 0)) dX9_open_24 flX9_37 rfl (tx0 hy) (aUp_rn (by omega)) ?_
    refine v_iconst (pc := 27) dX9_open_27 (by decide) ?_
    refine v_iast (pc := 28) dX9_open_28 (tx2 hy) o1.1 o1.2 ?_
    refine v_aload_n (pc := 29) dX9_open_29 0 rfl ?_
    refine m_getfin (pc := 30) (v := (y + 3)) hE dX9_open_30 flX9_18 rfl (tx0 hy) rfl ?_
    refine v_aload_n (pc := 33) dX9_open_33 0 rfl ?_
    refine m_getf (pc := 34) (t := 0) (v := (mem y 0)) dX9_open_34 flX9_37 rfl (tx0 hy) ((aUp_rn (by omega)).trans (aUp_rn (by omega))) ?_
    refine v_iconst (pc := 37) dX9_open_37 (by decide) ?_
    refine v_iast (pc := 38) dX9_open_38 (tx3 hy) o1.1 o1.2 ?_
    refine v_aload_n (pc := 39) dX9_open_39 0 rfl ?_
    refine m_getfin (pc := 40) (v := (y + 4)) hE dX9_open_40 flX9_21 rfl (tx0 hy) rfl ?_
    refine v_aload_n (pc := 43) dX9_open_43 0 rfl ?_
    refine m_getf (pc := 44) (t := 0) (v := (mem y 0)) dX9_open_44 flX9_37 rfl (tx0 hy) ((aUp_rn (by omega)).trans ((aUp_rn (by omega)).trans (aUp_rn (by omega)))) ?_
    refine v_iconst (pc := 47) dX9_open_47 (by decide) ?_
    refine v_iast (pc := 48) dX9_open_48 (tx4 hy) o1.1 o1.2 ?_
    refine v_aload_n (pc := 49) dX9_open_49 0 rfl ?_
    refine m_getfin (pc := 50) (v := (y + 5)) hE dX9_open_50 flX9_24 rfl (tx0 hy) rfl ?_
    refine v_aload_n (pc := 53) dX9_open_53 0 rfl ?_
    refine m_getf (pc := 54) (t := 0) (v := (mem y 0)) dX9_open_54 flX9_37 rfl (tx0 hy) ((aUp_rn (by omega)).trans ((aUp_rn (by omega)).trans ((aUp_rn (by omega)).trans (aUp_rn (by omega))))) ?_
    refine v_iconst (pc := 57) dX9_open_57 (by decide) ?_
    refine v_iast (pc := 58) dX9_open_58 (tx5 hy) o1.1 o1.2 ?_
    exact m_retV (pc := 59) dX9_open_59 rfl h
theorem eX9_open {E : EN} {k : Nat} {mem : Mm} {Q : Mm → Prop} {y p0 : Int} (hr_p0 : R32 p0) (h : VM E mX9_open k mem 0 [(0, aR y), (1, aI p0)] [] (retV Q)) : CV E mX9_open k mem [aR y, aI p0] Q := CV_of rfl (Nat.le_of_ble_eq_true rfl) h (aNs_c (aNr_R _) (aNs_c (aNr_I hr_p0) (fun _ q => nomatch q)))

theorem dX9_emit_0 : decode cX9_emit 0 = .ok (.aload_n 0, 1) := by decide +kernel
theorem dX9_emit_1 : decode cX9_emit 1 = .ok (.getfield 41, 3) := by decide +kernel
theorem dX9_emit_4 : decode cX9_emit 4 = .ok (.sipush 400, 3) := by decide +kernel
theorem dX9_emit_7 : decode cX9_emit 7 = .ok (.if_icmp .lt 5, 3) := by decide +kernel
theorem dX9_emit_10 : decode cX9_emit 10 = .ok (.iconst (-1), 1) := by decide +kernel
theorem dX9_emit_11 : decode cX9_emit 11 = .ok (.ireturn, 1) := by decide +kernel
theorem dX9_emit_12 : decode cX9_emit 12 = .ok (.aload_n 0, 1) := by decide +kernel
theorem dX9_emit_13 : decode cX9_emit 13 = .ok (.getfield 27, 3) := by decide +kernel
theorem dX9_emit_16 : decode cX9_emit 16 = .ok (.aload_n 0, 1) := by decide +kernel
theorem dX9_emit_17 : decode cX9_emit 17 = .ok (.getfield 41, 3) := by decide +kernel
theorem dX9_emit_20 : decode cX9_emit 20 = .ok (.iload_n 1, 1) := by decide +kernel
theorem dX9_emit_21 : decode cX9_emit 21 = .ok (.iastore, 1) := by decide +kernel
theorem dX9_emit_22 : decode cX9_emit 22 = .ok (.aload_n 0, 1) := by decide +kernel
theorem dX9_emit_23 : decode cX9_emit 23 = .ok (.getfield 30, 3) := by decide +kernel
theorem dX9_emit_26 : decode cX9_emit 26 = .ok (.aload_n 0, 1) := by decide +kernel
theorem dX9_emit_27 : decode cX9_emit 27 = .ok (.getfield 41, 3) := by decide +kernel
theorem dX9_emit_30 : decode cX9_emit 30 = .ok (.iload_n 2, 1) := by decide +kernel
theorem dX9_emit_31 : decode cX9_emit 31 = .ok (.iastore, 1) := by decide +kernel
theorem dX9_emit_32 : decode cX9_emit 32 = .ok (.aload_n 0, 1) := by decide +kernel
theorem dX9_emit_33 : decode cX9_emit 33 = .ok (.dup, 1) := by decide +kernel
theorem dX9_emit_34 : decode cX9_emit 34 = .ok (.getfield 41, 3) := by decide +kernel
theorem dX9_emit_37 : decode cX9_emit 37 = .ok (.iconst 1, 1) := by decide +kernel
theorem dX9_emit_38 : decode cX9_emit 38 = .ok (.iadd, 1) := by decide +kernel
theorem dX9_emit_39 : decode cX9_emit 39 = .ok (.putfield 41, 3) := by decide +kernel
theorem dX9_emit_42 : decode cX9_emit 42 = .ok (.aload_n 0, 1) := by decide +kernel
theorem dX9_emit_43 : decode cX9_emit 43 = .ok (.getfield 41, 3) := by decide +kernel
theorem dX9_emit_46 : decode cX9_emit 46 = .ok (.iconst 1, 1) := by decide +kernel
theorem dX9_emit_47 : decode cX9_emit 47 = .ok (.isub, 1) := by decide +kernel
theorem dX9_emit_48 : decode cX9_emit 48 = .ok (.ireturn, 1) := by decide +kernel
set_option maxRecDepth 20000 in
theorem rX9_emit_0 {E : EN} (hE : Ep E) {k : Nat} {mem : Mm} {Q : Int → Mm → Prop} {y p0 p1 : Int} (hy : isTx y)
    (h : (((mem y 8) < 400 → (0 ≤ (mem y 8) ∧ (mem y 8) < 400) ∧ (R32 ((mem y 8) + 1)) ∧ (R32 (((mem y 8) + 1) - 1)) ∧ Q (((mem y 8) + 1) - 1) (aUp (aUp (aUp mem (y + 6) (mem y 8) p0) (y + 7) (mem y 8) p1) y 8 ((mem y 8) + 1))) ∧ (400 ≤ (mem y 8) → Q (-1) mem))) :
    VM E mX9_emit k mem 0 [(0, aR y), (1, aI p0), (2, aI p1)] [] (retI Q) := by
  refine v_aload_n (pc := 0) dX9_emit_0 0 rfl ?_
  refine m_getf (pc := 1) (t := 0) (v := (mem y 8)) dX9_emit_1 flX9_41 rfl (tx0 hy) rfl ?_
  refine v_sipush (pc := 4) dX9_emit_4 (by decide) ?_
  refine v_icmplt (pc := 7) (tgt := 12) dX9_emit_7 (by decide) (fun c1 => ?_) (fun c1 => ?_)
  · have h := h.1 c1
    refine v_aload_n (pc := 12) dX9_emit_12 0 rfl ?_
    refine m_getfin (pc := 13) (v := (y + 6)) hE dX9_emit_13 flX9_27 rfl (tx0 hy) rfl ?_
    refine v_aload_n (pc := 16) dX9_emit_16 0 rfl ?_
    refine m_getf (pc := 17) (t := 0) (v := (mem y 8)) dX9_emit_17 flX9_41 rfl (tx0 hy) rfl ?_
    refine v_iload_n (pc := 20) dX9_emit_20 1 rfl ?_
    obtain ⟨o1, h⟩ := h
    refine v_iast (pc := 21) dX9_emit_21 (tx6 hy) o1.1 o1.2 ?_
    refine v_aload_n (pc := 22) dX9_emit_22 0 rfl ?_
    refine m_getfin (pc := 23) (v := (y + 7)) hE dX9_emit_23 flX9_30 rfl (tx0 hy) rfl ?_
    refine v_aload_n (pc := 26) dX9_emit_26 0 rfl ?_
    refine m_getf (pc := 27) (t := 0) (v := (mem y 8)) dX9_emit_27 flX9_41 rfl (tx0 hy) (aUp_rn (by omega)) ?_
    refine v_iload_n (pc := 30) dX9_emit_30 2 rfl ?_
    refine v_iast (pc := 31) dX9_emit_31 (tx7 hy) o1.1 o1.2 ?_
    refine v_aload_n (pc := 32) dX9_emit_32 0 rfl ?_
    refine v_dup (pc := 33) dX9_emit_33 rfl ?_
    refine m_getf (pc := 34) (t := 0) (v := (mem y 8)) dX9_emit_34 flX9_41 rfl (tx0 hy) ((aUp_rn (by omega)).trans (aUp_rn (by omega))) ?_
    refine v_iconst (pc := 37) dX9_emit_37 (by decide) ?_
    obtain ⟨o2, h⟩ := h
    refine m_iadd (pc := 38) dX9_emit_38 o2 ?_
    refine v_putf (pc := 39) dX9_emit_39 flX9_41 ⟨_, _, rfl, Or.inl rfl⟩ rfl (by decide) (fun q => nomatch q) (Or.inl fun _ => rfl) (tx0 hy) ?_
    refine v_aload_n (pc := 42) dX9_emit_42 0 rfl ?_
    refine m_getf (pc := 43) (t := 0) (v := ((mem y 8) + 1)) dX9_emit_43 flX9_41 rfl (tx0 hy) (aUp_re) ?_
    refine v_iconst (pc := 46) dX9_emit_46 (by decide) ?_
    obtain ⟨o3, h⟩ := h
    refine m_isub (pc := 47) dX9_emit_47 o3 ?_
    exact m_retI (pc := 48) dX9_emit_48 rfl h
  · have h := h.2 c1
    refine v_iconst (pc := 10) dX9_emit_10 (by decide) ?_
    exact m_retI (pc := 11) dX9_emit_11 rfl h
theorem eX9_emit {E : EN} {k : Nat} {mem : Mm} {Q : Int → Mm → Prop} {y p0 p1 : Int} (hr_p0 : R32 p0) (hr_p1 : R32 p1) (h : VM E mX9_emit k mem 0 [(0, aR y), (1, aI p0), (2, aI p1)] [] (retI Q)) : CI E mX9_emit k mem [aR y, aI p0, aI p1] Q := CI_of rfl (Nat.le_of_ble_eq_true rfl) h (aNs_c (aNr_R _) (aNs_c (aNr_I hr_p0) (aNs_c (aNr_I hr_p1) (fun _ q => nomatch q))))

theorem dX9_land_0 : decode cX9_land 0 = .ok (.iload_n 1, 1) := by decide +kernel
theorem dX9_land_1 : decode cX9_land 1 = .ok (.ifCond .lt 20, 3) := by decide +kernel
theorem dX9_land_4 : decode cX9_land 4 = .ok (.iload_n 1, 1) := by decide +kernel
theorem dX9_land_5 : decode cX9_land 5 = .ok (.sipush 400, 3) := by decide +kernel
theorem dX9_land_8 : decode cX9_land 8 = .ok (.if_icmp .ge 13, 3) := by decide +kernel
theorem dX9_land_11 : decode cX9_land 11 = .ok (.aload_n 0, 1) := by decide +kernel
theorem dX9_land_12 : decode cX9_land 12 = .ok (.getfield 30, 3) := by decide +kernel
theorem dX9_land_15 : decode cX9_land 15 = .ok (.iload_n 1, 1) := by decide +kernel
theorem dX9_land_16 : decode cX9_land 16 = .ok (.aload_n 0, 1) := by decide +kernel
theorem dX9_land_17 : decode cX9_land 17 = .ok (.getfield 41, 3) := by decide +kernel
theorem dX9_land_20 : decode cX9_land 20 = .ok (.iastore, 1) := by decide +kernel
theorem dX9_land_21 : decode cX9_land 21 = .ok (.return_, 1) := by decide +kernel
set_option maxRecDepth 20000 in
theorem rX9_land_0 {E : EN} (hE : Ep E) {k : Nat} {mem : Mm} {Q : Mm → Prop} {y p0 : Int} (hy : isTx y)
    (h : ((p0 < 0 → Q mem) ∧ (0 ≤ p0 → ((400 ≤ p0 → Q mem) ∧ (p0 < 400 → (0 ≤ p0 ∧ p0 < 400) ∧ Q (aUp mem (y + 7) p0 (mem y 8))))))) :
    VM E mX9_land k mem 0 [(0, aR y), (1, aI p0)] [] (retV Q) := by
  refine v_iload_n (pc := 0) dX9_land_0 1 rfl ?_
  refine v_iflt (pc := 1) (tgt := 21) dX9_land_1 (by decide) (fun c1 => ?_) (fun c1 => ?_)
  · have h := h.1 c1
    exact m_retV (pc := 21) dX9_land_21 rfl h
  · have h := h.2 c1
    refine v_iload_n (pc := 4) dX9_land_4 1 rfl ?_
    refine v_sipush (pc := 5) dX9_land_5 (by decide) ?_
    refine v_icmpge (pc := 8) (tgt := 21) dX9_land_8 (by decide) (fun c1 => ?_) (fun c1 => ?_)
    · have h := h.1 c1
      exact m_retV (pc := 21) dX9_land_21 rfl h
    · have h := h.2 c1
      refine v_aload_n (pc := 11) dX9_land_11 0 rfl ?_
      refine m_getfin (pc := 12) (v := (y + 7)) hE dX9_land_12 flX9_30 rfl (tx0 hy) rfl ?_
      refine v_iload_n (pc := 15) dX9_land_15 1 rfl ?_
      refine v_aload_n (pc := 16) dX9_land_16 0 rfl ?_
      refine m_getf (pc := 17) (t := 0) (v := (mem y 8)) dX9_land_17 flX9_41 rfl (tx0 hy) rfl ?_
      obtain ⟨o1, h⟩ := h
      refine v_iast (pc := 20) dX9_land_20 (tx7 hy) o1.1 o1.2 ?_
      exact m_retV (pc := 21) dX9_land_21 rfl h
theorem eX9_land {E : EN} {k : Nat} {mem : Mm} {Q : Mm → Prop} {y p0 : Int} (hr_p0 : R32 p0) (h : VM E mX9_land k mem 0 [(0, aR y), (1, aI p0)] [] (retV Q)) : CV E mX9_land k mem [aR y, aI p0] Q := CV_of rfl (Nat.le_of_ble_eq_true rfl) h (aNs_c (aNr_R _) (aNs_c (aNr_I hr_p0) (fun _ q => nomatch q)))

theorem dX9_has_0 : decode cX9_has 0 = .ok (.iconst 0, 1) := by decide +kernel
theorem dX9_has_1 : decode cX9_has 1 = .ok (.istore_n 2, 1) := by decide +kernel
theorem dX9_has_2 : decode cX9_has 2 = .ok (.iload_n 2, 1) := by decide +kernel
theorem dX9_has_3 : decode cX9_has 3 = .ok (.aload_n 0, 1) := by decide +kernel
theorem dX9_has_4 : decode cX9_has 4 = .ok (.getfield 37, 3) := by decide +kernel
theorem dX9_has_7 : decode cX9_has 7 = .ok (.if_icmp .ge 27, 3) := by decide +kernel
theorem dX9_has_10 : decode cX9_has 10 = .ok (.iload_n 2, 1) := by decide +kernel
theorem dX9_has_11 : decode cX9_has 11 = .ok (.bipush 12, 2) := by decide +kernel
theorem dX9_has_13 : decode cX9_has 13 = .ok (.if_icmp .ge 21, 3) := by decide +kernel
theorem dX9_has_16 : decode cX9_has 16 = .ok (.aload_n 0, 1) := by decide +kernel
theorem dX9_has_17 : decode cX9_has 17 = .ok (.getfield 9, 3) := by decide +kernel
theorem dX9_has_20 : decode cX9_has 20 = .ok (.iload_n 2, 1) := by decide +kernel
theorem dX9_has_21 : decode cX9_has 21 = .ok (.iaload, 1) := by decide +kernel
theorem dX9_has_22 : decode cX9_has 22 = .ok (.iload_n 1, 1) := by decide +kernel
theorem dX9_has_23 : decode cX9_has 23 = .ok (.if_icmp .ne 5, 3) := by decide +kernel
theorem dX9_has_26 : decode cX9_has 26 = .ok (.iconst 1, 1) := by decide +kernel
theorem dX9_has_27 : decode cX9_has 27 = .ok (.ireturn, 1) := by decide +kernel
theorem dX9_has_28 : decode cX9_has 28 = .ok (.iinc 2 1, 3) := by decide +kernel
theorem dX9_has_31 : decode cX9_has 31 = .ok (.goto (-29), 3) := by decide +kernel
theorem dX9_has_34 : decode cX9_has 34 = .ok (.iconst 0, 1) := by decide +kernel
theorem dX9_has_35 : decode cX9_has 35 = .ok (.ireturn, 1) := by decide +kernel
set_option maxRecDepth 20000 in
theorem rX9_has_0 {E : EN} (hE : Ep E) {k : Nat} {mem : Mm} {Q : Int → Mm → Prop} {y p0 : Int} (hy : isTx y)
    (h : VM E mX9_has k mem 2 [(0, aR y), (1, aI p0), (2, aI 0)] [] (retI Q)) :
    VM E mX9_has k mem 0 [(0, aR y), (1, aI p0)] [] (retI Q) := by
  refine v_iconst (pc := 0) dX9_has_0 (by decide) ?_
  refine v_istore_n (pc := 1) (al2 := [(2, aI 0), (0, aR y), (1, aI p0)]) dX9_has_1 (by decide) rfl ?_
  exact VG_sub (al' := [(0, aR y), (1, aI p0), (2, aI 0)]) [1, 2, 0] rfl h
theorem eX9_has {E : EN} {k : Nat} {mem : Mm} {Q : Int → Mm → Prop} {y p0 : Int} (hr_p0 : R32 p0) (h : VM E mX9_has k mem 0 [(0, aR y), (1, aI p0)] [] (retI Q)) : CI E mX9_has k mem [aR y, aI p0] Q := CI_of rfl (Nat.le_of_ble_eq_true rfl) h (aNs_c (aNr_R _) (aNs_c (aNr_I hr_p0) (fun _ q => nomatch q)))
set_option maxRecDepth 20000 in
theorem rX9_has_2 {E : EN} (hE : Ep E) {k : Nat} {mem : Mm} {Q : Int → Mm → Prop} {y p0 x2 : Int} (hy : isTx y)
    (h : (((mem y 0) ≤ x2 → Q 0 mem) ∧ (x2 < (mem y 0) → ((12 ≤ x2 → Q 0 mem) ∧ (x2 < 12 → (0 ≤ x2 ∧ x2 < 12) ∧ ((¬ (mem (y + 1) x2) = p0 → (R32 (x2 + 1)) ∧ VM E mX9_has k mem 2 [(0, aR y), (1, aI p0), (2, aI (x2 + 1))] [] (retI Q)) ∧ ((mem (y + 1) x2) = p0 → Q 1 mem))))))) :
    VM E mX9_has k mem 2 [(0, aR y), (1, aI p0), (2, aI x2)] [] (retI Q) := by
  refine v_iload_n (pc := 2) dX9_has_2 2 rfl ?_
  refine v_aload_n (pc := 3) dX9_has_3 0 rfl ?_
  refine m_getf (pc := 4) (t := 0) (v := (mem y 0)) dX9_has_4 flX9_37 rfl (tx0 hy) rfl ?_
  refine v_icmpge (pc := 7) (tgt := 34) dX9_has_7 (by decide) (fun c1 => ?_) (fun c1 => ?_)
  · have h := h.1 c1
    refine v_iconst (pc := 34) dX9_has_34 (by decide) ?_
    exact m_retZ (pc := 35) dX9_has_35 rfl (by decide) h
  · have h := h.2 c1
    refine v_iload_n (pc := 10) dX9_has_10 2 rfl ?_
    refine v_bipush (pc := 11) dX9_has_11 (by decide) ?_
    refine v_icmpge (pc := 13) (tgt := 34) dX9_has_13 (by decide) (fun c1 => ?_) (fun c1 => ?_)
    · have h := h.1 c1
      refine v_iconst (pc := 34) dX9_has_34 (by decide) ?_
      exact m_retZ (pc := 35) dX9_has_35 rfl (by decide) h
    · have h := h.2 c1
      refine v_aload_n (pc := 16) dX9_has_16 0 rfl ?_
      refine m_getfin (pc := 17) (v := (y + 1)) hE dX9_has_17 flX9_9 rfl (tx0 hy) rfl ?_
      refine v_iload_n (pc := 20) dX9_has_20 2 rfl ?_
      obtain ⟨o1, h⟩ := h
      refine m_iald (pc := 21) (v := (mem (y + 1) x2)) dX9_has_21 (tx1 hy) o1.1 o1.2 rfl ?_
      refine v_iload_n (pc := 22) dX9_has_22 1 rfl ?_
      refine v_icmpne (pc := 23) (tgt := 28) dX9_has_23 (by decide) (fun c1 => ?_) (fun c1 => ?_)
      · have h := h.1 c1
        obtain ⟨o2, h⟩ := h
        refine m_iinc (pc := 28) (al2 := [(2, aI (x2 + 1)), (0, aR y), (1, aI p0)]) dX9_has_28 2 rfl (by decide) o2 rfl ?_
        refine v_goto (pc := 31) (tgt := 2) dX9_has_31 (by decide) ?_
        exact VG_sub (al' := [(0, aR y), (1, aI p0), (2, aI (x2 + 1))]) [1, 2, 0] rfl h
      · have h := h.2 c1
        refine v_iconst (pc := 26) dX9_has_26 (by decide) ?_
        exact m_retZ (pc := 27) dX9_has_27 rfl (by decide) h

theorem dX9_holds_0 : decode cX9_holds 0 = .ok (.iconst 0, 1) := by decide +kernel
theorem dX9_holds_1 : decode cX9_holds 1 = .ok (.istore_n 3, 1) := by decide +kernel
theorem dX9_holds_2 : decode cX9_holds 2 = .ok (.iload_n 3, 1) := by decide +kernel
theorem dX9_holds_3 : decode cX9_holds 3 = .ok (.aload_n 0, 1) := by decide +kernel
theorem dX9_holds_4 : decode cX9_holds 4 = .ok (.getfield 37, 3) := by decide +kernel
theorem dX9_holds_7 : decode cX9_holds 7 = .ok (.if_icmp .ge 42, 3) := by decide +kernel
theorem dX9_holds_10 : decode cX9_holds 10 = .ok (.iload_n 3, 1) := by decide +kernel
theorem dX9_holds_11 : decode cX9_holds 11 = .ok (.bipush 12, 2) := by decide +kernel
theorem dX9_holds_13 : decode cX9_holds 13 = .ok (.if_icmp .ge 36, 3) := by decide +kernel
theorem dX9_holds_16 : decode cX9_holds 16 = .ok (.aload_n 0, 1) := by decide +kernel
theorem dX9_holds_17 : decode cX9_holds 17 = .ok (.getfield 9, 3) := by decide +kernel
theorem dX9_holds_20 : decode cX9_holds 20 = .ok (.iload_n 3, 1) := by decide +kernel
theorem dX9_holds_21 : decode cX9_holds 21 = .ok (.iaload, 1) := by decide +kernel
theorem dX9_holds_22 : decode cX9_holds 22 = .ok (.iload_n 1, 1) := by decide +kernel
theorem dX9_holds_23 : decode cX9_holds 23 = .ok (.if_icmp .ne 20, 3) := by decide +kernel
theorem dX9_holds_26 : decode cX9_holds 26 = .ok (.aload_n 0, 1) := by decide +kernel
theorem dX9_holds_27 : decode cX9_holds 27 = .ok (.aload_n 0, 1) := by decide +kernel
theorem dX9_holds_28 : decode cX9_holds 28 = .ok (.getfield 24, 3) := by decide +kernel
theorem dX9_holds_31 : decode cX9_holds 31 = .ok (.iload_n 3, 1) := by decide +kernel
theorem dX9_holds_32 : decode cX9_holds 32 = .ok (.iaload, 1) := by decide +kernel
theorem dX9_holds_33 : decode cX9_holds 33 = .ok (.aload_n 2, 1) := by decide +kernel
theorem dX9_holds_34 : decode cX9_holds 34 = .ok (.invokevirtual 50, 3) := by decide +kernel
theorem dX9_holds_37 : decode cX9_holds 37 = .ok (.iconst 1, 1) := by decide +kernel
theorem dX9_holds_38 : decode cX9_holds 38 = .ok (.if_icmp .ne 5, 3) := by decide +kernel
theorem dX9_holds_41 : decode cX9_holds 41 = .ok (.iconst 1, 1) := by decide +kernel
theorem dX9_holds_42 : decode cX9_holds 42 = .ok (.ireturn, 1) := by decide +kernel
theorem dX9_holds_43 : decode cX9_holds 43 = .ok (.iinc 3 1, 3) := by decide +kernel
theorem dX9_holds_46 : decode cX9_holds 46 = .ok (.goto (-44), 3) := by decide +kernel
theorem dX9_holds_49 : decode cX9_holds 49 = .ok (.iconst 0, 1) := by decide +kernel
theorem dX9_holds_50 : decode cX9_holds 50 = .ok (.ireturn, 1) := by decide +kernel
set_option maxRecDepth 20000 in
theorem rX9_holds_0 {E : EN} (hE : Ep E) {k : Nat} {mem : Mm} {Q : Int → Mm → Prop} {y p0 p1 : Int} (hy : isTx y) {np1 : Nat} (hp1 : aSh SH p1 13 np1)
    (h : VM E mX9_holds (k + 1) mem 2 [(0, aR y), (1, aI p0), (2, aR p1), (3, aI 0)] [] (retI Q)) :
    VM E mX9_holds (k + 1) mem 0 [(0, aR y), (1, aI p0), (2, aR p1)] [] (retI Q) := by
  refine v_iconst (pc := 0) dX9_holds_0 (by decide) ?_
  refine v_istore_n (pc := 1) (al2 := [(3, aI 0), (0, aR y), (1, aI p0), (2, aR p1)]) dX9_holds_1 (by decide) rfl ?_
  exact VG_sub (al' := [(0, aR y), (1, aI p0), (2, aR p1), (3, aI 0)]) [1, 2, 3, 0] rfl h
theorem eX9_holds {E : EN} {k : Nat} {mem : Mm} {Q : Int → Mm → Prop} {y p0 p1 : Int} (hr_p0 : R32 p0) (h : VM E mX9_holds (k + 1) mem 0 [(0, aR y), (1, aI p0), (2, aR p1)] [] (retI Q)) : CI E mX9_holds (k + 1) mem [aR y, aI p0, aR p1] Q := CI_of rfl (Nat.le_of_ble_eq_true rfl) h (aNs_c (aNr_R _) (aNs_c (aNr_I hr_p0) (aNs_c (aNr_R _) (fun _ q => nomatch q))))
set_option maxRecDepth 20000 in
theorem rX9_holds_2 {E : EN} (hE : Ep E) {k : Nat} {mem : Mm} {Q : Int → Mm → Prop} {y p0 p1 x3 : Int} (hy : isTx y) {np1 : Nat} (hp1 : aSh SH p1 13 np1)
    (h : (((mem y 0) ≤ x3 → Q 0 mem) ∧ (x3 < (mem y 0) → ((12 ≤ x3 → Q 0 mem) ∧ (x3 < 12 → (0 ≤ x3 ∧ x3 < 12) ∧ ((¬ (mem (y + 1) x3) = p0 → (R32 (x3 + 1)) ∧ VM E mX9_holds (k + 1) mem 2 [(0, aR y), (1, aI p0), (2, aR p1), (3, aI (x3 + 1))] [] (retI Q)) ∧ ((mem (y + 1) x3) = p0 → (R32 (mem (y + 5) x3) → CI E mX9_value k mem [aR y, aI (mem (y + 5) x3), aR p1] (fun r4 m3 => ((¬ r4 = 1 → (R32 (x3 + 1)) ∧ VM E mX9_holds (k + 1) m3 2 [(0, aR y), (1, aI p0), (2, aR p1), (3, aI (x3 + 1))] [] (retI Q)) ∧ (r4 = 1 → Q 1 m3))))))))))) :
    VM E mX9_holds (k + 1) mem 2 [(0, aR y), (1, aI p0), (2, aR p1), (3, aI x3)] [] (retI Q) := by
  refine v_iload_n (pc := 2) dX9_holds_2 3 rfl ?_
  refine v_aload_n (pc := 3) dX9_holds_3 0 rfl ?_
  refine m_getf (pc := 4) (t := 0) (v := (mem y 0)) dX9_holds_4 flX9_37 rfl (tx0 hy) rfl ?_
  refine v_icmpge (pc := 7) (tgt := 49) dX9_holds_7 (by decide) (fun c1 => ?_) (fun c1 => ?_)
  · have h := h.1 c1
    refine v_iconst (pc := 49) dX9_holds_49 (by decide) ?_
    exact m_retZ (pc := 50) dX9_holds_50 rfl (by decide) h
  · have h := h.2 c1
    refine v_iload_n (pc := 10) dX9_holds_10 3 rfl ?_
    refine v_bipush (pc := 11) dX9_holds_11 (by decide) ?_
    refine v_icmpge (pc := 13) (tgt := 49) dX9_holds_13 (by decide) (fun c1 => ?_) (fun c1 => ?_)
    · have h := h.1 c1
      refine v_iconst (pc := 49) dX9_holds_49 (by decide) ?_
      exact m_retZ (pc := 50) dX9_holds_50 rfl (by decide) h
    · have h := h.2 c1
      refine v_aload_n (pc := 16) dX9_holds_16 0 rfl ?_
      refine m_getfin (pc := 17) (v := (y + 1)) hE dX9_holds_17 flX9_9 rfl (tx0 hy) rfl ?_
      refine v_iload_n (pc := 20) dX9_holds_20 3 rfl ?_
      obtain ⟨o1, h⟩ := h
      refine m_iald (pc := 21) (v := (mem (y + 1) x3)) dX9_holds_21 (tx1 hy) o1.1 o1.2 rfl ?_
      refine v_iload_n (pc := 22) dX9_holds_22 1 rfl ?_
      refine v_icmpne (pc := 23) (tgt := 43) dX9_holds_23 (by decide) (fun c1 => ?_) (fun c1 => ?_)
      · have h := h.1 c1
        obtain ⟨o2, h⟩ := h
        refine m_iinc (pc := 43) (al2 := [(3, aI (x3 + 1)), (0, aR y), (1, aI p0), (2, aR p1)]) dX9_holds_43 3 rfl (by decide) o2 rfl ?_
        refine v_goto (pc := 46) (tgt := 2) dX9_holds_46 (by decide) ?_
        exact VG_sub (al' := [(0, aR y), (1, aI p0), (2, aR p1), (3, aI (x3 + 1))]) [1, 2, 3, 0] rfl h
      · have h := h.2 c1
        refine v_aload_n (pc := 26) dX9_holds_26 0 rfl ?_
        refine v_aload_n (pc := 27) dX9_holds_27 0 rfl ?_
        refine m_getfin (pc := 28) (v := (y + 5)) hE dX9_holds_28 flX9_24 rfl (tx0 hy) rfl ?_
        refine v_iload_n (pc := 31) dX9_holds_31 3 rfl ?_
        refine m_iald (pc := 32) (v := (mem (y + 5) x3)) dX9_holds_32 (tx5 hy) o1.1 o1.2 rfl ?_
        refine v_aload_n (pc := 33) dX9_holds_33 2 rfl ?_
        refine m_invI (pc := 34) (mi' := mX9_value) (rest := []) [aI (mem (y + 5) x3), aR p1] dX9_holds_34 (tx0 hy) (by decide) rfl msX9_value mvX9_value lkX9_50 rfl (Nat.le_of_ble_eq_true rfl) (fun hn => CI_mono (h (aaI hn 1 rfl)) (fun r4 m3 h => ?_))
        refine v_iconst (pc := 37) dX9_holds_37 (by decide) ?_
        refine v_icmpne (pc := 38) (tgt := 43) dX9_holds_38 (by decide) (fun c1 => ?_) (fun c1 => ?_)
        · have h := h.1 c1
          obtain ⟨o5, h⟩ := h
          refine m_iinc (pc := 43) (al2 := [(3, aI (x3 + 1)), (0, aR y), (1, aI p0), (2, aR p1)]) dX9_holds_43 3 rfl (by decide) o5 rfl ?_
          refine v_goto (pc := 46) (tgt := 2) dX9_holds_46 (by decide) ?_
          exact VG_sub (al' := [(0, aR y), (1, aI p0), (2, aR p1), (3, aI (x3 + 1))]) [1, 2, 3, 0] rfl h
        · have h := h.2 c1
          refine v_iconst (pc := 41) dX9_holds_41 (by decide) ?_
          exact m_retZ (pc := 42) dX9_holds_42 rfl (by decide) h

theorem dX9_last_0 : decode cX9_last 0 = .ok (.aload_n 0, 1) := by decide +kernel
theorem dX9_last_1 : decode cX9_last 1 = .ok (.getfield 37, 3) := by decide +kernel
theorem dX9_last_4 : decode cX9_last 4 = .ok (.bipush 12, 2) := by decide +kernel
theorem dX9_last_6 : decode cX9_last 6 = .ok (.invokestatic 54, 3) := by decide +kernel
theorem dX9_last_9 : decode cX9_last 9 = .ok (.iconst 1, 1) := by decide +kernel
theorem dX9_last_10 : decode cX9_last 10 = .ok (.isub, 1) := by decide +kernel
theorem dX9_last_11 : decode cX9_last 11 = .ok (.istore_n 3, 1) := by decide +kernel
theorem dX9_last_12 : decode cX9_last 12 = .ok (.iload_n 3, 1) := by decide +kernel
theorem dX9_last_13 : decode cX9_last 13 = .ok (.ifCond .lt 57, 3) := by decide +kernel
theorem dX9_last_16 : decode cX9_last 16 = .ok (.aload_n 0, 1) := by decide +kernel
theorem dX9_last_17 : decode cX9_last 17 = .ok (.getfield 9, 3) := by decide +kernel
theorem dX9_last_20 : decode cX9_last 20 = .ok (.iload_n 3, 1) := by decide +kernel
theorem dX9_last_21 : decode cX9_last 21 = .ok (.iaload, 1) := by decide +kernel
theorem dX9_last_22 : decode cX9_last 22 = .ok (.iload_n 1, 1) := by decide +kernel
theorem dX9_last_23 : decode cX9_last 23 = .ok (.if_icmp .ne 41, 3) := by decide +kernel
theorem dX9_last_26 : decode cX9_last 26 = .ok (.aload_n 0, 1) := by decide +kernel
theorem dX9_last_27 : decode cX9_last 27 = .ok (.aload_n 0, 1) := by decide +kernel
theorem dX9_last_28 : decode cX9_last 28 = .ok (.getfield 24, 3) := by decide +kernel
theorem dX9_last_31 : decode cX9_last 31 = .ok (.iload_n 3, 1) := by decide +kernel
theorem dX9_last_32 : decode cX9_last 32 = .ok (.iaload, 1) := by decide +kernel
theorem dX9_last_33 : decode cX9_last 33 = .ok (.aload_n 2, 1) := by decide +kernel
theorem dX9_last_34 : decode cX9_last 34 = .ok (.invokevirtual 50, 3) := by decide +kernel
theorem dX9_last_37 : decode cX9_last 37 = .ok (.iconst 1, 1) := by decide +kernel
theorem dX9_last_38 : decode cX9_last 38 = .ok (.if_icmp .ne 26, 3) := by decide +kernel
theorem dX9_last_41 : decode cX9_last 41 = .ok (.aload_n 0, 1) := by decide +kernel
theorem dX9_last_42 : decode cX9_last 42 = .ok (.aload_n 0, 1) := by decide +kernel
theorem dX9_last_43 : decode cX9_last 43 = .ok (.getfield 18, 3) := by decide +kernel
theorem dX9_last_46 : decode cX9_last 46 = .ok (.iload_n 3, 1) := by decide +kernel
theorem dX9_last_47 : decode cX9_last 47 = .ok (.iaload, 1) := by decide +kernel
theorem dX9_last_48 : decode cX9_last 48 = .ok (.aload_n 2, 1) := by decide +kernel
theorem dX9_last_49 : decode cX9_last 49 = .ok (.invokevirtual 50, 3) := by decide +kernel
theorem dX9_last_52 : decode cX9_last 52 = .ok (.istore 4, 2) := by decide +kernel
theorem dX9_last_54 : decode cX9_last 54 = .ok (.iload 4, 2) := by decide +kernel
theorem dX9_last_56 : decode cX9_last 56 = .ok (.ldc 60, 2) := by decide +kernel
theorem dX9_last_58 : decode cX9_last 58 = .ok (.if_icmp .eq 6, 3) := by decide +kernel
theorem dX9_last_61 : decode cX9_last 61 = .ok (.iload 4, 2) := by decide +kernel
theorem dX9_last_63 : decode cX9_last 63 = .ok (.ireturn, 1) := by decide +kernel
theorem dX9_last_64 : decode cX9_last 64 = .ok (.iinc 3 (-1), 3) := by decide +kernel
theorem dX9_last_67 : decode cX9_last 67 = .ok (.goto (-55), 3) := by decide +kernel
theorem dX9_last_70 : decode cX9_last 70 = .ok (.ldc 60, 2) := by decide +kernel
theorem dX9_last_72 : decode cX9_last 72 = .ok (.ireturn, 1) := by decide +kernel
set_option maxRecDepth 20000 in
theorem rX9_last_0 {E : EN} (hE : Ep E) {k : Nat} {mem : Mm} {Q : Int → Mm → Prop} {y p0 p1 : Int} (hy : isTx y) {np1 : Nat} (hp1 : aSh SH p1 13 np1)
    (h : (R32 ((min (mem y 0) 12) - 1)) ∧ VM E mX9_last (k + 1) mem 12 [(0, aR y), (1, aI p0), (2, aR p1), (3, aI ((min (mem y 0) 12) - 1))] [] (retI Q)) :
    VM E mX9_last (k + 1) mem 0 [(0, aR y), (1, aI p0), (2, aR p1)] [] (retI Q) := by
  refine v_aload_n (pc := 0) dX9_last_0 0 rfl ?_
  refine m_getf (pc := 1) (t := 0) (v := (mem y 0)) dX9_last_1 flX9_37 rfl (tx0 hy) rfl ?_
  refine v_bipush (pc := 4) dX9_last_4 (by decide) ?_
  refine m_mmin (pc := 6) dX9_last_6 lmX9_54 sM_min iM cM_min (Nat.le_of_ble_eq_true rfl) ?_
  refine v_iconst (pc := 9) dX9_last_9 (by decide) ?_
  obtain ⟨o1, h⟩ := h
  refine m_isub (pc := 10) dX9_last_10 o1 ?_
  refine v_istore_n (pc := 11) (al2 := [(3, aI ((min (mem y 0) 12) - 1)), (0, aR y), (1, aI p0), (2, aR p1)]) dX9_last_11 (by decide) rfl ?_
  exact VG_sub (al' := [(0, aR y), (1, aI p0), (2, aR p1), (3, aI ((min (mem y 0) 12) - 1))]) [1, 2, 3, 0] rfl h
theorem eX9_last {E : EN} {k : Nat} {mem : Mm} {Q : Int → Mm → Prop} {y p0 p1 : Int} (hr_p0 : R32 p0) (h : VM E mX9_last (k + 1) mem 0 [(0, aR y), (1, aI p0), (2, aR p1)] [] (retI Q)) : CI E mX9_last (k + 1) mem [aR y, aI p0, aR p1] Q := CI_of rfl (Nat.le_of_ble_eq_true rfl) h (aNs_c (aNr_R _) (aNs_c (aNr_I hr_p0) (aNs_c (aNr_R _) (fun _ q => nomatch q))))
set_option maxRecDepth 20000 in
theorem rX9_last_12 {E : EN} (hE : Ep E) {k : Nat} {mem : Mm} {Q : Int → Mm → Prop} {y p0 p1 x3 : Int} (hy : isTx y) {np1 : Nat} (hp1 : aSh SH p1 13 np1)
    (h : ((x3 < 0 → Q (-2147483648) mem) ∧ (0 ≤ x3 → (0 ≤ x3 ∧ x3 < 12) ∧ ((¬ (mem (y + 1) x3) = p0 → (R32 (x3 + (-1))) ∧ VM E mX9_last (k + 1) mem 12 [(0, aR y), (1, aI p0), (2, aR p1), (3, aI (x3 + (-1)))] [] (retI Q)) ∧ ((mem (y + 1) x3) = p0 → (R32 (mem (y + 5) x3) → CI E mX9_value k mem [aR y, aI (mem (y + 5) x3), aR p1] (fun r4 m3 => ((¬ r4 = 1 → (R32 (x3 + (-1))) ∧ VM E mX9_last (k + 1) m3 12 [(0, aR y), (1, aI p0), (2, aR p1), (3, aI (x3 + (-1)))] [] (retI Q)) ∧ (r4 = 1 → (R32 (m3 (y + 3) x3) → CI E mX9_value k m3 [aR y, aI (m3 (y + 3) x3), aR p1] (fun r7 m6 => ((r7 = (-2147483648) → (R32 (x3 + (-1))) ∧ VM E mX9_last (k + 1) m6 12 [(0, aR y), (1, aI p0), (2, aR p1), (3, aI (x3 + (-1)))] [] (retI Q)) ∧ (¬ r7 = (-2147483648) → Q r7 m6))))))))))))) :
    VM E mX9_last (k + 1) mem 12 [(0, aR y), (1, aI p0), (2, aR p1), (3, aI x3)] [] (retI Q) := by
  refine v_iload_n (pc := 12) dX9_last_12 3 rfl ?_
  refine v_iflt (pc := 13) (tgt := 70) dX9_last_13 (by decide) (fun c1 => ?_) (fun c1 => ?_)
  · have h := h.1 c1
    refine v_ldc (pc := 70) (n := (-2147483648)) dX9_last_70 cnX9_60 (by decide) ?_
    exact m_retI (pc := 72) dX9_last_72 rfl h
  · have h := h.2 c1
    refine v_aload_n (pc := 16) dX9_last_16 0 rfl ?_
    refine m_getfin (pc := 17) (v := (y + 1)) hE dX9_last_17 flX9_9 rfl (tx0 hy) rfl ?_
    refine v_iload_n (pc := 20) dX9_last_20 3 rfl ?_
    obtain ⟨o1, h⟩ := h
    refine m_iald (pc := 21) (v := (mem (y + 1) x3)) dX9_last_21 (tx1 hy) o1.1 o1.2 rfl ?_
    refine v_iload_n (pc := 22) dX9_last_22 1 rfl ?_
    refine v_icmpne (pc := 23) (tgt := 64) dX9_last_23 (by decide) (fun c1 => ?_) (fun c1 => ?_)
    · have h := h.1 c1
      obtain ⟨o2, h⟩ := h
      refine m_iinc (pc := 64) (al2 := [(3, aI (x3 + (-1))), (0, aR y), (1, aI p0), (2, aR p1)]) dX9_last_64 3 rfl (by decide) o2 rfl ?_
      refine v_goto (pc := 67) (tgt := 12) dX9_last_67 (by decide) ?_
      exact VG_sub (al' := [(0, aR y), (1, aI p0), (2, aR p1), (3, aI (x3 + (-1)))]) [1, 2, 3, 0] rfl h
    · have h := h.2 c1
      refine v_aload_n (pc := 26) dX9_last_26 0 rfl ?_
      refine v_aload_n (pc := 27) dX9_last_27 0 rfl ?_
      refine m_getfin (pc := 28) (v := (y + 5)) hE dX9_last_28 flX9_24 rfl (tx0 hy) rfl ?_
      refine v_iload_n (pc := 31) dX9_last_31 3 rfl ?_
      refine m_iald (pc := 32) (v := (mem (y + 5) x3)) dX9_last_32 (tx5 hy) o1.1 o1.2 rfl ?_
      refine v_aload_n (pc := 33) dX9_last_33 2 rfl ?_
      refine m_invI (pc := 34) (mi' := mX9_value) (rest := []) [aI (mem (y + 5) x3), aR p1] dX9_last_34 (tx0 hy) (by decide) rfl msX9_value mvX9_value lkX9_50 rfl (Nat.le_of_ble_eq_true rfl) (fun hn => CI_mono (h (aaI hn 1 rfl)) (fun r4 m3 h => ?_))
      refine v_iconst (pc := 37) dX9_last_37 (by decide) ?_
      refine v_icmpne (pc := 38) (tgt := 64) dX9_last_38 (by decide) (fun c1 => ?_) (fun c1 => ?_)
      · have h := h.1 c1
        obtain ⟨o5, h⟩ := h
        refine m_iinc (pc := 64) (al2 := [(3, aI (x3 + (-1))), (0, aR y), (1, aI p0), (2, aR p1)]) dX9_last_64 3 rfl (by decide) o5 rfl ?_
        refine v_goto (pc := 67) (tgt := 12) dX9_last_67 (by decide) ?_
        exact VG_sub (al' := [(0, aR y), (1, aI p0), (2, aR p1), (3, aI (x3 + (-1)))]) [1, 2, 3, 0] rfl h
      · have h := h.2 c1
        refine v_aload_n (pc := 41) dX9_last_41 0 rfl ?_
        refine v_aload_n (pc := 42) dX9_last_42 0 rfl ?_
        refine m_getfin (pc := 43) (v := (y + 3)) hE dX9_last_43 flX9_18 rfl (tx0 hy) rfl ?_
        refine v_iload_n (pc := 46) dX9_last_46 3 rfl ?_
        refine m_iald (pc := 47) (v := (m3 (y + 3) x3)) dX9_last_47 (tx3 hy) o1.1 o1.2 rfl ?_
        refine v_aload_n (pc := 48) dX9_last_48 2 rfl ?_
        refine m_invI (pc := 49) (mi' := mX9_value) (rest := []) [aI (m3 (y + 3) x3), aR p1] dX9_last_49 (tx0 hy) (by decide) rfl msX9_value mvX9_value lkX9_50 rfl (Nat.le_of_ble_eq_true rfl) (fun hn => CI_mono (h (aaI hn 1 rfl)) (fun r7 m6 h => ?_))
        refine v_istore (pc := 52) (al2 := [(4, aI r7), (0, aR y), (1, aI p0), (2, aR p1), (3, aI x3)]) dX9_last_52 (by decide) rfl ?_
        refine v_iload (pc := 54) dX9_last_54 0 rfl ?_
        refine v_ldc (pc := 56) (n := (-2147483648)) dX9_last_56 cnX9_60 (by decide) ?_
        refine v_icmpeq (pc := 58) (tgt := 64) dX9_last_58 (by decide) (fun c1 => ?_) (fun c1 => ?_)
        · have h := h.1 c1
          obtain ⟨o8, h⟩ := h
          refine m_iinc (pc := 64) (al2 := [(3, aI (x3 + (-1))), (4, aI r7), (0, aR y), (1, aI p0), (2, aR p1)]) dX9_last_64 4 rfl (by decide) o8 rfl ?_
          refine v_goto (pc := 67) (tgt := 12) dX9_last_67 (by decide) ?_
          exact VG_sub (al' := [(0, aR y), (1, aI p0), (2, aR p1), (3, aI (x3 + (-1)))]) [2, 3, 4, 0] rfl h
        · have h := h.2 c1
          refine v_iload (pc := 61) dX9_last_61 0 rfl ?_
          exact m_retI (pc := 63) dX9_last_63 rfl h

theorem dX9_value_0 : decode cX9_value 0 = .ok (.iload_n 1, 1) := by decide +kernel
theorem dX9_value_1 : decode cX9_value 1 = .ok (.iconst (-1), 1) := by decide +kernel
theorem dX9_value_2 : decode cX9_value 2 = .ok (.if_icmp .ne 5, 3) := by decide +kernel
theorem dX9_value_5 : decode cX9_value 5 = .ok (.iconst 1, 1) := by decide +kernel
theorem dX9_value_6 : decode cX9_value 6 = .ok (.ireturn, 1) := by decide +kernel
theorem dX9_value_7 : decode cX9_value 7 = .ok (.iload_n 1, 1) := by decide +kernel
theorem dX9_value_8 : decode cX9_value 8 = .ok (.istore_n 3, 1) := by decide +kernel
theorem dX9_value_9 : decode cX9_value 9 = .ok (.iconst 0, 1) := by decide +kernel
theorem dX9_value_10 : decode cX9_value 10 = .ok (.istore 4, 2) := by decide +kernel
theorem dX9_value_12 : decode cX9_value 12 = .ok (.iconst 0, 1) := by decide +kernel
theorem dX9_value_13 : decode cX9_value 13 = .ok (.istore 5, 2) := by decide +kernel
theorem dX9_value_15 : decode cX9_value 15 = .ok (.iload 5, 2) := by decide +kernel
theorem dX9_value_17 : decode cX9_value 17 = .ok (.aload_n 0, 1) := by decide +kernel
theorem dX9_value_18 : decode cX9_value 18 = .ok (.getfield 41, 3) := by decide +kernel
theorem dX9_value_21 : decode cX9_value 21 = .ok (.if_icmp .ge 269, 3) := by decide +kernel
theorem dX9_value_24 : decode cX9_value 24 = .ok (.iload_n 3, 1) := by decide +kernel
theorem dX9_value_25 : decode cX9_value 25 = .ok (.ifCond .lt 265, 3) := by decide +kernel
theorem dX9_value_28 : decode cX9_value 28 = .ok (.iload_n 3, 1) := by decide +kernel
theorem dX9_value_29 : decode cX9_value 29 = .ok (.aload_n 0, 1) := by decide +kernel
theorem dX9_value_30 : decode cX9_value 30 = .ok (.getfield 41, 3) := by decide +kernel
theorem dX9_value_33 : decode cX9_value 33 = .ok (.if_icmp .ge 257, 3) := by decide +kernel
theorem dX9_value_36 : decode cX9_value 36 = .ok (.iload_n 3, 1) := by decide +kernel
theorem dX9_value_37 : decode cX9_value 37 = .ok (.sipush 400, 3) := by decide +kernel
theorem dX9_value_40 : decode cX9_value 40 = .ok (.if_icmp .ge 250, 3) := by decide +kernel
theorem dX9_value_43 : decode cX9_value 43 = .ok (.iload 4, 2) := by decide +kernel
theorem dX9_value_45 : decode cX9_value 45 = .ok (.bipush 40, 2) := by decide +kernel
theorem dX9_value_47 : decode cX9_value 47 = .ok (.if_icmp .ge 243, 3) := by decide +kernel
theorem dX9_value_50 : decode cX9_value 50 = .ok (.aload_n 0, 1) := by decide +kernel
theorem dX9_value_51 : decode cX9_value 51 = .ok (.getfield 27, 3) := by decide +kernel
theorem dX9_value_54 : decode cX9_value 54 = .ok (.iload_n 3, 1) := by decide +kernel
theorem dX9_value_55 : decode cX9_value 55 = .ok (.iaload, 1) := by decide +kernel
theorem dX9_value_56 : decode cX9_value 56 = .ok (.istore 6, 2) := by decide +kernel
theorem dX9_value_58 : decode cX9_value 58 = .ok (.aload_n 0, 1) := by decide +kernel
theorem dX9_value_59 : decode cX9_value 59 = .ok (.getfield 30, 3) := by decide +kernel
theorem dX9_value_62 : decode cX9_value 62 = .ok (.iload_n 3, 1) := by decide +kernel
theorem dX9_value_63 : decode cX9_value 63 = .ok (.iaload, 1) := by decide +kernel
theorem dX9_value_64 : decode cX9_value 64 = .ok (.istore 7, 2) := by decide +kernel
theorem dX9_value_66 : decode cX9_value 66 = .ok (.iinc 3 1, 3) := by decide +kernel
theorem dX9_value_69 : decode cX9_value 69 = .ok (.iload 6, 2) := by decide +kernel
theorem dX9_value_71 : decode cX9_value 71 = .ok (.ifCond .eq 21, 3) := by decide +kernel
theorem dX9_value_74 : decode cX9_value 74 = .ok (.iload 6, 2) := by decide +kernel
theorem dX9_value_76 : decode cX9_value 76 = .ok (.iconst 1, 1) := by decide +kernel
theorem dX9_value_77 : decode cX9_value 77 = .ok (.if_icmp .ne 44, 3) := by decide +kernel
theorem dX9_value_80 : decode cX9_value 80 = .ok (.iload 7, 2) := by decide +kernel
theorem dX9_value_82 : decode cX9_value 82 = .ok (.ifCond .lt 39, 3) := by decide +kernel
theorem dX9_value_85 : decode cX9_value 85 = .ok (.iload 7, 2) := by decide +kernel
theorem dX9_value_87 : decode cX9_value 87 = .ok (.aload_n 2, 1) := by decide +kernel
theorem dX9_value_88 : decode cX9_value 88 = .ok (.arraylength, 1) := by decide +kernel
theorem dX9_value_89 : decode cX9_value 89 = .ok (.if_icmp .ge 32, 3) := by decide +kernel
theorem dX9_value_92 : decode cX9_value 92 = .ok (.aload_n 0, 1) := by decide +kernel
theorem dX9_value_93 : decode cX9_value 93 = .ok (.getfield 33, 3) := by decide +kernel
theorem dX9_value_96 : decode cX9_value 96 = .ok (.iload 4, 2) := by decide +kernel
theorem dX9_value_98 : decode cX9_value 98 = .ok (.iload 6, 2) := by decide +kernel
theorem dX9_value_100 : decode cX9_value 100 = .ok (.ifCond .ne 9, 3) := by decide +kernel
theorem dX9_value_103 : decode cX9_value 103 = .ok (.iload 7, 2) := by decide +kernel
theorem dX9_value_105 : decode cX9_value 105 = .ok (.i2l, 1) := by decide +kernel
theorem dX9_value_106 : decode cX9_value 106 = .ok (.goto 8, 3) := by decide +kernel
theorem dX9_value_109 : decode cX9_value 109 = .ok (.aload_n 2, 1) := by decide +kernel
theorem dX9_value_110 : decode cX9_value 110 = .ok (.iload 7, 2) := by decide +kernel
theorem dX9_value_112 : decode cX9_value 112 = .ok (.iaload, 1) := by decide +kernel
theorem dX9_value_113 : decode cX9_value 113 = .ok (.i2l, 1) := by decide +kernel
theorem dX9_value_114 : decode cX9_value 114 = .ok (.lastore, 1) := by decide +kernel
theorem dX9_value_115 : decode cX9_value 115 = .ok (.iinc 4 1, 3) := by decide +kernel
theorem dX9_value_118 : decode cX9_value 118 = .ok (.goto 166, 3) := by decide +kernel
theorem dX9_value_121 : decode cX9_value 121 = .ok (.iload 4, 2) := by decide +kernel
theorem dX9_value_123 : decode cX9_value 123 = .ok (.iconst 1, 1) := by decide +kernel
theorem dX9_value_124 : decode cX9_value 124 = .ok (.if_icmp .lt 9, 3) := by decide +kernel
theorem dX9_value_127 : decode cX9_value 127 = .ok (.iload 6, 2) := by decide +kernel
theorem dX9_value_129 : decode cX9_value 129 = .ok (.iconst 5, 1) := by decide +kernel
theorem dX9_value_130 : decode cX9_value 130 = .ok (.if_icmp .ne 25, 3) := by decide +kernel
theorem dX9_value_133 : decode cX9_value 133 = .ok (.iload 4, 2) := by decide +kernel
theorem dX9_value_135 : decode cX9_value 135 = .ok (.iconst 1, 1) := by decide +kernel
theorem dX9_value_136 : decode cX9_value 136 = .ok (.if_icmp .ge 8, 3) := by decide +kernel
theorem dX9_value_139 : decode cX9_value 139 = .ok (.ldc 60, 2) := by decide +kernel
theorem dX9_value_141 : decode cX9_value 141 = .ok (.goto 13, 3) := by decide +kernel
theorem dX9_value_144 : decode cX9_value 144 = .ok (.aload_n 0, 1) := by decide +kernel
theorem dX9_value_145 : decode cX9_value 145 = .ok (.getfield 33, 3) := by decide +kernel
theorem dX9_value_148 : decode cX9_value 148 = .ok (.iload 4, 2) := by decide +kernel
theorem dX9_value_150 : decode cX9_value 150 = .ok (.iconst 1, 1) := by decide +kernel
theorem dX9_value_151 : decode cX9_value 151 = .ok (.isub, 1) := by decide +kernel
theorem dX9_value_152 : decode cX9_value 152 = .ok (.laload, 1) := by decide +kernel
theorem dX9_value_153 : decode cX9_value 153 = .ok (.l2i, 1) := by decide +kernel
theorem dX9_value_154 : decode cX9_value 154 = .ok (.ireturn, 1) := by decide +kernel
theorem dX9_value_155 : decode cX9_value 155 = .ok (.iload 6, 2) := by decide +kernel
theorem dX9_value_157 : decode cX9_value 157 = .ok (.iconst 2, 1) := by decide +kernel
theorem dX9_value_158 : decode cX9_value 158 = .ok (.if_icmp .ne 26, 3) := by decide +kernel
theorem dX9_value_161 : decode cX9_value 161 = .ok (.aload_n 0, 1) := by decide +kernel
theorem dX9_value_162 : decode cX9_value 162 = .ok (.getfield 33, 3) := by decide +kernel
theorem dX9_value_165 : decode cX9_value 165 = .ok (.iload 4, 2) := by decide +kernel
theorem dX9_value_167 : decode cX9_value 167 = .ok (.iconst 1, 1) := by decide +kernel
theorem dX9_value_168 : decode cX9_value 168 = .ok (.isub, 1) := by decide +kernel
theorem dX9_value_169 : decode cX9_value 169 = .ok (.lconst 1, 1) := by decide +kernel
theorem dX9_value_170 : decode cX9_value 170 = .ok (.aload_n 0, 1) := by decide +kernel
theorem dX9_value_171 : decode cX9_value 171 = .ok (.getfield 33, 3) := by decide +kernel
theorem dX9_value_174 : decode cX9_value 174 = .ok (.iload 4, 2) := by decide +kernel
theorem dX9_value_176 : decode cX9_value 176 = .ok (.iconst 1, 1) := by decide +kernel
theorem dX9_value_177 : decode cX9_value 177 = .ok (.isub, 1) := by decide +kernel
theorem dX9_value_178 : decode cX9_value 178 = .ok (.laload, 1) := by decide +kernel
theorem dX9_value_179 : decode cX9_value 179 = .ok (.lsub, 1) := by decide +kernel
theorem dX9_value_180 : decode cX9_value 180 = .ok (.lastore, 1) := by decide +kernel
theorem dX9_value_181 : decode cX9_value 181 = .ok (.goto 103, 3) := by decide +kernel
theorem dX9_value_184 : decode cX9_value 184 = .ok (.iload 6, 2) := by decide +kernel
theorem dX9_value_186 : decode cX9_value 186 = .ok (.iconst 3, 1) := by decide +kernel
theorem dX9_value_187 : decode cX9_value 187 = .ok (.if_icmp .eq 9, 3) := by decide +kernel
theorem dX9_value_190 : decode cX9_value 190 = .ok (.iload 6, 2) := by decide +kernel
theorem dX9_value_192 : decode cX9_value 192 = .ok (.iconst 4, 1) := by decide +kernel
theorem dX9_value_193 : decode cX9_value 193 = .ok (.if_icmp .ne 66, 3) := by decide +kernel
theorem dX9_value_196 : decode cX9_value 196 = .ok (.aload_n 0, 1) := by decide +kernel
theorem dX9_value_197 : decode cX9_value 197 = .ok (.getfield 33, 3) := by decide +kernel
theorem dX9_value_200 : decode cX9_value 200 = .ok (.iload 4, 2) := by decide +kernel
theorem dX9_value_202 : decode cX9_value 202 = .ok (.iconst 1, 1) := by decide +kernel
theorem dX9_value_203 : decode cX9_value 203 = .ok (.isub, 1) := by decide +kernel
theorem dX9_value_204 : decode cX9_value 204 = .ok (.laload, 1) := by decide +kernel
theorem dX9_value_205 : decode cX9_value 205 = .ok (.iload 6, 2) := by decide +kernel
theorem dX9_value_207 : decode cX9_value 207 = .ok (.iconst 4, 1) := by decide +kernel
theorem dX9_value_208 : decode cX9_value 208 = .ok (.if_icmp .ne 7, 3) := by decide +kernel
theorem dX9_value_211 : decode cX9_value 211 = .ok (.iconst 1, 1) := by decide +kernel
theorem dX9_value_212 : decode cX9_value 212 = .ok (.goto 4, 3) := by decide +kernel
theorem dX9_value_215 : decode cX9_value 215 = .ok (.iconst 0, 1) := by decide +kernel
theorem dX9_value_216 : decode cX9_value 216 = .ok (.i2l, 1) := by decide +kernel
theorem dX9_value_217 : decode cX9_value 217 = .ok (.lcmp, 1) := by decide +kernel
theorem dX9_value_218 : decode cX9_value 218 = .ok (.ifCond .ne 7, 3) := by decide +kernel
theorem dX9_value_221 : decode cX9_value 221 = .ok (.iconst 1, 1) := by decide +kernel
theorem dX9_value_222 : decode cX9_value 222 = .ok (.goto 4, 3) := by decide +kernel
theorem dX9_value_225 : decode cX9_value 225 = .ok (.iconst 0, 1) := by decide +kernel
theorem dX9_value_226 : decode cX9_value 226 = .ok (.istore 8, 2) := by decide +kernel
theorem dX9_value_228 : decode cX9_value 228 = .ok (.iload 8, 2) := by decide +kernel
theorem dX9_value_230 : decode cX9_value 230 = .ok (.ifCond .eq 8, 3) := by decide +kernel
theorem dX9_value_233 : decode cX9_value 233 = .ok (.iload 7, 2) := by decide +kernel
theorem dX9_value_235 : decode cX9_value 235 = .ok (.goto 4, 3) := by decide +kernel
theorem dX9_value_238 : decode cX9_value 238 = .ok (.iload_n 3, 1) := by decide +kernel
theorem dX9_value_239 : decode cX9_value 239 = .ok (.istore_n 3, 1) := by decide +kernel
theorem dX9_value_240 : decode cX9_value 240 = .ok (.iload 8, 2) := by decide +kernel
theorem dX9_value_242 : decode cX9_value 242 = .ok (.ifCond .eq 8, 3) := by decide +kernel
theorem dX9_value_245 : decode cX9_value 245 = .ok (.iload 4, 2) := by decide +kernel
theorem dX9_value_247 : decode cX9_value 247 = .ok (.goto 7, 3) := by decide +kernel
theorem dX9_value_250 : decode cX9_value 250 = .ok (.iload 4, 2) := by decide +kernel
theorem dX9_value_252 : decode cX9_value 252 = .ok (.iconst 1, 1) := by decide +kernel
theorem dX9_value_253 : decode cX9_value 253 = .ok (.isub, 1) := by decide +kernel
theorem dX9_value_254 : decode cX9_value 254 = .ok (.istore 4, 2) := by decide +kernel
theorem dX9_value_256 : decode cX9_value 256 = .ok (.goto 28, 3) := by decide +kernel
theorem dX9_value_259 : decode cX9_value 259 = .ok (.iinc 4 (-1), 3) := by decide +kernel
theorem dX9_value_262 : decode cX9_value 262 = .ok (.iload 4, 2) := by decide +kernel
theorem dX9_value_264 : decode cX9_value 264 = .ok (.iconst 1, 1) := by decide +kernel
theorem dX9_value_265 : decode cX9_value 265 = .ok (.if_icmp .lt 16, 3) := by decide +kernel
theorem dX9_value_268 : decode cX9_value 268 = .ok (.aload_n 0, 1) := by decide +kernel
theorem dX9_value_269 : decode cX9_value 269 = .ok (.iload 6, 2) := by decide +kernel
theorem dX9_value_271 : decode cX9_value 271 = .ok (.iload 4, 2) := by decide +kernel
theorem dX9_value_273 : decode cX9_value 273 = .ok (.iconst 1, 1) := by decide +kernel
theorem dX9_value_274 : decode cX9_value 274 = .ok (.isub, 1) := by decide +kernel
theorem dX9_value_275 : decode cX9_value 275 = .ok (.invokevirtual 61, 3) := by decide +kernel
theorem dX9_value_278 : decode cX9_value 278 = .ok (.ifCond .ne 6, 3) := by decide +kernel
theorem dX9_value_281 : decode cX9_value 281 = .ok (.ldc 60, 2) := by decide +kernel
theorem dX9_value_283 : decode cX9_value 283 = .ok (.ireturn, 1) := by decide +kernel
theorem dX9_value_284 : decode cX9_value 284 = .ok (.iinc 5 1, 3) := by decide +kernel
theorem dX9_value_287 : decode cX9_value 287 = .ok (.goto (-272), 3) := by decide +kernel
theorem dX9_value_290 : decode cX9_value 290 = .ok (.ldc 60, 2) := by decide +kernel
theorem dX9_value_292 : decode cX9_value 292 = .ok (.ireturn, 1) := by decide +kernel
set_option maxRecDepth 20000 in
theorem rX9_value_0 {E : EN} (hE : Ep E) {k : Nat} {mem : Mm} {Q : Int → Mm → Prop} {y p0 p1 : Int} (hy : isTx y) {np1 : Nat} (hp1 : aSh SH p1 13 np1)
    (h : ((¬ p0 = (-1) → VM E mX9_value (k + 1) mem 15 [(0, aR y), (2, aR p1), (3, aI p0), (4, aI 0), (5, aI 0)] [] (retI Q)) ∧ (p0 = (-1) → Q 1 mem))) :
    VM E mX9_value (k + 1) mem 0 [(0, aR y), (1, aI p0), (2, aR p1)] [] (retI Q) := by
  refine v_iload_n (pc := 0) dX9_value_0 1 rfl ?_
  refine v_iconst (pc := 1) dX9_value_1 (by decide) ?_
  refine v_icmpne (pc := 2) (tgt := 7) dX9_value_2 (by decide) (fun c1 => ?_) (fun c1 => ?_)
  · have h := h.1 c1
    refine v_iload_n (pc := 7) dX9_value_7 1 rfl ?_
    refine v_istore_n (pc := 8) (al2 := [(3, aI p0), (0, aR y), (1, aI p0), (2, aR p1)]) dX9_value_8 (by decide) rfl ?_
    refine v_iconst (pc := 9) dX9_value_9 (by decide) ?_
    refine v_istore (pc := 10) (al2 := [(4, aI 0), (3, aI p0), (0, aR y), (1, aI p0), (2, aR p1)]) dX9_value_10 (by decide) rfl ?_
    refine v_iconst (pc := 12) dX9_value_12 (by decide) ?_
    refine v_istore (pc := 13) (al2 := [(5, aI 0), (4, aI 0), (3, aI p0), (0, aR y), (1, aI p0), (2, aR p1)]) dX9_value_13 (by decide) rfl ?_
    exact VG_sub (al' := [(0, aR y), (2, aR p1), (3, aI p0), (4, aI 0), (5, aI 0)]) [3, 5, 2, 1, 0] rfl h
  · have h := h.2 c1
    refine v_iconst (pc := 5) dX9_value_5 (by decide) ?_
    exact m_retI (pc := 6) dX9_value_6 rfl h
theorem eX9_value {E : EN} {k : Nat} {mem : Mm} {Q : Int → Mm → Prop} {y p0 p1 : Int} (hr_p0 : R32 p0) (h : VM E mX9_value (k + 1) mem 0 [(0, aR y), (1, aI p0), (2, aR p1)] [] (retI Q)) : CI E mX9_value (k + 1) mem [aR y, aI p0, aR p1] Q := CI_of rfl (Nat.le_of_ble_eq_true rfl) h (aNs_c (aNr_R _) (aNs_c (aNr_I hr_p0) (aNs_c (aNr_R _) (fun _ q => nomatch q))))
set_option maxRecDepth 20000 in
theorem rX9_value_15 {E : EN} (hE : Ep E) {k : Nat} {mem : Mm} {Q : Int → Mm → Prop} {y p0 p1 x3 x4 x5 : Int} (hy : isTx y) {np1 : Nat} (hp1 : aSh SH p1 13 np1)
    (h : (((mem y 8) ≤ x5 → VM E mX9_value (k + 1) mem 290 [] [] (retI Q)) ∧ (x5 < (mem y 8) → ((x3 < 0 → VM E mX9_value (k + 1) mem 290 [] [] (retI Q)) ∧ (0 ≤ x3 → (((mem y 8) ≤ x3 → VM E mX9_value (k + 1) mem 290 [] [] (retI Q)) ∧ (x3 < (mem y 8) → ((400 ≤ x3 → VM E mX9_value (k + 1) mem 290 [] [] (retI Q)) ∧ (x3 < 400 → ((40 ≤ x4 → VM E mX9_value (k + 1) mem 290 [] [] (retI Q)) ∧ (x4 < 40 → (0 ≤ x3 ∧ x3 < 400) ∧ (R32 (x3 + 1)) ∧ (((mem (y + 6) x3) = 0 → VM E mX9_value (k + 1) mem 92 [(0, aR y), (2, aR p1), (3, aI (x3 + 1)), (4, aI x4), (5, aI x5), (6, aI (mem (y + 6) x3)), (7, aI (mem (y + 7) x3))] [] (retI Q)) ∧ (¬ (mem (y + 6) x3) = 0 → ((¬ (mem (y + 6) x3) = 1 → VM E mX9_value (k + 1) mem 121 [(0, aR y), (2, aR p1), (3, aI (x3 + 1)), (4, aI x4), (5, aI x5), (6, aI (mem (y + 6) x3)), (7, aI (mem (y + 7) x3))] [] (retI Q)) ∧ ((mem (y + 6) x3) = 1 → (((mem (y + 7) x3) < 0 → VM E mX9_value (k + 1) mem 121 [(0, aR y), (2, aR p1), (3, aI (x3 + 1)), (4, aI x4), (5, aI x5), (6, aI (mem (y + 6) x3)), (7, aI (mem (y + 7) x3))] [] (retI Q)) ∧ (0 ≤ (mem (y + 7) x3) → (np1 < 2147483648) ∧ (((np1 : Int) ≤ (mem (y + 7) x3) → VM E mX9_value (k + 1) mem 121 [(0, aR y), (2, aR p1), (3, aI (x3 + 1)), (4, aI x4), (5, aI x5), (6, aI (mem (y + 6) x3)), (7, aI (mem (y + 7) x3))] [] (retI Q)) ∧ ((mem (y + 7) x3) < (np1 : Int) → VM E mX9_value (k + 1) mem 92 [(0, aR y), (2, aR p1), (3, aI (x3 + 1)), (4, aI x4), (5, aI x5), (6, aI (mem (y + 6) x3)), (7, aI (mem (y + 7) x3))] [] (retI Q)))))))))))))))))))) :
    VM E mX9_value (k + 1) mem 15 [(0, aR y), (2, aR p1), (3, aI x3), (4, aI x4), (5, aI x5)] [] (retI Q) := by
  refine v_iload (pc := 15) dX9_value_15 4 rfl ?_
  refine v_aload_n (pc := 17) dX9_value_17 0 rfl ?_
  refine m_getf (pc := 18) (t := 0) (v := (mem y 8)) dX9_value_18 flX9_41 rfl (tx0 hy) rfl ?_
  refine v_icmpge (pc := 21) (tgt := 290) dX9_value_21 (by decide) (fun c1 => ?_) (fun c1 => ?_)
  · have h := h.1 c1
    exact VG_sub (al' := []) [] rfl h
  · have h := h.2 c1
    refine v_iload_n (pc := 24) dX9_value_24 2 rfl ?_
    refine v_iflt (pc := 25) (tgt := 290) dX9_value_25 (by decide) (fun c1 => ?_) (fun c1 => ?_)
    · have h := h.1 c1
      exact VG_sub (al' := []) [] rfl h
    · have h := h.2 c1
      refine v_iload_n (pc := 28) dX9_value_28 2 rfl ?_
      refine v_aload_n (pc := 29) dX9_value_29 0 rfl ?_
      refine m_getf (pc := 30) (t := 0) (v := (mem y 8)) dX9_value_30 flX9_41 rfl (tx0 hy) rfl ?_
      refine v_icmpge (pc := 33) (tgt := 290) dX9_value_33 (by decide) (fun c1 => ?_) (fun c1 => ?_)
      · have h := h.1 c1
        exact VG_sub (al' := []) [] rfl h
      · have h := h.2 c1
        refine v_iload_n (pc := 36) dX9_value_36 2 rfl ?_
        refine v_sipush (pc := 37) dX9_value_37 (by decide) ?_
        refine v_icmpge (pc := 40) (tgt := 290) dX9_value_40 (by decide) (fun c1 => ?_) (fun c1 => ?_)
        · have h := h.1 c1
          exact VG_sub (al' := []) [] rfl h
        · have h := h.2 c1
          refine v_iload (pc := 43) dX9_value_43 3 rfl ?_
          refine v_bipush (pc := 45) dX9_value_45 (by decide) ?_
          refine v_icmpge (pc := 47) (tgt := 290) dX9_value_47 (by decide) (fun c1 => ?_) (fun c1 => ?_)
          · have h := h.1 c1
            exact VG_sub (al' := []) [] rfl h
          · have h := h.2 c1
            refine v_aload_n (pc := 50) dX9_value_50 0 rfl ?_
            refine m_getfin (pc := 51) (v := (y + 6)) hE dX9_value_51 flX9_27 rfl (tx0 hy) rfl ?_
            refine v_iload_n (pc := 54) dX9_value_54 2 rfl ?_
            obtain ⟨o1, h⟩ := h
            refine m_iald (pc := 55) (v := (mem (y + 6) x3)) dX9_value_55 (tx6 hy) o1.1 o1.2 rfl ?_
            refine v_istore (pc := 56) (al2 := [(6, aI (mem (y + 6) x3)), (0, aR y), (2, aR p1), (3, aI x3), (4, aI x4), (5, aI x5)]) dX9_value_56 (by decide) rfl ?_
            refine v_aload_n (pc := 58) dX9_value_58 1 rfl ?_
            refine m_getfin (pc := 59) (v := (y + 7)) hE dX9_value_59 flX9_30 rfl (tx0 hy) rfl ?_
            refine v_iload_n (pc := 62) dX9_value_62 3 rfl ?_
            refine m_iald (pc := 63) (v := (mem (y + 7) x3)) dX9_value_63 (tx7 hy) o1.1 o1.2 rfl ?_
            refine v_istore (pc := 64) (al2 := [(7, aI (mem (y + 7) x3)), (6, aI (mem (y + 6) x3)), (0, aR y), (2, aR p1), (3, aI x3), (4, aI x4), (5, aI x5)]) dX9_value_64 (by decide) rfl ?_
            obtain ⟨o2, h⟩ := h
            refine m_iinc (pc := 66) (al2 := [(3, aI (x3 + 1)), (7, aI (mem (y + 7) x3)), (6, aI (mem (y + 6) x3)), (0, aR y), (2, aR p1), (4, aI x4), (5, aI x5)]) dX9_value_66 4 rfl (by decide) o2 rfl ?_
            refine v_iload (pc := 69) dX9_value_69 2 rfl ?_
            refine v_ifeq (pc := 71) (tgt := 92) dX9_value_71 (by decide) (fun c1 => ?_) (fun c1 => ?_)
            · have h := h.1 c1
              exact VG_sub (al' := [(0, aR y), (2, aR p1), (3, aI (x3 + 1)), (4, aI x4), (5, aI x5), (6, aI (mem (y + 6) x3)), (7, aI (mem (y + 7) x3))]) [3, 4, 0, 5, 6, 2, 1] rfl h
            · have h := h.2 c1
              refine v_iload (pc := 74) dX9_value_74 2 rfl ?_
              refine v_iconst (pc := 76) dX9_value_76 (by decide) ?_
              refine v_icmpne (pc := 77) (tgt := 121) dX9_value_77 (by decide) (fun c1 => ?_) (fun c1 => ?_)
              · have h := h.1 c1
                exact VG_sub (al' := [(0, aR y), (2, aR p1), (3, aI (x3 + 1)), (4, aI x4), (5, aI x5), (6, aI (mem (y + 6) x3)), (7, aI (mem (y + 7) x3))]) [3, 4, 0, 5, 6, 2, 1] rfl h
              · have h := h.2 c1
                refine v_iload (pc := 80) dX9_value_80 1 rfl ?_
                refine v_iflt (pc := 82) (tgt := 121) dX9_value_82 (by decide) (fun c1 => ?_) (fun c1 => ?_)
                · have h := h.1 c1
                  exact VG_sub (al' := [(0, aR y), (2, aR p1), (3, aI (x3 + 1)), (4, aI x4), (5, aI x5), (6, aI (mem (y + 6) x3)), (7, aI (mem (y + 7) x3))]) [3, 4, 0, 5, 6, 2, 1] rfl h
                · have h := h.2 c1
                  refine v_iload (pc := 85) dX9_value_85 1 rfl ?_
                  refine v_aload_n (pc := 87) dX9_value_87 4 rfl ?_
                  obtain ⟨o3, h⟩ := h
                  refine v_alen13 (pc := 88) dX9_value_88 hp1 o3 ?_
                  refine v_icmpge (pc := 89) (tgt := 121) dX9_value_89 (by decide) (fun c1 => ?_) (fun c1 => ?_)
                  · have h := h.1 c1
                    exact VG_sub (al' := [(0, aR y), (2, aR p1), (3, aI (x3 + 1)), (4, aI x4), (5, aI x5), (6, aI (mem (y + 6) x3)), (7, aI (mem (y + 7) x3))]) [3, 4, 0, 5, 6, 2, 1] rfl h
                  · have h := h.2 c1
                    exact VG_sub (al' := [(0, aR y), (2, aR p1), (3, aI (x3 + 1)), (4, aI x4), (5, aI x5), (6, aI (mem (y + 6) x3)), (7, aI (mem (y + 7) x3))]) [3, 4, 0, 5, 6, 2, 1] rfl h
set_option maxRecDepth 20000 in
theorem rX9_value_290 {E : EN} (hE : Ep E) {k : Nat} {mem : Mm} {Q : Int → Mm → Prop} {y p0 p1 : Int} (hy : isTx y) {np1 : Nat} (hp1 : aSh SH p1 13 np1)
    (h : Q (-2147483648) mem) :
    VM E mX9_value (k + 1) mem 290 [] [] (retI Q) := by
  refine v_ldc (pc := 290) (n := (-2147483648)) dX9_value_290 cnX9_60 (by decide) ?_
  exact m_retI (pc := 292) dX9_value_292 rfl h
set_option maxRecDepth 20000 in
theorem rX9_value_92 {E : EN} (hE : Ep E) {k : Nat} {mem : Mm} {Q : Int → Mm → Prop} {y p0 p1 x3 x4 x5 x6 x7 : Int} (hy : isTx y) {np1 : Nat} (hp1 : aSh SH p1 13 np1)
    (h : ((¬ x6 = 0 → (0 ≤ x7 ∧ x7 < (np1 : Int)) ∧ (0 ≤ x4 ∧ x4 < 40) ∧ (R32 (x4 + 1)) ∧ VM E mX9_value (k + 1) (aUp mem (y + 8) x4 (mem p1 x7)) 284 [(0, aR y), (2, aR p1), (3, aI x3), (4, aI (x4 + 1)), (5, aI x5)] [] (retI Q)) ∧ (x6 = 0 → (0 ≤ x4 ∧ x4 < 40) ∧ (R32 (x4 + 1)) ∧ VM E mX9_value (k + 1) (aUp mem (y + 8) x4 x7) 284 [(0, aR y), (2, aR p1), (3, aI x3), (4, aI (x4 + 1)), (5, aI x5)] [] (retI Q)))) :
    VM E mX9_value (k + 1) mem 92 [(0, aR y), (2, aR p1), (3, aI x3), (4, aI x4), (5, aI x5), (6, aI x6), (7, aI x7)] [] (retI Q) := by
  refine v_aload_n (pc := 92) dX9_value_92 0 rfl ?_
  refine m_getfin (pc := 93) (v := (y + 8)) hE dX9_value_93 flX9_33 rfl (tx0 hy) rfl ?_
  refine v_iload (pc := 96) dX9_value_96 3 rfl ?_
  refine v_iload (pc := 98) dX9_value_98 5 rfl ?_
  refine v_ifne (pc := 100) (tgt := 109) dX9_value_100 (by decide) (fun c1 => ?_) (fun c1 => ?_)
  · have h := h.1 c1
    refine v_aload_n (pc := 109) dX9_value_109 1 rfl ?_
    refine v_iload (pc := 110) dX9_value_110 6 rfl ?_
    obtain ⟨o1, h⟩ := h
    refine m_iald (pc := 112) (v := (mem p1 x7)) dX9_value_112 hp1 o1.1 o1.2 rfl ?_
    refine v_i2l (pc := 113) dX9_value_113 ?_
    obtain ⟨o2, h⟩ := h
    refine v_last (pc := 114) dX9_value_114 (tx8 hy) o2.1 o2.2 ?_
    obtain ⟨o3, h⟩ := h
    refine m_iinc (pc := 115) (al2 := [(4, aI (x4 + 1)), (0, aR y), (2, aR p1), (3, aI x3), (5, aI x5), (6, aI x6), (7, aI x7)]) dX9_value_115 3 rfl (by decide) o3 rfl ?_
    refine v_goto (pc := 118) (tgt := 284) dX9_value_118 (by decide) ?_
    exact VG_sub (al' := [(0, aR y), (2, aR p1), (3, aI x3), (4, aI (x4 + 1)), (5, aI x5)]) [1, 2, 3, 0, 4] rfl h
  · have h := h.2 c1
    refine v_iload (pc := 103) dX9_value_103 6 rfl ?_
    refine v_i2l (pc := 105) dX9_value_105 ?_
    refine v_goto (pc := 106) (tgt := 114) dX9_value_106 (by decide) ?_
    obtain ⟨o4, h⟩ := h
    refine v_last (pc := 114) dX9_value_114 (tx8 hy) o4.1 o4.2 ?_
    obtain ⟨o5, h⟩ := h
    refine m_iinc (pc := 115) (al2 := [(4, aI (x4 + 1)), (0, aR y), (2, aR p1), (3, aI x3), (5, aI x5), (6, aI x6), (7, aI x7)]) dX9_value_115 3 rfl (by decide) o5 rfl ?_
    refine v_goto (pc := 118) (tgt := 284) dX9_value_118 (by decide) ?_
    exact VG_sub (al' := [(0, aR y), (2, aR p1), (3, aI x3), (4, aI (x4 + 1)), (5, aI x5)]) [1, 2, 3, 0, 4] rfl h
set_option maxRecDepth 20000 in
theorem rX9_value_121 {E : EN} (hE : Ep E) {k : Nat} {mem : Mm} {Q : Int → Mm → Prop} {y p0 p1 x3 x4 x5 x6 x7 : Int} (hy : isTx y) {np1 : Nat} (hp1 : aSh SH p1 13 np1)
    (h : ((x4 < 1 → VM E mX9_value (k + 1) mem 133 [(0, aR y), (4, aI x4)] [] (retI Q)) ∧ (1 ≤ x4 → ((¬ x6 = 5 → ((¬ x6 = 2 → ((x6 = 3 → VM E mX9_value (k + 1) mem 196 [(0, aR y), (2, aR p1), (3, aI x3), (4, aI x4), (5, aI x5), (6, aI x6), (7, aI x7)] [] (retI Q)) ∧ (¬ x6 = 3 → ((¬ x6 = 4 → (R32 (x4 + (-1))) ∧ (((x4 + (-1)) < 1 → VM E mX9_value (k + 1) mem 281 [] [] (retI Q)) ∧ (1 ≤ (x4 + (-1)) → (R32 ((x4 + (-1)) - 1)) ∧ (R32 x6 → R32 ((x4 + (-1)) - 1) → CI E mX9_combine k mem [aR y, aI x6, aI ((x4 + (-1)) - 1)] (fun r4 m3 => ((¬ r4 = 0 → VM E mX9_value (k + 1) m3 284 [(0, aR y), (2, aR p1), (3, aI x3), (4, aI (x4 + (-1))), (5, aI x5)] [] (retI Q)) ∧ (r4 = 0 → VM E mX9_value (k + 1) m3 281 [] [] (retI Q)))))))) ∧ (x6 = 4 → VM E mX9_value (k + 1) mem 196 [(0, aR y), (2, aR p1), (3, aI x3), (4, aI x4), (5, aI x5), (6, aI x6), (7, aI x7)] [] (retI Q)))))) ∧ (x6 = 2 → (R32 (x4 - 1)) ∧ (0 ≤ (x4 - 1) ∧ (x4 - 1) < 40) ∧ (R64 (1 - (mem (y + 8) (x4 - 1)))) ∧ VM E mX9_value (k + 1) (aUp mem (y + 8) (x4 - 1) (1 - (mem (y + 8) (x4 - 1)))) 284 [(0, aR y), (2, aR p1), (3, aI x3), (4, aI x4), (5, aI x5)] [] (retI Q)))) ∧ (x6 = 5 → VM E mX9_value (k + 1) mem 133 [(0, aR y), (4, aI x4)] [] (retI Q)))))) :
    VM E mX9_value (k + 1) mem 121 [(0, aR y), (2, aR p1), (3, aI x3), (4, aI x4), (5, aI x5), (6, aI x6), (7, aI x7)] [] (retI Q) := by
  refine v_iload (pc := 121) dX9_value_121 3 rfl ?_
  refine v_iconst (pc := 123) dX9_value_123 (by decide) ?_
  refine v_icmplt (pc := 124) (tgt := 133) dX9_value_124 (by decide) (fun c1 => ?_) (fun c1 => ?_)
  · have h := h.1 c1
    exact VG_sub (al' := [(0, aR y), (4, aI x4)]) [0, 3] rfl h
  · have h := h.2 c1
    refine v_iload (pc := 127) dX9_value_127 5 rfl ?_
    refine v_iconst (pc := 129) dX9_value_129 (by decide) ?_
    refine v_icmpne (pc := 130) (tgt := 155) dX9_value_130 (by decide) (fun c1 => ?_) (fun c1 => ?_)
    · have h := h.1 c1
      refine v_iload (pc := 155) dX9_value_155 5 rfl ?_
      refine v_iconst (pc := 157) dX9_value_157 (by decide) ?_
      refine v_icmpne (pc := 158) (tgt := 184) dX9_value_158 (by decide) (fun c1 => ?_) (fun c1 => ?_)
      · have h := h.1 c1
        refine v_iload (pc := 184) dX9_value_184 5 rfl ?_
        refine v_iconst (pc := 186) dX9_value_186 (by decide) ?_
        refine v_icmpeq (pc := 187) (tgt := 196) dX9_value_187 (by decide) (fun c1 => ?_) (fun c1 => ?_)
        · have h := h.1 c1
          exact VG_sub (al' := [(0, aR y), (2, aR p1), (3, aI x3), (4, aI x4), (5, aI x5), (6, aI x6), (7, aI x7)]) [0, 1, 2, 3, 4, 5, 6] rfl h
        · have h := h.2 c1
          refine v_iload (pc := 190) dX9_value_190 5 rfl ?_
          refine v_iconst (pc := 192) dX9_value_192 (by decide) ?_
          refine v_icmpne (pc := 193) (tgt := 259) dX9_value_193 (by decide) (fun c1 => ?_) (fun c1 => ?_)
          · have h := h.1 c1
            obtain ⟨o1, h⟩ := h
            refine m_iinc (pc := 259) (al2 := [(4, aI (x4 + (-1))), (0, aR y), (2, aR p1), (3, aI x3), (5, aI x5), (6, aI x6), (7, aI x7)]) dX9_value_259 3 rfl (by decide) o1 rfl ?_
            refine v_iload (pc := 262) dX9_value_262 0 rfl ?_
            refine v_iconst (pc := 264) dX9_value_264 (by decide) ?_
            refine v_icmplt (pc := 265) (tgt := 281) dX9_value_265 (by decide) (fun c1 => ?_) (fun c1 => ?_)
            · have h := h.1 c1
              exact VG_sub (al' := []) [] rfl h
            · have h := h.2 c1
              refine v_aload_n (pc := 268) dX9_value_268 1 rfl ?_
              refine v_iload (pc := 269) dX9_value_269 5 rfl ?_
              refine v_iload (pc := 271) dX9_value_271 0 rfl ?_
              refine v_iconst (pc := 273) dX9_value_273 (by decide) ?_
              obtain ⟨o2, h⟩ := h
              refine m_isub (pc := 274) dX9_value_274 o2 ?_
              refine m_invI (pc := 275) (mi' := mX9_combine) (rest := []) [aI x6, aI ((x4 + (-1)) - 1)] dX9_value_275 (tx0 hy) (by decide) rfl msX9_combine mvX9_combine lkX9_61 rfl (Nat.le_of_ble_eq_true rfl) (fun hn => CI_mono (h (aaI hn 1 rfl) (aaI hn 2 rfl)) (fun r4 m3 h => ?_))
              refine v_ifne (pc := 278) (tgt := 284) dX9_value_278 (by decide) (fun c1 => ?_) (fun c1 => ?_)
              · have h := h.1 c1
                exact VG_sub (al' := [(0, aR y), (2, aR p1), (3, aI x3), (4, aI (x4 + (-1))), (5, aI x5)]) [1, 2, 3, 0, 4] rfl h
              · have h := h.2 c1
                exact VG_sub (al' := []) [] rfl h
          · have h := h.2 c1
            exact VG_sub (al' := [(0, aR y), (2, aR p1), (3, aI x3), (4, aI x4), (5, aI x5), (6, aI x6), (7, aI x7)]) [0, 1, 2, 3, 4, 5, 6] rfl h
      · have h := h.2 c1
        refine v_aload_n (pc := 161) dX9_value_161 0 rfl ?_
        refine m_getfin (pc := 162) (v := (y + 8)) hE dX9_value_162 flX9_33 rfl (tx0 hy) rfl ?_
        refine v_iload (pc := 165) dX9_value_165 3 rfl ?_
        refine v_iconst (pc := 167) dX9_value_167 (by decide) ?_
        obtain ⟨o5, h⟩ := h
        refine m_isub (pc := 168) dX9_value_168 o5 ?_
        refine v_lconst1 (pc := 169) dX9_value_169 ?_
        refine v_aload_n (pc := 170) dX9_value_170 0 rfl ?_
        refine m_getfin (pc := 171) (v := (y + 8)) hE dX9_value_171 flX9_33 rfl (tx0 hy) rfl ?_
        refine v_iload (pc := 174) dX9_value_174 3 rfl ?_
        refine v_iconst (pc := 176) dX9_value_176 (by decide) ?_
        refine m_isub (pc := 177) dX9_value_177 o5 ?_
        obtain ⟨o6, h⟩ := h
        refine m_lald (pc := 178) (v := (mem (y + 8) (x4 - 1))) dX9_value_178 (tx8 hy) o6.1 o6.2 rfl ?_
        obtain ⟨o7, h⟩ := h
        refine m_lsub (pc := 179) dX9_value_179 o7 ?_
        refine v_last (pc := 180) dX9_value_180 (tx8 hy) o6.1 o6.2 ?_
        refine v_goto (pc := 181) (tgt := 284) dX9_value_181 (by decide) ?_
        exact VG_sub (al' := [(0, aR y), (2, aR p1), (3, aI x3), (4, aI x4), (5, aI x5)]) [0, 1, 2, 3, 4] rfl h
    · have h := h.2 c1
      exact VG_sub (al' := [(0, aR y), (4, aI x4)]) [0, 3] rfl h
set_option maxRecDepth 20000 in
theorem rX9_value_284 {E : EN} (hE : Ep E) {k : Nat} {mem : Mm} {Q : Int → Mm → Prop} {y p0 p1 x3 x4 x5 : Int} (hy : isTx y) {np1 : Nat} (hp1 : aSh SH p1 13 np1)
    (h : (R32 (x5 + 1)) ∧ VM E mX9_value (k + 1) mem 15 [(0, aR y), (2, aR p1), (3, aI x3), (4, aI x4), (5, aI (x5 + 1))] [] (retI Q)) :
    VM E mX9_value (k + 1) mem 284 [(0, aR y), (2, aR p1), (3, aI x3), (4, aI x4), (5, aI x5)] [] (retI Q) := by
  obtain ⟨o1, h⟩ := h
  refine m_iinc (pc := 284) (al2 := [(5, aI (x5 + 1)), (0, aR y), (2, aR p1), (3, aI x3), (4, aI x4)]) dX9_value_284 4 rfl (by decide) o1 rfl ?_
  refine v_goto (pc := 287) (tgt := 15) dX9_value_287 (by decide) ?_
  exact VG_sub (al' := [(0, aR y), (2, aR p1), (3, aI x3), (4, aI x4), (5, aI (x5 + 1))]) [1, 2, 3, 4, 0] rfl h
set_option maxRecDepth 20000 in
theorem rX9_value_133 {E : EN} (hE : Ep E) {k : Nat} {mem : Mm} {Q : Int → Mm → Prop} {y p0 p1 x4 : Int} (hy : isTx y) {np1 : Nat} (hp1 : aSh SH p1 13 np1)
    (h : ((1 ≤ x4 → (R32 (x4 - 1)) ∧ (0 ≤ (x4 - 1) ∧ (x4 - 1) < 40) ∧ (R32 (mem (y + 8) (x4 - 1))) ∧ Q (mem (y + 8) (x4 - 1)) mem) ∧ (x4 < 1 → Q (-2147483648) mem))) :
    VM E mX9_value (k + 1) mem 133 [(0, aR y), (4, aI x4)] [] (retI Q) := by
  refine v_iload (pc := 133) dX9_value_133 1 rfl ?_
  refine v_iconst (pc := 135) dX9_value_135 (by decide) ?_
  refine v_icmpge (pc := 136) (tgt := 144) dX9_value_136 (by decide) (fun c1 => ?_) (fun c1 => ?_)
  · have h := h.1 c1
    refine v_aload_n (pc := 144) dX9_value_144 0 rfl ?_
    refine m_getfin (pc := 145) (v := (y + 8)) hE dX9_value_145 flX9_33 rfl (tx0 hy) rfl ?_
    refine v_iload (pc := 148) dX9_value_148 1 rfl ?_
    refine v_iconst (pc := 150) dX9_value_150 (by decide) ?_
    obtain ⟨o1, h⟩ := h
    refine m_isub (pc := 151) dX9_value_151 o1 ?_
    obtain ⟨o2, h⟩ := h
    refine m_lald (pc := 152) (v := (mem (y + 8) (x4 - 1))) dX9_value_152 (tx8 hy) o2.1 o2.2 rfl ?_
    obtain ⟨o3, h⟩ := h
    refine m_l2i (pc := 153) dX9_value_153 o3 ?_
    exact m_retI (pc := 154) dX9_value_154 rfl h
  · have h := h.2 c1
    refine v_ldc (pc := 139) (n := (-2147483648)) dX9_value_139 cnX9_60 (by decide) ?_
    refine v_goto (pc := 141) (tgt := 154) dX9_value_141 (by decide) ?_
    exact m_retI (pc := 154) dX9_value_154 rfl h
set_option maxRecDepth 20000 in
theorem rX9_value_196 {E : EN} (hE : Ep E) {k : Nat} {mem : Mm} {Q : Int → Mm → Prop} {y p0 p1 x3 x4 x5 x6 x7 : Int} (hy : isTx y) {np1 : Nat} (hp1 : aSh SH p1 13 np1)
    (h : (R32 (x4 - 1)) ∧ (0 ≤ (x4 - 1) ∧ (x4 - 1) < 40) ∧ ((¬ x6 = 4 → ((¬ (mem (y + 8) (x4 - 1)) = 0 → VM E mX9_value (k + 1) mem 284 [(0, aR y), (2, aR p1), (3, aI x3), (4, aI (x4 - 1)), (5, aI x5)] [] (retI Q)) ∧ ((mem (y + 8) (x4 - 1)) = 0 → VM E mX9_value (k + 1) mem 284 [(0, aR y), (2, aR p1), (3, aI x7), (4, aI x4), (5, aI x5)] [] (retI Q)))) ∧ (x6 = 4 → ((¬ (mem (y + 8) (x4 - 1)) = 1 → VM E mX9_value (k + 1) mem 284 [(0, aR y), (2, aR p1), (3, aI x3), (4, aI (x4 - 1)), (5, aI x5)] [] (retI Q)) ∧ ((mem (y + 8) (x4 - 1)) = 1 → VM E mX9_value (k + 1) mem 284 [(0, aR y), (2, aR p1), (3, aI x7), (4, aI x4), (5, aI x5)] [] (retI Q)))))) :
    VM E mX9_value (k + 1) mem 196 [(0, aR y), (2, aR p1), (3, aI x3), (4, aI x4), (5, aI x5), (6, aI x6), (7, aI x7)] [] (retI Q) := by
  refine v_aload_n (pc := 196) dX9_value_196 0 rfl ?_
  refine m_getfin (pc := 197) (v := (y + 8)) hE dX9_value_197 flX9_33 rfl (tx0 hy) rfl ?_
  refine v_iload (pc := 200) dX9_value_200 3 rfl ?_
  refine v_iconst (pc := 202) dX9_value_202 (by decide) ?_
  obtain ⟨o1, h⟩ := h
  refine m_isub (pc := 203) dX9_value_203 o1 ?_
  obtain ⟨o2, h⟩ := h
  refine m_lald (pc := 204) (v := (mem (y + 8) (x4 - 1))) dX9_value_204 (tx8 hy) o2.1 o2.2 rfl ?_
  refine v_iload (pc := 205) dX9_value_205 5 rfl ?_
  refine v_iconst (pc := 207) dX9_value_207 (by decide) ?_
  refine v_icmpne (pc := 208) (tgt := 215) dX9_value_208 (by decide) (fun c1 => ?_) (fun c1 => ?_)
  · have h := h.1 c1
    refine v_iconst (pc := 215) dX9_value_215 (by decide) ?_
    refine v_i2l (pc := 216) dX9_value_216 ?_
    refine v_lcmpne (pc := 217) (tgt := 225) dX9_value_217 dX9_value_218 (by decide) (fun c1 => ?_) (fun c1 => ?_)
    · have h := h.1 c1
      refine v_iconst (pc := 225) dX9_value_225 (by decide) ?_
      refine v_istore (pc := 226) (al2 := [(8, aI 0), (0, aR y), (2, aR p1), (3, aI x3), (4, aI x4), (5, aI x5), (6, aI x6), (7, aI x7)]) dX9_value_226 (by decide) rfl ?_
      refine v_iload (pc := 228) dX9_value_228 0 rfl ?_
      refine v_ifeq (pc := 230) (tgt := 238) dX9_value_230 (by decide) (fun c1 => ?_) (fun c1 => absurd c1 (by decide))
      refine v_iload_n (pc := 238) dX9_value_238 3 rfl ?_
      refine v_istore_n (pc := 239) (al2 := [(3, aI x3), (8, aI 0), (0, aR y), (2, aR p1), (4, aI x4), (5, aI x5), (6, aI x6), (7, aI x7)]) dX9_value_239 (by decide) rfl ?_
      refine v_iload (pc := 240) dX9_value_240 1 rfl ?_
      refine v_ifeq (pc := 242) (tgt := 250) dX9_value_242 (by decide) (fun c1 => ?_) (fun c1 => absurd c1 (by decide))
      refine v_iload (pc := 250) dX9_value_250 4 rfl ?_
      refine v_iconst (pc := 252) dX9_value_252 (by decide) ?_
      refine m_isub (pc := 253) dX9_value_253 o1 ?_
      refine v_istore (pc := 254) (al2 := [(4, aI (x4 - 1)), (3, aI x3), (8, aI 0), (0, aR y), (2, aR p1), (5, aI x5), (6, aI x6), (7, aI x7)]) dX9_value_254 (by decide) rfl ?_
      refine v_goto (pc := 256) (tgt := 284) dX9_value_256 (by decide) ?_
      exact VG_sub (al' := [(0, aR y), (2, aR p1), (3, aI x3), (4, aI (x4 - 1)), (5, aI x5)]) [3, 4, 1, 0, 5] rfl h
    · have h := h.2 c1
      refine v_iconst (pc := 221) dX9_value_221 (by decide) ?_
      refine v_goto (pc := 222) (tgt := 226) dX9_value_222 (by decide) ?_
      refine v_istore (pc := 226) (al2 := [(8, aI 1), (0, aR y), (2, aR p1), (3, aI x3), (4, aI x4), (5, aI x5), (6, aI x6), (7, aI x7)]) dX9_value_226 (by decide) rfl ?_
      refine v_iload (pc := 228) dX9_value_228 0 rfl ?_
      refine v_ifeq (pc := 230) (tgt := 238) dX9_value_230 (by decide) (fun c1 => absurd c1 (by decide)) (fun c1 => ?_)
      refine v_iload (pc := 233) dX9_value_233 7 rfl ?_
      refine v_goto (pc := 235) (tgt := 239) dX9_value_235 (by decide) ?_
      refine v_istore_n (pc := 239) (al2 := [(3, aI x7), (8, aI 1), (0, aR y), (2, aR p1), (4, aI x4), (5, aI x5), (6, aI x6), (7, aI x7)]) dX9_value_239 (by decide) rfl ?_
      refine v_iload (pc := 240) dX9_value_240 1 rfl ?_
      refine v_ifeq (pc := 242) (tgt := 250) dX9_value_242 (by decide) (fun c1 => absurd c1 (by decide)) (fun c1 => ?_)
      refine v_iload (pc := 245) dX9_value_245 4 rfl ?_
      refine v_goto (pc := 247) (tgt := 254) dX9_value_247 (by decide) ?_
      refine v_istore (pc := 254) (al2 := [(4, aI x4), (3, aI x7), (8, aI 1), (0, aR y), (2, aR p1), (5, aI x5), (6, aI x6), (7, aI x7)]) dX9_value_254 (by decide) rfl ?_
      refine v_goto (pc := 256) (tgt := 284) dX9_value_256 (by decide) ?_
      exact VG_sub (al' := [(0, aR y), (2, aR p1), (3, aI x7), (4, aI x4), (5, aI x5)]) [3, 4, 1, 0, 5] rfl h
  · have h := h.2 c1
    refine v_iconst (pc := 211) dX9_value_211 (by decide) ?_
    refine v_goto (pc := 212) (tgt := 216) dX9_value_212 (by decide) ?_
    refine v_i2l (pc := 216) dX9_value_216 ?_
    refine v_lcmpne (pc := 217) (tgt := 225) dX9_value_217 dX9_value_218 (by decide) (fun c1 => ?_) (fun c1 => ?_)
    · have h := h.1 c1
      refine v_iconst (pc := 225) dX9_value_225 (by decide) ?_
      refine v_istore (pc := 226) (al2 := [(8, aI 0), (0, aR y), (2, aR p1), (3, aI x3), (4, aI x4), (5, aI x5), (6, aI x6), (7, aI x7)]) dX9_value_226 (by decide) rfl ?_
      refine v_iload (pc := 228) dX9_value_228 0 rfl ?_
      refine v_ifeq (pc := 230) (tgt := 238) dX9_value_230 (by decide) (fun c1 => ?_) (fun c1 => absurd c1 (by decide))
      refine v_iload_n (pc := 238) dX9_value_238 3 rfl ?_
      refine v_istore_n (pc := 239) (al2 := [(3, aI x3), (8, aI 0), (0, aR y), (2, aR p1), (4, aI x4), (5, aI x5), (6, aI x6), (7, aI x7)]) dX9_value_239 (by decide) rfl ?_
      refine v_iload (pc := 240) dX9_value_240 1 rfl ?_
      refine v_ifeq (pc := 242) (tgt := 250) dX9_value_242 (by decide) (fun c1 => ?_) (fun c1 => absurd c1 (by decide))
      refine v_iload (pc := 250) dX9_value_250 4 rfl ?_
      refine v_iconst (pc := 252) dX9_value_252 (by decide) ?_
      refine m_isub (pc := 253) dX9_value_253 o1 ?_
      refine v_istore (pc := 254) (al2 := [(4, aI (x4 - 1)), (3, aI x3), (8, aI 0), (0, aR y), (2, aR p1), (5, aI x5), (6, aI x6), (7, aI x7)]) dX9_value_254 (by decide) rfl ?_
      refine v_goto (pc := 256) (tgt := 284) dX9_value_256 (by decide) ?_
      exact VG_sub (al' := [(0, aR y), (2, aR p1), (3, aI x3), (4, aI (x4 - 1)), (5, aI x5)]) [3, 4, 1, 0, 5] rfl h
    · have h := h.2 c1
      refine v_iconst (pc := 221) dX9_value_221 (by decide) ?_
      refine v_goto (pc := 222) (tgt := 226) dX9_value_222 (by decide) ?_
      refine v_istore (pc := 226) (al2 := [(8, aI 1), (0, aR y), (2, aR p1), (3, aI x3), (4, aI x4), (5, aI x5), (6, aI x6), (7, aI x7)]) dX9_value_226 (by decide) rfl ?_
      refine v_iload (pc := 228) dX9_value_228 0 rfl ?_
      refine v_ifeq (pc := 230) (tgt := 238) dX9_value_230 (by decide) (fun c1 => absurd c1 (by decide)) (fun c1 => ?_)
      refine v_iload (pc := 233) dX9_value_233 7 rfl ?_
      refine v_goto (pc := 235) (tgt := 239) dX9_value_235 (by decide) ?_
      refine v_istore_n (pc := 239) (al2 := [(3, aI x7), (8, aI 1), (0, aR y), (2, aR p1), (4, aI x4), (5, aI x5), (6, aI x6), (7, aI x7)]) dX9_value_239 (by decide) rfl ?_
      refine v_iload (pc := 240) dX9_value_240 1 rfl ?_
      refine v_ifeq (pc := 242) (tgt := 250) dX9_value_242 (by decide) (fun c1 => absurd c1 (by decide)) (fun c1 => ?_)
      refine v_iload (pc := 245) dX9_value_245 4 rfl ?_
      refine v_goto (pc := 247) (tgt := 254) dX9_value_247 (by decide) ?_
      refine v_istore (pc := 254) (al2 := [(4, aI x4), (3, aI x7), (8, aI 1), (0, aR y), (2, aR p1), (5, aI x5), (6, aI x6), (7, aI x7)]) dX9_value_254 (by decide) rfl ?_
      refine v_goto (pc := 256) (tgt := 284) dX9_value_256 (by decide) ?_
      exact VG_sub (al' := [(0, aR y), (2, aR p1), (3, aI x7), (4, aI x4), (5, aI x5)]) [3, 4, 1, 0, 5] rfl h
set_option maxRecDepth 20000 in
theorem rX9_value_281 {E : EN} (hE : Ep E) {k : Nat} {mem : Mm} {Q : Int → Mm → Prop} {y p0 p1 : Int} (hy : isTx y) {np1 : Nat} (hp1 : aSh SH p1 13 np1)
    (h : Q (-2147483648) mem) :
    VM E mX9_value (k + 1) mem 281 [] [] (retI Q) := by
  refine v_ldc (pc := 281) (n := (-2147483648)) dX9_value_281 cnX9_60 (by decide) ?_
  exact m_retI (pc := 283) dX9_value_283 rfl h

theorem dX9_combine_0 : decode cX9_combine 0 = .ok (.iload_n 2, 1) := by decide +kernel
theorem dX9_combine_1 : decode cX9_combine 1 = .ok (.ifCond .lt 11, 3) := by decide +kernel
theorem dX9_combine_4 : decode cX9_combine 4 = .ok (.iload_n 2, 1) := by decide +kernel
theorem dX9_combine_5 : decode cX9_combine 5 = .ok (.iconst 1, 1) := by decide +kernel
theorem dX9_combine_6 : decode cX9_combine 6 = .ok (.iadd, 1) := by decide +kernel
theorem dX9_combine_7 : decode cX9_combine 7 = .ok (.bipush 40, 2) := by decide +kernel
theorem dX9_combine_9 : decode cX9_combine 9 = .ok (.if_icmp .lt 5, 3) := by decide +kernel
theorem dX9_combine_12 : decode cX9_combine 12 = .ok (.iconst 0, 1) := by decide +kernel
theorem dX9_combine_13 : decode cX9_combine 13 = .ok (.ireturn, 1) := by decide +kernel
theorem dX9_combine_14 : decode cX9_combine 14 = .ok (.aload_n 0, 1) := by decide +kernel
theorem dX9_combine_15 : decode cX9_combine 15 = .ok (.getfield 33, 3) := by decide +kernel
theorem dX9_combine_18 : decode cX9_combine 18 = .ok (.iload_n 2, 1) := by decide +kernel
theorem dX9_combine_19 : decode cX9_combine 19 = .ok (.laload, 1) := by decide +kernel
theorem dX9_combine_20 : decode cX9_combine 20 = .ok (.lstore_n 3, 1) := by decide +kernel
theorem dX9_combine_21 : decode cX9_combine 21 = .ok (.aload_n 0, 1) := by decide +kernel
theorem dX9_combine_22 : decode cX9_combine 22 = .ok (.getfield 33, 3) := by decide +kernel
theorem dX9_combine_25 : decode cX9_combine 25 = .ok (.iload_n 2, 1) := by decide +kernel
theorem dX9_combine_26 : decode cX9_combine 26 = .ok (.iconst 1, 1) := by decide +kernel
theorem dX9_combine_27 : decode cX9_combine 27 = .ok (.iadd, 1) := by decide +kernel
theorem dX9_combine_28 : decode cX9_combine 28 = .ok (.laload, 1) := by decide +kernel
theorem dX9_combine_29 : decode cX9_combine 29 = .ok (.lstore 5, 2) := by decide +kernel
theorem dX9_combine_31 : decode cX9_combine 31 = .ok (.lload 5, 2) := by decide +kernel
theorem dX9_combine_33 : decode cX9_combine 33 = .ok (.lconst 0, 1) := by decide +kernel
theorem dX9_combine_34 : decode cX9_combine 34 = .ok (.lcmp, 1) := by decide +kernel
theorem dX9_combine_35 : decode cX9_combine 35 = .ok (.ifCond .ne 17, 3) := by decide +kernel
theorem dX9_combine_38 : decode cX9_combine 38 = .ok (.iload_n 1, 1) := by decide +kernel
theorem dX9_combine_39 : decode cX9_combine 39 = .ok (.bipush 47, 2) := by decide +kernel
theorem dX9_combine_41 : decode cX9_combine 41 = .ok (.if_icmp .eq 9, 3) := by decide +kernel
theorem dX9_combine_44 : decode cX9_combine 44 = .ok (.iload_n 1, 1) := by decide +kernel
theorem dX9_combine_45 : decode cX9_combine 45 = .ok (.bipush 37, 2) := by decide +kernel
theorem dX9_combine_47 : decode cX9_combine 47 = .ok (.if_icmp .ne 5, 3) := by decide +kernel
theorem dX9_combine_50 : decode cX9_combine 50 = .ok (.iconst 0, 1) := by decide +kernel
theorem dX9_combine_51 : decode cX9_combine 51 = .ok (.ireturn, 1) := by decide +kernel
theorem dX9_combine_52 : decode cX9_combine 52 = .ok (.iload_n 1, 1) := by decide +kernel
theorem dX9_combine_53 : decode cX9_combine 53 = .ok (.lookupswitch 146 #[(37, 103), (42, 85), (43, 67), (45, 76), (47, 94), (60, 112), (62, 129)], 67) := by decide +kernel
theorem dX9_combine_120 : decode cX9_combine 120 = .ok (.lload_n 3, 1) := by decide +kernel
theorem dX9_combine_121 : decode cX9_combine 121 = .ok (.lload 5, 2) := by decide +kernel
theorem dX9_combine_123 : decode cX9_combine 123 = .ok (.ladd, 1) := by decide +kernel
theorem dX9_combine_124 : decode cX9_combine 124 = .ok (.lstore 7, 2) := by decide +kernel
theorem dX9_combine_126 : decode cX9_combine 126 = .ok (.goto 87, 3) := by decide +kernel
theorem dX9_combine_129 : decode cX9_combine 129 = .ok (.lload_n 3, 1) := by decide +kernel
theorem dX9_combine_130 : decode cX9_combine 130 = .ok (.lload 5, 2) := by decide +kernel
theorem dX9_combine_132 : decode cX9_combine 132 = .ok (.lsub, 1) := by decide +kernel
theorem dX9_combine_133 : decode cX9_combine 133 = .ok (.lstore 7, 2) := by decide +kernel
theorem dX9_combine_135 : decode cX9_combine 135 = .ok (.goto 78, 3) := by decide +kernel
theorem dX9_combine_138 : decode cX9_combine 138 = .ok (.lload_n 3, 1) := by decide +kernel
theorem dX9_combine_139 : decode cX9_combine 139 = .ok (.lload 5, 2) := by decide +kernel
theorem dX9_combine_141 : decode cX9_combine 141 = .ok (.lmul, 1) := by decide +kernel
theorem dX9_combine_142 : decode cX9_combine 142 = .ok (.lstore 7, 2) := by decide +kernel
theorem dX9_combine_144 : decode cX9_combine 144 = .ok (.goto 69, 3) := by decide +kernel
theorem dX9_combine_147 : decode cX9_combine 147 = .ok (.lload_n 3, 1) := by decide +kernel
theorem dX9_combine_148 : decode cX9_combine 148 = .ok (.lload 5, 2) := by decide +kernel
theorem dX9_combine_150 : decode cX9_combine 150 = .ok (.ldiv, 1) := by decide +kernel
theorem dX9_combine_151 : decode cX9_combine 151 = .ok (.lstore 7, 2) := by decide +kernel
theorem dX9_combine_153 : decode cX9_combine 153 = .ok (.goto 60, 3) := by decide +kernel
theorem dX9_combine_156 : decode cX9_combine 156 = .ok (.lload_n 3, 1) := by decide +kernel
theorem dX9_combine_157 : decode cX9_combine 157 = .ok (.lload 5, 2) := by decide +kernel
theorem dX9_combine_159 : decode cX9_combine 159 = .ok (.lrem, 1) := by decide +kernel
theorem dX9_combine_160 : decode cX9_combine 160 = .ok (.lstore 7, 2) := by decide +kernel
theorem dX9_combine_162 : decode cX9_combine 162 = .ok (.goto 51, 3) := by decide +kernel
theorem dX9_combine_165 : decode cX9_combine 165 = .ok (.lload_n 3, 1) := by decide +kernel
theorem dX9_combine_166 : decode cX9_combine 166 = .ok (.lload 5, 2) := by decide +kernel
theorem dX9_combine_168 : decode cX9_combine 168 = .ok (.lcmp, 1) := by decide +kernel
theorem dX9_combine_169 : decode cX9_combine 169 = .ok (.ifCond .ge 7, 3) := by decide +kernel
theorem dX9_combine_172 : decode cX9_combine 172 = .ok (.lconst 1, 1) := by decide +kernel
theorem dX9_combine_173 : decode cX9_combine 173 = .ok (.goto 4, 3) := by decide +kernel
theorem dX9_combine_176 : decode cX9_combine 176 = .ok (.lconst 0, 1) := by decide +kernel
theorem dX9_combine_177 : decode cX9_combine 177 = .ok (.lstore 7, 2) := by decide +kernel
theorem dX9_combine_179 : decode cX9_combine 179 = .ok (.goto 34, 3) := by decide +kernel
theorem dX9_combine_182 : decode cX9_combine 182 = .ok (.lload_n 3, 1) := by decide +kernel
theorem dX9_combine_183 : decode cX9_combine 183 = .ok (.lload 5, 2) := by decide +kernel
theorem dX9_combine_185 : decode cX9_combine 185 = .ok (.lcmp, 1) := by decide +kernel
theorem dX9_combine_186 : decode cX9_combine 186 = .ok (.ifCond .le 7, 3) := by decide +kernel
theorem dX9_combine_189 : decode cX9_combine 189 = .ok (.lconst 1, 1) := by decide +kernel
theorem dX9_combine_190 : decode cX9_combine 190 = .ok (.goto 4, 3) := by decide +kernel
theorem dX9_combine_193 : decode cX9_combine 193 = .ok (.lconst 0, 1) := by decide +kernel
theorem dX9_combine_194 : decode cX9_combine 194 = .ok (.lstore 7, 2) := by decide +kernel
theorem dX9_combine_196 : decode cX9_combine 196 = .ok (.goto 17, 3) := by decide +kernel
theorem dX9_combine_199 : decode cX9_combine 199 = .ok (.lload_n 3, 1) := by decide +kernel
theorem dX9_combine_200 : decode cX9_combine 200 = .ok (.lload 5, 2) := by decide +kernel
theorem dX9_combine_202 : decode cX9_combine 202 = .ok (.lcmp, 1) := by decide +kernel
theorem dX9_combine_203 : decode cX9_combine 203 = .ok (.ifCond .ne 7, 3) := by decide +kernel
theorem dX9_combine_206 : decode cX9_combine 206 = .ok (.lconst 1, 1) := by decide +kernel
theorem dX9_combine_207 : decode cX9_combine 207 = .ok (.goto 4, 3) := by decide +kernel
theorem dX9_combine_210 : decode cX9_combine 210 = .ok (.lconst 0, 1) := by decide +kernel
theorem dX9_combine_211 : decode cX9_combine 211 = .ok (.lstore 7, 2) := by decide +kernel
theorem dX9_combine_213 : decode cX9_combine 213 = .ok (.aload_n 0, 1) := by decide +kernel
theorem dX9_combine_214 : decode cX9_combine 214 = .ok (.getfield 33, 3) := by decide +kernel
theorem dX9_combine_217 : decode cX9_combine 217 = .ok (.iload_n 2, 1) := by decide +kernel
theorem dX9_combine_218 : decode cX9_combine 218 = .ok (.lload 7, 2) := by decide +kernel
theorem dX9_combine_220 : decode cX9_combine 220 = .ok (.lastore, 1) := by decide +kernel
theorem dX9_combine_221 : decode cX9_combine 221 = .ok (.lload 7, 2) := by decide +kernel
theorem dX9_combine_223 : decode cX9_combine 223 = .ok (.ldc2_w 65, 3) := by decide +kernel
theorem dX9_combine_226 : decode cX9_combine 226 = .ok (.lcmp, 1) := by decide +kernel
theorem dX9_combine_227 : decode cX9_combine 227 = .ok (.ifCond .gt 16, 3) := by decide +kernel
theorem dX9_combine_230 : decode cX9_combine 230 = .ok (.lload 7, 2) := by decide +kernel
theorem dX9_combine_232 : decode cX9_combine 232 = .ok (.ldc2_w 67, 3) := by decide +kernel
theorem dX9_combine_235 : decode cX9_combine 235 = .ok (.lcmp, 1) := by decide +kernel
theorem dX9_combine_236 : decode cX9_combine 236 = .ok (.ifCond .lt 7, 3) := by decide +kernel
theorem dX9_combine_239 : decode cX9_combine 239 = .ok (.iconst 1, 1) := by decide +kernel
theorem dX9_combine_240 : decode cX9_combine 240 = .ok (.goto 4, 3) := by decide +kernel
theorem dX9_combine_243 : decode cX9_combine 243 = .ok (.iconst 0, 1) := by decide +kernel
theorem dX9_combine_244 : decode cX9_combine 244 = .ok (.ireturn, 1) := by decide +kernel
set_option maxRecDepth 20000 in
theorem rX9_combine_0 {E : EN} (hE : Ep E) {k : Nat} {mem : Mm} {Q : Int → Mm → Prop} {y p0 p1 : Int} (hy : isTx y)
    (h : ((p1 < 0 → VM E mX9_combine k mem 12 [] [] (retI Q)) ∧ (0 ≤ p1 → (R32 (p1 + 1)) ∧ (((p1 + 1) < 40 → (0 ≤ p1 ∧ p1 < 40) ∧ (0 ≤ (p1 + 1) ∧ (p1 + 1) < 40) ∧ ((¬ (mem (y + 8) (p1 + 1)) = 0 → VM E mX9_combine k mem 52 [(0, aR y), (1, aI p0), (2, aI p1), (3, aL (mem (y + 8) p1)), (5, aL (mem (y + 8) (p1 + 1)))] [] (retI Q)) ∧ ((mem (y + 8) (p1 + 1)) = 0 → ((p0 = 47 → VM E mX9_combine k mem 50 [] [] (retI Q)) ∧ (¬ p0 = 47 → ((¬ p0 = 37 → VM E mX9_combine k mem 52 [(0, aR y), (1, aI p0), (2, aI p1), (3, aL (mem (y + 8) p1)), (5, aL (mem (y + 8) (p1 + 1)))] [] (retI Q)) ∧ (p0 = 37 → VM E mX9_combine k mem 50 [] [] (retI Q)))))))) ∧ (40 ≤ (p1 + 1) → VM E mX9_combine k mem 12 [] [] (retI Q)))))) :
    VM E mX9_combine k mem 0 [(0, aR y), (1, aI p0), (2, aI p1)] [] (retI Q) := by
  refine v_iload_n (pc := 0) dX9_combine_0 2 rfl ?_
  refine v_iflt (pc := 1) (tgt := 12) dX9_combine_1 (by decide) (fun c1 => ?_) (fun c1 => ?_)
  · have h := h.1 c1
    exact VG_sub (al' := []) [] rfl h
  · have h := h.2 c1
    refine v_iload_n (pc := 4) dX9_combine_4 2 rfl ?_
    refine v_iconst (pc := 5) dX9_combine_5 (by decide) ?_
    obtain ⟨o1, h⟩ := h
    refine m_iadd (pc := 6) dX9_combine_6 o1 ?_
    refine v_bipush (pc := 7) dX9_combine_7 (by decide) ?_
    refine v_icmplt (pc := 9) (tgt := 14) dX9_combine_9 (by decide) (fun c1 => ?_) (fun c1 => ?_)
    · have h := h.1 c1
      refine v_aload_n (pc := 14) dX9_combine_14 0 rfl ?_
      refine m_getfin (pc := 15) (v := (y + 8)) hE dX9_combine_15 flX9_33 rfl (tx0 hy) rfl ?_
      refine v_iload_n (pc := 18) dX9_combine_18 2 rfl ?_
      obtain ⟨o2, h⟩ := h
      refine m_lald (pc := 19) (v := (mem (y + 8) p1)) dX9_combine_19 (tx8 hy) o2.1 o2.2 rfl ?_
      refine v_lstore_n (pc := 20) (al2 := [(3, aL (mem (y + 8) p1)), (0, aR y), (1, aI p0), (2, aI p1)]) dX9_combine_20 (by decide) rfl ?_
      refine v_aload_n (pc := 21) dX9_combine_21 1 rfl ?_
      refine m_getfin (pc := 22) (v := (y + 8)) hE dX9_combine_22 flX9_33 rfl (tx0 hy) rfl ?_
      refine v_iload_n (pc := 25) dX9_combine_25 3 rfl ?_
      refine v_iconst (pc := 26) dX9_combine_26 (by decide) ?_
      refine m_iadd (pc := 27) dX9_combine_27 o1 ?_
      obtain ⟨o3, h⟩ := h
      refine m_lald (pc := 28) (v := (mem (y + 8) (p1 + 1))) dX9_combine_28 (tx8 hy) o3.1 o3.2 rfl ?_
      refine v_lstore (pc := 29) (al2 := [(5, aL (mem (y + 8) (p1 + 1))), (3, aL (mem (y + 8) p1)), (0, aR y), (1, aI p0), (2, aI p1)]) dX9_combine_29 (by decide) rfl ?_
      refine v_lload (pc := 31) dX9_combine_31 0 rfl ?_
      refine v_lconst0 (pc := 33) dX9_combine_33 ?_
      refine v_lcmpne (pc := 34) (tgt := 52) dX9_combine_34 dX9_combine_35 (by decide) (fun c1 => ?_) (fun c1 => ?_)
      · have h := h.1 c1
        exact VG_sub (al' := [(0, aR y), (1, aI p0), (2, aI p1), (3, aL (mem (y + 8) p1)), (5, aL (mem (y + 8) (p1 + 1)))]) [2, 3, 4, 1, 0] rfl h
      · have h := h.2 c1
        refine v_iload_n (pc := 38) dX9_combine_38 3 rfl ?_
        refine v_bipush (pc := 39) dX9_combine_39 (by decide) ?_
        refine v_icmpeq (pc := 41) (tgt := 50) dX9_combine_41 (by decide) (fun c1 => ?_) (fun c1 => ?_)
        · have h := h.1 c1
          exact VG_sub (al' := []) [] rfl h
        · have h := h.2 c1
          refine v_iload_n (pc := 44) dX9_combine_44 3 rfl ?_
          refine v_bipush (pc := 45) dX9_combine_45 (by decide) ?_
          refine v_icmpne (pc := 47) (tgt := 52) dX9_combine_47 (by decide) (fun c1 => ?_) (fun c1 => ?_)
          · have h := h.1 c1
            exact VG_sub (al' := [(0, aR y), (1, aI p0), (2, aI p1), (3, aL (mem (y + 8) p1)), (5, aL (mem (y + 8) (p1 + 1)))]) [2, 3, 4, 1, 0] rfl h
          · have h := h.2 c1
            exact VG_sub (al' := []) [] rfl h
    · have h := h.2 c1
      exact VG_sub (al' := []) [] rfl h
theorem eX9_combine {E : EN} {k : Nat} {mem : Mm} {Q : Int → Mm → Prop} {y p0 p1 : Int} (hr_p0 : R32 p0) (hr_p1 : R32 p1) (h : VM E mX9_combine k mem 0 [(0, aR y), (1, aI p0), (2, aI p1)] [] (retI Q)) : CI E mX9_combine k mem [aR y, aI p0, aI p1] Q := CI_of rfl (Nat.le_of_ble_eq_true rfl) h (aNs_c (aNr_R _) (aNs_c (aNr_I hr_p0) (aNs_c (aNr_I hr_p1) (fun _ q => nomatch q))))
set_option maxRecDepth 20000 in
theorem rX9_combine_12 {E : EN} (hE : Ep E) {k : Nat} {mem : Mm} {Q : Int → Mm → Prop} {y p0 p1 : Int} (hy : isTx y)
    (h : Q 0 mem) :
    VM E mX9_combine k mem 12 [] [] (retI Q) := by
  refine v_iconst (pc := 12) dX9_combine_12 (by decide) ?_
  exact m_retZ (pc := 13) dX9_combine_13 rfl (by decide) h
set_option maxRecDepth 20000 in
theorem rX9_combine_52 {E : EN} (hE : Ep E) {k : Nat} {mem : Mm} {Q : Int → Mm → Prop} {y p0 p1 x3 x5 : Int} (hy : isTx y)
    (h : ((p0 = 37 → (¬ x5 = 0) ∧ VM E mX9_combine k mem 213 [(0, aR y), (2, aI p1), (7, aL (Int.tmod x3 x5))] [] (retI Q)) ∧ (p0 = 42 → (R64 (x3 * x5)) ∧ VM E mX9_combine k mem 213 [(0, aR y), (2, aI p1), (7, aL (x3 * x5))] [] (retI Q)) ∧ (p0 = 43 → (R64 (x3 + x5)) ∧ VM E mX9_combine k mem 213 [(0, aR y), (2, aI p1), (7, aL (x3 + x5))] [] (retI Q)) ∧ (p0 = 45 → (R64 (x3 - x5)) ∧ VM E mX9_combine k mem 213 [(0, aR y), (2, aI p1), (7, aL (x3 - x5))] [] (retI Q)) ∧ (p0 = 47 → (¬ x5 = 0) ∧ VM E mX9_combine k mem 213 [(0, aR y), (2, aI p1), (7, aL (w64 (Int.tdiv x3 x5)))] [] (retI Q)) ∧ (p0 = 60 → ((x5 ≤ x3 → VM E mX9_combine k mem 213 [(0, aR y), (2, aI p1), (7, aL 0)] [] (retI Q)) ∧ (x3 < x5 → VM E mX9_combine k mem 213 [(0, aR y), (2, aI p1), (7, aL 1)] [] (retI Q)))) ∧ (p0 = 62 → ((x3 ≤ x5 → VM E mX9_combine k mem 213 [(0, aR y), (2, aI p1), (7, aL 0)] [] (retI Q)) ∧ (x5 < x3 → VM E mX9_combine k mem 213 [(0, aR y), (2, aI p1), (7, aL 1)] [] (retI Q)))) ∧ ((¬ p0 = 37 ∧ ¬ p0 = 42 ∧ ¬ p0 = 43 ∧ ¬ p0 = 45 ∧ ¬ p0 = 47 ∧ ¬ p0 = 60 ∧ ¬ p0 = 62) → ((¬ x3 = x5 → VM E mX9_combine k mem 213 [(0, aR y), (2, aI p1), (7, aL 0)] [] (retI Q)) ∧ (x3 = x5 → VM E mX9_combine k mem 213 [(0, aR y), (2, aI p1), (7, aL 1)] [] (retI Q)))))) :
    VM E mX9_combine k mem 52 [(0, aR y), (1, aI p0), (2, aI p1), (3, aL x3), (5, aL x5)] [] (retI Q) := by
  refine v_iload_n (pc := 52) dX9_combine_52 1 rfl ?_
  rcases (show p0 = 37 ∨ p0 = 42 ∨ p0 = 43 ∨ p0 = 45 ∨ p0 = 47 ∨ p0 = 60 ∨ p0 = 62 ∨ (¬ p0 = 37 ∧ ¬ p0 = 42 ∧ ¬ p0 = 43 ∧ ¬ p0 = 45 ∧ ¬ p0 = 47 ∧ ¬ p0 = 60 ∧ ¬ p0 = 62) by omega) with c1 | c1 | c1 | c1 | c1 | c1 | c1 | c1
  · have h := h.1 c1
    refine v_lookup (pc := 53) (tgt := 156) dX9_combine_53 (by decide) (by rw [c1] <;> rfl) (by decide) ?_
    refine v_lload_n (pc := 156) dX9_combine_156 3 rfl ?_
    refine v_lload (pc := 157) dX9_combine_157 4 rfl ?_
    obtain ⟨o1, h⟩ := h
    refine v_lrem (pc := 159) dX9_combine_159 o1 ?_
    refine v_lstore (pc := 160) (al2 := [(7, aL (Int.tmod x3 x5)), (0, aR y), (1, aI p0), (2, aI p1), (3, aL x3), (5, aL x5)]) dX9_combine_160 (by decide) rfl ?_
    refine v_goto (pc := 162) (tgt := 213) dX9_combine_162 (by decide) ?_
    exact VG_sub (al' := [(0, aR y), (2, aI p1), (7, aL (Int.tmod x3 x5))]) [1, 3, 0] rfl h
  · have h := h.2.1 c1
    refine v_lookup (pc := 53) (tgt := 138) dX9_combine_53 (by decide) (by rw [c1] <;> rfl) (by decide) ?_
    refine v_lload_n (pc := 138) dX9_combine_138 3 rfl ?_
    refine v_lload (pc := 139) dX9_combine_139 4 rfl ?_
    obtain ⟨o2, h⟩ := h
    refine m_lmul (pc := 141) dX9_combine_141 o2 ?_
    refine v_lstore (pc := 142) (al2 := [(7, aL (x3 * x5)), (0, aR y), (1, aI p0), (2, aI p1), (3, aL x3), (5, aL x5)]) dX9_combine_142 (by decide) rfl ?_
    refine v_goto (pc := 144) (tgt := 213) dX9_combine_144 (by decide) ?_
    exact VG_sub (al' := [(0, aR y), (2, aI p1), (7, aL (x3 * x5))]) [1, 3, 0] rfl h
  · have h := h.2.2.1 c1
    refine v_lookup (pc := 53) (tgt := 120) dX9_combine_53 (by decide) (by rw [c1] <;> rfl) (by decide) ?_
    refine v_lload_n (pc := 120) dX9_combine_120 3 rfl ?_
    refine v_lload (pc := 121) dX9_combine_121 4 rfl ?_
    obtain ⟨o3, h⟩ := h
    refine m_ladd (pc := 123) dX9_combine_123 o3 ?_
    refine v_lstore (pc := 124) (al2 := [(7, aL (x3 + x5)), (0, aR y), (1, aI p0), (2, aI p1), (3, aL x3), (5, aL x5)]) dX9_combine_124 (by decide) rfl ?_
    refine v_goto (pc := 126) (tgt := 213) dX9_combine_126 (by decide) ?_
    exact VG_sub (al' := [(0, aR y), (2, aI p1), (7, aL (x3 + x5))]) [1, 3, 0] rfl h
  · have h := h.2.2.2.1 c1
    refine v_lookup (pc := 53) (tgt := 129) dX9_combine_53 (by decide) (by rw [c1] <;> rfl) (by decide) ?_
    refine v_lload_n (pc := 129) dX9_combine_129 3 rfl ?_
    refine v_lload (pc := 130) dX9_combine_130 4 rfl ?_
    obtain ⟨o4, h⟩ := h
    refine m_lsub (pc := 132) dX9_combine_132 o4 ?_
    refine v_lstore (pc := 133) (al2 := [(7, aL (x3 - x5)), (0, aR y), (1, aI p0), (2, aI p1), (3, aL x3), (5, aL x5)]) dX9_combine_133 (by decide) rfl ?_
    refine v_goto (pc := 135) (tgt := 213) dX9_combine_135 (by decide) ?_
    exact VG_sub (al' := [(0, aR y), (2, aI p1), (7, aL (x3 - x5))]) [1, 3, 0] rfl h
  · have h := h.2.2.2.2.1 c1
    refine v_lookup (pc := 53) (tgt := 147) dX9_combine_53 (by decide) (by rw [c1] <;> rfl) (by decide) ?_
    refine v_lload_n (pc := 147) dX9_combine_147 3 rfl ?_
    refine v_lload (pc := 148) dX9_combine_148 4 rfl ?_
    obtain ⟨o5, h⟩ := h
    refine v_ldiv (pc := 150) dX9_combine_150 o5 ?_
    refine v_lstore (pc := 151) (al2 := [(7, aL (w64 (Int.tdiv x3 x5))), (0, aR y), (1, aI p0), (2, aI p1), (3, aL x3), (5, aL x5)]) dX9_combine_151 (by decide) rfl ?_
    refine v_goto (pc := 153) (tgt := 213) dX9_combine_153 (by decide) ?_
    exact VG_sub (al' := [(0, aR y), (2, aI p1), (7, aL (w64 (Int.tdiv x3 x5)))]) [1, 3, 0] rfl h
  · have h := h.2.2.2.2.2.1 c1
    refine v_lookup (pc := 53) (tgt := 165) dX9_combine_53 (by decide) (by rw [c1] <;> rfl) (by decide) ?_
    refine v_lload_n (pc := 165) dX9_combine_165 3 rfl ?_
    refine v_lload (pc := 166) dX9_combine_166 4 rfl ?_
    refine v_lcmpge (pc := 168) (tgt := 176) dX9_combine_168 dX9_combine_169 (by decide) (fun c1 => ?_) (fun c1 => ?_)
    · have h := h.1 c1
      refine v_lconst0 (pc := 176) dX9_combine_176 ?_
      refine v_lstore (pc := 177) (al2 := [(7, aL 0), (0, aR y), (1, aI p0), (2, aI p1), (3, aL x3), (5, aL x5)]) dX9_combine_177 (by decide) rfl ?_
      refine v_goto (pc := 179) (tgt := 213) dX9_combine_179 (by decide) ?_
      exact VG_sub (al' := [(0, aR y), (2, aI p1), (7, aL 0)]) [1, 3, 0] rfl h
    · have h := h.2 c1
      refine v_lconst1 (pc := 172) dX9_combine_172 ?_
      refine v_goto (pc := 173) (tgt := 177) dX9_combine_173 (by decide) ?_
      refine v_lstore (pc := 177) (al2 := [(7, aL 1), (0, aR y), (1, aI p0), (2, aI p1), (3, aL x3), (5, aL x5)]) dX9_combine_177 (by decide) rfl ?_
      refine v_goto (pc := 179) (tgt := 213) dX9_combine_179 (by decide) ?_
      exact VG_sub (al' := [(0, aR y), (2, aI p1), (7, aL 1)]) [1, 3, 0] rfl h
  · have h := h.2.2.2.2.2.2.1 c1
    refine v_lookup (pc := 53) (tgt := 182) dX9_combine_53 (by decide) (by rw [c1] <;> rfl) (by decide) ?_
    refine v_lload_n (pc := 182) dX9_combine_182 3 rfl ?_
    refine v_lload (pc := 183) dX9_combine_183 4 rfl ?_
    refine v_lcmple (pc := 185) (tgt := 193) dX9_combine_185 dX9_combine_186 (by decide) (fun c1 => ?_) (fun c1 => ?_)
    · have h := h.1 c1
      refine v_lconst0 (pc := 193) dX9_combine_193 ?_
      refine v_lstore (pc := 194) (al2 := [(7, aL 0), (0, aR y), (1, aI p0), (2, aI p1), (3, aL x3), (5, aL x5)]) dX9_combine_194 (by decide) rfl ?_
      refine v_goto (pc := 196) (tgt := 213) dX9_combine_196 (by decide) ?_
      exact VG_sub (al' := [(0, aR y), (2, aI p1), (7, aL 0)]) [1, 3, 0] rfl h
    · have h := h.2 c1
      refine v_lconst1 (pc := 189) dX9_combine_189 ?_
      refine v_goto (pc := 190) (tgt := 194) dX9_combine_190 (by decide) ?_
      refine v_lstore (pc := 194) (al2 := [(7, aL 1), (0, aR y), (1, aI p0), (2, aI p1), (3, aL x3), (5, aL x5)]) dX9_combine_194 (by decide) rfl ?_
      refine v_goto (pc := 196) (tgt := 213) dX9_combine_196 (by decide) ?_
      exact VG_sub (al' := [(0, aR y), (2, aI p1), (7, aL 1)]) [1, 3, 0] rfl h
  · have h := h.2.2.2.2.2.2.2 c1
    refine v_lookup (pc := 53) (tgt := 199) (off := 146) dX9_combine_53 (by decide) (by simp [Op.lookupswitch.offset]; repeat (first | omega | split)) (by decide) ?_
    refine v_lload_n (pc := 199) dX9_combine_199 3 rfl ?_
    refine v_lload (pc := 200) dX9_combine_200 4 rfl ?_
    refine v_lcmpne (pc := 202) (tgt := 210) dX9_combine_202 dX9_combine_203 (by decide) (fun c1 => ?_) (fun c1 => ?_)
    · have h := h.1 c1
      refine v_lconst0 (pc := 210) dX9_combine_210 ?_
      refine v_lstore (pc := 211) (al2 := [(7, aL 0), (0, aR y), (1, aI p0), (2, aI p1), (3, aL x3), (5, aL x5)]) dX9_combine_211 (by decide) rfl ?_
      exact VG_sub (al' := [(0, aR y), (2, aI p1), (7, aL 0)]) [1, 3, 0] rfl h
    · have h := h.2 c1
      refine v_lconst1 (pc := 206) dX9_combine_206 ?_
      refine v_goto (pc := 207) (tgt := 211) dX9_combine_207 (by decide) ?_
      refine v_lstore (pc := 211) (al2 := [(7, aL 1), (0, aR y), (1, aI p0), (2, aI p1), (3, aL x3), (5, aL x5)]) dX9_combine_211 (by decide) rfl ?_
      exact VG_sub (al' := [(0, aR y), (2, aI p1), (7, aL 1)]) [1, 3, 0] rfl h
set_option maxRecDepth 20000 in
theorem rX9_combine_50 {E : EN} (hE : Ep E) {k : Nat} {mem : Mm} {Q : Int → Mm → Prop} {y p0 p1 : Int} (hy : isTx y)
    (h : Q 0 mem) :
    VM E mX9_combine k mem 50 [] [] (retI Q) := by
  refine v_iconst (pc := 50) dX9_combine_50 (by decide) ?_
  exact m_retZ (pc := 51) dX9_combine_51 rfl (by decide) h
set_option maxRecDepth 20000 in
theorem rX9_combine_213 {E : EN} (hE : Ep E) {k : Nat} {mem : Mm} {Q : Int → Mm → Prop} {y p0 p1 x7 : Int} (hy : isTx y)
    (h : (0 ≤ p1 ∧ p1 < 40) ∧ ((1000000000 < x7 → VM E mX9_combine k (aUp mem (y + 8) p1 x7) 243 [] [] (retI Q)) ∧ (x7 ≤ 1000000000 → ((x7 < (-1000000000) → VM E mX9_combine k (aUp mem (y + 8) p1 x7) 243 [] [] (retI Q)) ∧ ((-1000000000) ≤ x7 → Q 1 (aUp mem (y + 8) p1 x7)))))) :
    VM E mX9_combine k mem 213 [(0, aR y), (2, aI p1), (7, aL x7)] [] (retI Q) := by
  refine v_aload_n (pc := 213) dX9_combine_213 0 rfl ?_
  refine m_getfin (pc := 214) (v := (y + 8)) hE dX9_combine_214 flX9_33 rfl (tx0 hy) rfl ?_
  refine v_iload_n (pc := 217) dX9_combine_217 1 rfl ?_
  refine v_lload (pc := 218) dX9_combine_218 2 rfl ?_
  obtain ⟨o1, h⟩ := h
  refine v_last (pc := 220) dX9_combine_220 (tx8 hy) o1.1 o1.2 ?_
  refine v_lload (pc := 221) dX9_combine_221 2 rfl ?_
  refine v_ldc2 (pc := 223) (n := 1000000000) dX9_combine_223 cnX9_65 (by decide) ?_
  refine v_lcmpgt (pc := 226) (tgt := 243) dX9_combine_226 dX9_combine_227 (by decide) (fun c1 => ?_) (fun c1 => ?_)
  · have h := h.1 c1
    exact VG_sub (al' := []) [] rfl h
  · have h := h.2 c1
    refine v_lload (pc := 230) dX9_combine_230 2 rfl ?_
    refine v_ldc2 (pc := 232) (n := (-1000000000)) dX9_combine_232 cnX9_67 (by decide) ?_
    refine v_lcmplt (pc := 235) (tgt := 243) dX9_combine_235 dX9_combine_236 (by decide) (fun c1 => ?_) (fun c1 => ?_)
    · have h := h.1 c1
      exact VG_sub (al' := []) [] rfl h
    · have h := h.2 c1
      refine v_iconst (pc := 239) dX9_combine_239 (by decide) ?_
      refine v_goto (pc := 240) (tgt := 244) dX9_combine_240 (by decide) ?_
      exact m_retZ (pc := 244) dX9_combine_244 rfl (by decide) h
set_option maxRecDepth 20000 in
theorem rX9_combine_243 {E : EN} (hE : Ep E) {k : Nat} {mem : Mm} {Q : Int → Mm → Prop} {y p0 p1 : Int} (hy : isTx y)
    (h : Q 0 mem) :
    VM E mX9_combine k mem 243 [] [] (retI Q) := by
  refine v_iconst (pc := 243) dX9_combine_243 (by decide) ?_
  exact m_retZ (pc := 244) dX9_combine_244 rfl (by decide) h
