theorem sub_blk {m m2 : Mm} {a n : Int} (h : ∀ b, a ≤ b → b < a + n → m2 b = m b) (off size : Int) (h0 : 0 ≤ off) (h1 : off + size ≤ n) : ∀ b, a + off ≤ b → b < a + off + size → m2 b = m b := fun b hb1 hb2 => h b (by omega) (by omega)
theorem at_blk {m m2 : Mm} {a n : Int} (h : ∀ b, a ≤ b → b < a + n → m2 b = m b) (off : Int) (h0 : 0 ≤ off) (h1 : off < n) : m2 (a + off) = m (a + off) := h _ (by omega) (by omega)
theorem okX_c {m m2 : Mm} {a : Int} (h : ∀ b, a ≤ b → b < a + 603 → m2 b = m b) (q : okX m a) : okX m2 a := by
  have h0 : m2 a = m a := h a (by omega) (by omega)
  have h9 := at_blk h 409 (by decide) (by decide)
  obtain ⟨q1, q2, q3, q4, q5, q6, q7, q8, q9, q10, q11, q12, q13, q14, q15, q16, q17, q18, q19, q20, q21, q22, q23, q24, q25, q26⟩ := q
  rw [← h0] at q1 q2 q3 q4 q5 q6 q7 q8 q9 q10 q11 q12 q13 q14
  rw [← h9] at q18 q19
  exact ⟨q1, q2, q3, q4, q5, q6, q7, q8, q9, q10, q11, q12, q13, q14, okSx_c (sub_blk h 1 348 (by decide) (by decide)) q15, okFd_c (sub_blk h 349 4 (by decide) (by decide)) q16, okLw_c (sub_blk h 353 56 (by decide) (by decide)) q17, q18, q19, okIm_c (sub_blk h 410 71 (by decide) (by decide)) q20, okIm_c (sub_blk h 481 71 (by decide) (by decide)) q21, okPp_c (sub_blk h 552 24 (by decide) (by decide)) q22, okPk_c (sub_blk h 576 4 (by decide) (by decide)) q23, okDr_c (sub_blk h 580 11 (by decide) (by decide)) q24, okRd_c (sub_blk h 591 11 (by decide) (by decide)) q25, okA_c (at_blk h 602 (by decide) (by decide)) q26⟩
theorem law_entry {E : EN} {k b : Nat} {mem : Mm} {Q : PQ} (hph : E.2.2.2.2.2.1 = false) (h : ∀ m2 : Mm, okX m2 0 → okM m2 603 → VG E mL_law (k + 5) cL_C cL_S SH m2 (cL_C, cL_S) 18 [(0, aF b), (1, aR 0), (2, aR 603), (3, aI 0)] [] Q) : VG E mL_law (k + 5) cL_C cL_S [] mem (0, 0) 0 [(0, aF b)] [] Q := by
  refine w_new (pc := 0) (L := 0) hph rfl dL_law_0 clL_7 ck11 in11 nz11 at2_11 1 14 rfl rfl (Nat.le_of_ble_eq_true rfl) (Nat.le_of_ble_eq_true rfl) (fun sh1 m1 s1 hl1 z1 u1 e1 f1 => ?_)
  refine v_dup (pc := 3) dL_law_3 rfl ?_
  refine w_init (pc := 4) (mi' := mX11_init) (L := 0) (t := tlX) (ok := okX) dL_law_4 (fun Q2 hq => iX11_init hph hl1 (getE s1 rfl) e1 hq) msX11_init iiX11_init rfl rfl lkL_9 603 24485 rfl rfl ⟨Nat.le_of_ble_eq_true rfl, Nat.le_of_ble_eq_true rfl⟩ (Nat.le_of_ble_eq_true rfl) hl1 lnX (fun sh2 m2 s2 hl2 u2 k2 f2 => ?_)
  refine v_astore_n (pc := 7) (al2 := [(1, aR ((0 : Nat) : Int)), (0, aF b)]) dL_law_7 (by decide) rfl ?_
  refine w_new (pc := 8) (L := 603) hph hl2 dL_law_8 clL_10 ck12 in12 nz12 at2_12 604 24546 rfl rfl (Nat.le_of_ble_eq_true rfl) (Nat.le_of_ble_eq_true rfl) (fun sh3 m3 s3 hl3 z3 u3 e3 f3 => ?_)
  refine v_dup (pc := 11) dL_law_11 rfl ?_
  refine w_init (pc := 12) (mi' := mX12_init) (L := 603) (t := tlM) (ok := okM) dL_law_12 (fun Q2 hq => iX12_init hph hl3 (getE s3 hl2) e3 hq) msX12_init iiX12_init rfl rfl lkL_12 cL_C cL_S rfl rfl ⟨Nat.le_of_ble_eq_true rfl, Nat.le_of_ble_eq_true rfl⟩ (Nat.le_of_ble_eq_true rfl) hl3 lnM (fun sh4 m4 s4 hl4 u4 k4 f4 => ?_)
  refine v_astore_n (pc := 15) (al2 := [(2, aR ((603 : Nat) : Int)), (1, aR ((0 : Nat) : Int)), (0, aF b)]) dL_law_15 (by decide) rfl ?_
  refine v_iconst (pc := 16) dL_law_16 (by decide) ?_
  refine v_istore_n (pc := 17) (al2 := [(3, aI 0), (2, aR ((603 : Nat) : Int)), (1, aR ((0 : Nat) : Int)), (0, aF b)]) dL_law_17 (by decide) rfl ?_
  have e9 : sh4 = SH := by
    rw [s4, s3, s2, s1, SH_tl]
    simp only [List.append_assoc]
    rfl
  rw [e9]
  have hX : okX m4 ((0 : Nat) : Int) := okX_c (fun b hb1 hb2 => by rw [f4 b (by omega), f3 b (by omega)]) k2
  exact VG_sub (al' := [(0, aF b), (1, aR 0), (2, aR 603), (3, aI 0)]) [3, 2, 1, 0] rfl (h m4 hX k4)
theorem pt_yd {m : Mm} {p : Int} (h : okPt m p) {y : Int} (h1 : p + 3 ≤ y) (h2 : y ≤ p + 153) (h3 : (y - p - 3) % 10 = 0) : okY m y := by
  have h4 := (h.2.2.2.2 ((y - p - 3) / 10) (by omega) (by omega)).2
  rwa [show p + 3 + 10 * ((y - p - 3) / 10) = y by omega] at h4
theorem lw_tx {m : Mm} {p : Int} (h : okLw m p) {y : Int} (h1 : p + 2 ≤ y) (h2 : y ≤ p + 47) (h3 : (y - p - 2) % 9 = 0) : okTx m y := by
  have h4 := (h.2.2.2 ((y - p - 2) / 9) (by omega) (by omega)).2
  rwa [show p + 2 + 9 * ((y - p - 2) / 9) = y by omega] at h4
theorem all_yd {m : Mm} (h : okX m 0) {y : Int} (hy : isYd y) : okY m y := by
  obtain ⟨-, -, -, -, -, -, -, -, -, -, -, -, -, -, hs, -, -, -, -, h4, h5, h6, -, h7, -, -⟩ := h
  obtain ⟨-, -, -, -, -, -, -, s1, s2, s3, s4, -⟩ := hs
  rcases hy with rfl | ⟨h1, h2, h3⟩ | rfl | ⟨h1, h2, h3⟩ | rfl | rfl | rfl | rfl | rfl
  · exact s1
  · exact pt_yd s2 (by omega) (by omega) (by omega)
  · exact s3
  · exact pt_yd s4 (by omega) (by omega) (by omega)
  · exact h4.2.2.2.2.1
  · exact h5.2.2.2.2.1
  · exact h6.2.2.2.2.2.2.1
  · exact h6.2.2.2.2.2.2.2.1
  · exact h7.2.2
theorem all_tx {m : Mm} (h : okX m 0) {y : Int} (hy : isTx y) : okTx m y := by
  obtain ⟨-, -, -, -, -, -, -, -, -, -, -, -, -, -, -, -, hl, -, -, h4, h5, -, -, -, h7, -⟩ := h
  rcases hy with ⟨h1, h2, h3⟩ | ⟨h1, h2, h3⟩ | ⟨h1, h2, h3⟩ | rfl
  · exact lw_tx hl (by omega) (by omega) (by omega)
  · exact lw_tx h4.2.2.2.2.2.2 (by omega) (by omega) (by omega)
  · exact lw_tx h5.2.2.2.2.2.2 (by omega) (by omega) (by omega)
  · exact h7.2.2.2.2.2
def kdOf (j : Nat) : Nat := (SH.getD j (99, 0)).1
theorem kd_10 : ∀ j : Fin 636, kdOf j.1 = 10 → (j.1 = 2 ∨ (15 ≤ j.1 ∧ j.1 ≤ 165 ∧ j.1 % 10 = 5) ∨ j.1 = 175 ∨ (188 ≤ j.1 ∧ j.1 ≤ 338 ∧ j.1 % 10 = 8) ∨ j.1 = 411 ∨ j.1 = 482 ∨ j.1 = 553 ∨ j.1 = 563 ∨ j.1 = 581) := by decide +kernel
theorem kd_9 : ∀ j : Fin 636, kdOf j.1 = 9 → ((355 ≤ j.1 ∧ j.1 ≤ 400 ∧ j.1 % 9 = 4) ∨ (427 ≤ j.1 ∧ j.1 ≤ 472 ∧ j.1 % 9 = 4) ∨ (498 ≤ j.1 ∧ j.1 ≤ 543 ∧ j.1 % 9 = 3) ∨ j.1 = 593) := by decide +kernel
theorem kd_1 : ∀ j : Fin 636, kdOf j.1 = 1 → (j.1 = 349 ∨ j.1 = 421 ∨ j.1 = 492) := by decide +kernel
theorem kd_3 : ∀ j : Fin 636, kdOf j.1 = 3 → (j.1 = 353 ∨ j.1 = 425 ∨ j.1 = 496) := by decide +kernel
theorem kd_6 : ∀ j : Fin 636, kdOf j.1 = 6 → (j.1 = 12 ∨ j.1 = 185) := by decide +kernel
theorem kd_2 : ∀ j : Fin 636, kdOf j.1 = 2 → (j.1 = 410 ∨ j.1 = 481) := by decide +kernel
theorem kd_0 : ∀ j : Fin 636, kdOf j.1 = 0 → (j.1 = 580) := by decide +kernel
theorem kd_4 : ∀ j : Fin 636, kdOf j.1 = 4 → (j.1 = 576) := by decide +kernel
theorem kd_5 : ∀ j : Fin 636, kdOf j.1 = 5 → (j.1 = 552) := by decide +kernel
theorem kd_7 : ∀ j : Fin 636, kdOf j.1 = 7 → (j.1 = 591) := by decide +kernel
theorem kd_8 : ∀ j : Fin 636, kdOf j.1 = 8 → (j.1 = 1) := by decide +kernel
theorem kd_11 : ∀ j : Fin 636, kdOf j.1 = 11 → (j.1 = 0) := by decide +kernel
theorem kd_12 : ∀ j : Fin 636, kdOf j.1 = 12 → (j.1 = 603) := by decide +kernel
theorem kd_16 : ∀ j : Fin 636, kdOf j.1 = 16 → (j.1 = 409) := by decide +kernel
theorem kd_17 : ∀ j : Fin 636, kdOf j.1 = 17 → (j.1 = 354 ∨ j.1 = 426 ∨ j.1 = 497) := by decide +kernel
theorem kd_lt : ∀ j : Fin 636, kdOf j.1 ≤ 18 := by decide +kernel
theorem ite_some {p : Prop} [Decidable p] {x v : Int} {r : Option Int} (h : (if p then some x else r) = some v) : (p ∧ x = v) ∨ r = some v := by
  split at h
  · exact Or.inl ⟨by assumption, Option.some.inj h⟩
  · exact Or.inr h
theorem all_fd {m : Mm} (h : okX m 0) {y : Int} (hy : isFd y) : okFd m y := by
  obtain ⟨-, -, -, -, -, -, -, -, -, -, -, -, -, -, -, h1, -, -, -, h4, h5, -, -, -, -, -⟩ := h
  rcases hy with rfl | rfl | rfl
  · exact h1
  · exact h4.2.2.2.2.2.1
  · exact h5.2.2.2.2.2.1
theorem all_lw {m : Mm} (h : okX m 0) {y : Int} (hy : isLw y) : okLw m y := by
  obtain ⟨-, -, -, -, -, -, -, -, -, -, -, -, -, -, -, -, h1, -, -, h4, h5, -, -, -, -, -⟩ := h
  rcases hy with rfl | rfl | rfl
  · exact h1
  · exact h4.2.2.2.2.2.2
  · exact h5.2.2.2.2.2.2
theorem all_pt {m : Mm} (h : okX m 0) {y : Int} (hy : isPt y) : okPt m y := by
  obtain ⟨-, -, -, -, -, -, -, -, -, -, -, -, -, -, hs, -, -, -, -, -, -, -, -, -, -, -⟩ := h
  obtain ⟨-, -, -, -, -, -, -, s1, s2, s3, s4, -⟩ := hs
  rcases hy with rfl | rfl
  · exact s2
  · exact s4
theorem all_im {m : Mm} (h : okX m 0) {y : Int} (hy : isIm y) : okIm m y := by
  obtain ⟨-, -, -, -, -, -, -, -, -, -, -, -, -, -, -, -, -, -, -, h4, h5, -, -, -, -, -⟩ := h
  rcases hy with rfl | rfl
  · exact h4
  · exact h5
theorem fin10 {m : Mm} {y i v : Int} (q : okY m y) (hf : flk 10 y i = some v) : m y i = v := by
  unfold flk at hf
  rcases ite_some hf with ⟨rfl, rfl⟩ | hf
  · exact (q.1 0 (by decide) (by decide)).trans (by omega)
  rcases ite_some hf with ⟨rfl, rfl⟩ | hf
  · exact (q.1 1 (by decide) (by decide)).trans (by omega)
  rcases ite_some hf with ⟨rfl, rfl⟩ | hf
  · exact (q.1 2 (by decide) (by decide)).trans (by omega)
  rcases ite_some hf with ⟨rfl, rfl⟩ | hf
  · exact (q.1 3 (by decide) (by decide)).trans (by omega)
  rcases ite_some hf with ⟨rfl, rfl⟩ | hf
  · exact (q.1 4 (by decide) (by decide)).trans (by omega)
  rcases ite_some hf with ⟨rfl, rfl⟩ | hf
  · exact (q.1 5 (by decide) (by decide)).trans (by omega)
  rcases ite_some hf with ⟨rfl, rfl⟩ | hf
  · exact (q.1 6 (by decide) (by decide)).trans (by omega)
  rcases ite_some hf with ⟨rfl, rfl⟩ | hf
  · exact (q.1 7 (by decide) (by decide)).trans (by omega)
  rcases ite_some hf with ⟨rfl, rfl⟩ | hf
  · exact (q.1 8 (by decide) (by decide)).trans (by omega)
  cases hf
theorem fin9 {m : Mm} {y i v : Int} (q : okTx m y) (hf : flk 9 y i = some v) : m y i = v := by
  unfold flk at hf
  rcases ite_some hf with ⟨rfl, rfl⟩ | hf
  · exact (q.2.2.1 1 (by decide) (by decide)).trans (by omega)
  rcases ite_some hf with ⟨rfl, rfl⟩ | hf
  · exact (q.2.2.1 2 (by decide) (by decide)).trans (by omega)
  rcases ite_some hf with ⟨rfl, rfl⟩ | hf
  · exact (q.2.2.1 3 (by decide) (by decide)).trans (by omega)
  rcases ite_some hf with ⟨rfl, rfl⟩ | hf
  · exact (q.2.2.1 4 (by decide) (by decide)).trans (by omega)
  rcases ite_some hf with ⟨rfl, rfl⟩ | hf
  · exact (q.2.2.1 5 (by decide) (by decide)).trans (by omega)
  rcases ite_some hf with ⟨rfl, rfl⟩ | hf
  · exact (q.2.2.1 6 (by decide) (by decide)).trans (by omega)
  rcases ite_some hf with ⟨rfl, rfl⟩ | hf
  · exact (q.2.2.1 7 (by decide) (by decide)).trans (by omega)
  rcases ite_some hf with ⟨rfl, rfl⟩ | hf
  · exact q.2.2.2.1
  cases hf
theorem fin1 {m : Mm} {y i v : Int} (q : okFd m y) (hf : flk 1 y i = some v) : m y i = v := by
  unfold flk at hf
  rcases ite_some hf with ⟨rfl, rfl⟩ | hf
  · exact q.2.1 1 (by decide) (by decide)
  rcases ite_some hf with ⟨rfl, rfl⟩ | hf
  · exact q.2.1 2 (by decide) (by decide)
  rcases ite_some hf with ⟨rfl, rfl⟩ | hf
  · exact q.2.1 3 (by decide) (by decide)
  cases hf
theorem fin4 {m : Mm} {y i v : Int} (q : okPk m y) (hf : flk 4 y i = some v) : m y i = v := by
  unfold flk at hf
  rcases ite_some hf with ⟨rfl, rfl⟩ | hf
  · exact (q.1 0 (by decide) (by decide)).trans (by omega)
  rcases ite_some hf with ⟨rfl, rfl⟩ | hf
  · exact (q.1 1 (by decide) (by decide)).trans (by omega)
  rcases ite_some hf with ⟨rfl, rfl⟩ | hf
  · exact (q.1 2 (by decide) (by decide)).trans (by omega)
  cases hf
theorem fin3 {m : Mm} {y i v : Int} (q : okLw m y) (hf : flk 3 y i = some v) : m y i = v := by
  unfold flk at hf
  rcases ite_some hf with ⟨rfl, rfl⟩ | hf
  · exact q.1
  cases hf
theorem fin6 {m : Mm} {y i v : Int} (q : okPt m y) (hf : flk 6 y i = some v) : m y i = v := by
  unfold flk at hf
  rcases ite_some hf with ⟨rfl, rfl⟩ | hf
  · exact q.1
  rcases ite_some hf with ⟨rfl, rfl⟩ | hf
  · exact q.2.1
  cases hf
theorem fin2 {m : Mm} {y i v : Int} (q : okIm m y) (hf : flk 2 y i = some v) : m y i = v := by
  unfold flk at hf
  rcases ite_some hf with ⟨rfl, rfl⟩ | hf
  · exact q.1
  rcases ite_some hf with ⟨rfl, rfl⟩ | hf
  · exact q.2.1
  rcases ite_some hf with ⟨rfl, rfl⟩ | hf
  · exact q.2.2.1
  cases hf
theorem fin5 {m : Mm} {y i v : Int} (q : okPp m y) (hf : flk 5 y i = some v) : m y i = v := by
  unfold flk at hf
  rcases ite_some hf with ⟨rfl, rfl⟩ | hf
  · exact q.1
  rcases ite_some hf with ⟨rfl, rfl⟩ | hf
  · exact q.2.1
  rcases ite_some hf with ⟨rfl, rfl⟩ | hf
  · exact q.2.2.1
  rcases ite_some hf with ⟨rfl, rfl⟩ | hf
  · exact q.2.2.2.1
  rcases ite_some hf with ⟨rfl, rfl⟩ | hf
  · exact q.2.2.2.2.1
  cases hf
theorem fin0 {m : Mm} {y i v : Int} (q : okDr m y) (hf : flk 0 y i = some v) : m y i = v := by
  unfold flk at hf
  rcases ite_some hf with ⟨rfl, rfl⟩ | hf
  · exact q.1
  cases hf
theorem fin8 {m : Mm} {y i v : Int} (q : okSx m y) (hf : flk 8 y i = some v) : m y i = v := by
  unfold flk at hf
  rcases ite_some hf with ⟨rfl, rfl⟩ | hf
  · exact q.1
  rcases ite_some hf with ⟨rfl, rfl⟩ | hf
  · exact q.2.1
  rcases ite_some hf with ⟨rfl, rfl⟩ | hf
  · exact q.2.2.1
  rcases ite_some hf with ⟨rfl, rfl⟩ | hf
  · exact q.2.2.2.1
  rcases ite_some hf with ⟨rfl, rfl⟩ | hf
  · exact q.2.2.2.2.1
  cases hf
theorem fin11 {m : Mm} {y i v : Int} (q : okX m y) (hf : flk 11 y i = some v) : m y i = v := by
  unfold flk at hf
  rcases ite_some hf with ⟨rfl, rfl⟩ | hf
  · exact q.1
  rcases ite_some hf with ⟨rfl, rfl⟩ | hf
  · exact q.2.1
  rcases ite_some hf with ⟨rfl, rfl⟩ | hf
  · exact q.2.2.1
  rcases ite_some hf with ⟨rfl, rfl⟩ | hf
  · exact q.2.2.2.1
  rcases ite_some hf with ⟨rfl, rfl⟩ | hf
  · exact q.2.2.2.2.1
  rcases ite_some hf with ⟨rfl, rfl⟩ | hf
  · exact q.2.2.2.2.2.1
  rcases ite_some hf with ⟨rfl, rfl⟩ | hf
  · exact q.2.2.2.2.2.2.1
  rcases ite_some hf with ⟨rfl, rfl⟩ | hf
  · exact q.2.2.2.2.2.2.2.1
  rcases ite_some hf with ⟨rfl, rfl⟩ | hf
  · exact q.2.2.2.2.2.2.2.2.1
  rcases ite_some hf with ⟨rfl, rfl⟩ | hf
  · exact q.2.2.2.2.2.2.2.2.2.1
  rcases ite_some hf with ⟨rfl, rfl⟩ | hf
  · exact q.2.2.2.2.2.2.2.2.2.2.1
  cases hf
theorem fin7 {m : Mm} {y i v : Int} (q : okRd m y) (hf : flk 7 y i = some v) : m y i = v := by
  unfold flk at hf
  rcases ite_some hf with ⟨rfl, rfl⟩ | hf
  · exact q.1
  rcases ite_some hf with ⟨rfl, rfl⟩ | hf
  · exact q.2.1
  cases hf
theorem fin12 {m : Mm} {y i v : Int} (q : okM m y) (hf : flk 12 y i = some v) : m y i = v := by
  unfold flk at hf
  rcases ite_some hf with ⟨rfl, rfl⟩ | hf
  · exact q.1
  rcases ite_some hf with ⟨rfl, rfl⟩ | hf
  · exact q.2.1
  rcases ite_some hf with ⟨rfl, rfl⟩ | hf
  · exact q.2.2.1
  rcases ite_some hf with ⟨rfl, rfl⟩ | hf
  · exact q.2.2.2.1
  rcases ite_some hf with ⟨rfl, rfl⟩ | hf
  · exact q.2.2.2.2.1
  rcases ite_some hf with ⟨rfl, rfl⟩ | hf
  · exact q.2.2.2.2.2.1
  rcases ite_some hf with ⟨rfl, rfl⟩ | hf
  · exact q.2.2.2.2.2.2.1
  rcases ite_some hf with ⟨rfl, rfl⟩ | hf
  · exact q.2.2.2.2.2.2.2.1
  rcases ite_some hf with ⟨rfl, rfl⟩ | hf
  · exact q.2.2.2.2.2.2.2.2.1
  rcases ite_some hf with ⟨rfl, rfl⟩ | hf
  · exact q.2.2.2.2.2.2.2.2.2.1
  rcases ite_some hf with ⟨rfl, rfl⟩ | hf
  · exact q.2.2.2.2.2.2.2.2.2.2.1
  rcases ite_some hf with ⟨rfl, rfl⟩ | hf
  · exact q.2.2.2.2.2.2.2.2.2.2.2.1
  rcases ite_some hf with ⟨rfl, rfl⟩ | hf
  · exact q.2.2.2.2.2.2.2.2.2.2.2.2.1
  rcases ite_some hf with ⟨rfl, rfl⟩ | hf
  · exact q.2.2.2.2.2.2.2.2.2.2.2.2.2.1
  rcases ite_some hf with ⟨rfl, rfl⟩ | hf
  · exact q.2.2.2.2.2.2.2.2.2.2.2.2.2.2.1
  rcases ite_some hf with ⟨rfl, rfl⟩ | hf
  · exact q.2.2.2.2.2.2.2.2.2.2.2.2.2.2.2.1
  rcases ite_some hf with ⟨rfl, rfl⟩ | hf
  · exact q.2.2.2.2.2.2.2.2.2.2.2.2.2.2.2.2.1
  rcases ite_some hf with ⟨rfl, rfl⟩ | hf
  · exact q.2.2.2.2.2.2.2.2.2.2.2.2.2.2.2.2.2.1
  rcases ite_some hf with ⟨rfl, rfl⟩ | hf
  · exact q.2.2.2.2.2.2.2.2.2.2.2.2.2.2.2.2.2.2.1
  rcases ite_some hf with ⟨rfl, rfl⟩ | hf
  · exact q.2.2.2.2.2.2.2.2.2.2.2.2.2.2.2.2.2.2.2.1
  rcases ite_some hf with ⟨rfl, rfl⟩ | hf
  · exact q.2.2.2.2.2.2.2.2.2.2.2.2.2.2.2.2.2.2.2.2.1
  rcases ite_some hf with ⟨rfl, rfl⟩ | hf
  · exact q.2.2.2.2.2.2.2.2.2.2.2.2.2.2.2.2.2.2.2.2.2.1
  rcases ite_some hf with ⟨rfl, rfl⟩ | hf
  · exact q.2.2.2.2.2.2.2.2.2.2.2.2.2.2.2.2.2.2.2.2.2.2.1
  rcases ite_some hf with ⟨rfl, rfl⟩ | hf
  · exact q.2.2.2.2.2.2.2.2.2.2.2.2.2.2.2.2.2.2.2.2.2.2.2.1
  rcases ite_some hf with ⟨rfl, rfl⟩ | hf
  · exact q.2.2.2.2.2.2.2.2.2.2.2.2.2.2.2.2.2.2.2.2.2.2.2.2.1
  rcases ite_some hf with ⟨rfl, rfl⟩ | hf
  · exact q.2.2.2.2.2.2.2.2.2.2.2.2.2.2.2.2.2.2.2.2.2.2.2.2.2.1
  rcases ite_some hf with ⟨rfl, rfl⟩ | hf
  · exact q.2.2.2.2.2.2.2.2.2.2.2.2.2.2.2.2.2.2.2.2.2.2.2.2.2.2.1
  rcases ite_some hf with ⟨rfl, rfl⟩ | hf
  · exact q.2.2.2.2.2.2.2.2.2.2.2.2.2.2.2.2.2.2.2.2.2.2.2.2.2.2.2.1
  rcases ite_some hf with ⟨rfl, rfl⟩ | hf
  · exact q.2.2.2.2.2.2.2.2.2.2.2.2.2.2.2.2.2.2.2.2.2.2.2.2.2.2.2.2.1
  rcases ite_some hf with ⟨rfl, rfl⟩ | hf
  · exact q.2.2.2.2.2.2.2.2.2.2.2.2.2.2.2.2.2.2.2.2.2.2.2.2.2.2.2.2.2.1
  rcases ite_some hf with ⟨rfl, rfl⟩ | hf
  · exact q.2.2.2.2.2.2.2.2.2.2.2.2.2.2.2.2.2.2.2.2.2.2.2.2.2.2.2.2.2.2.1
  rcases ite_some hf with ⟨rfl, rfl⟩ | hf
  · exact q.2.2.2.2.2.2.2.2.2.2.2.2.2.2.2.2.2.2.2.2.2.2.2.2.2.2.2.2.2.2.2.1
  cases hf
theorem fin_ok {m : Mm} (hX : okX m 0) (hM : okM m 603) (j k n : Nat) (i v : Int) (hs : SH[j]? = some (k, n)) (hf : flk k j i = some v) : m j i = v := by
  have hj : j < 636 := by
    have := (List.getElem?_eq_some_iff.mp hs).1
    rw [SH_len] at this
    exact this
  have hk : kdOf j = k := by unfold kdOf; rw [List.getD_eq_getElem?_getD, hs]; rfl
  have hle : k ≤ 18 := hk ▸ kd_lt ⟨j, hj⟩
  have hX2 := hX
  obtain ⟨-, -, -, -, -, -, -, -, -, -, -, -, -, -, hs8, -, hl, e0, e1, h4, h5, hpp, hpk, hdr, hrd, -⟩ := hX2
  rcases (show k = 0 ∨ k = 1 ∨ k = 2 ∨ k = 3 ∨ k = 4 ∨ k = 5 ∨ k = 6 ∨ k = 7 ∨ k = 8 ∨ k = 9 ∨ k = 10 ∨ k = 11 ∨ k = 12 ∨ k = 13 ∨ k = 14 ∨ k = 15 ∨ k = 16 ∨ k = 17 ∨ k = 18 by omega) with rfl | rfl | rfl | rfl | rfl | rfl | rfl | rfl | rfl | rfl | rfl | rfl | rfl | rfl | rfl | rfl | rfl | rfl | rfl
  · have := kd_0 ⟨j, hj⟩ hk
    dsimp only at this
    subst this
    exact fin0 hdr hf
  · refine fin1 (all_fd hX ?_) hf
    have := kd_1 ⟨j, hj⟩ hk
    dsimp only at this
    unfold isFd
    omega
  · refine fin2 (all_im hX ?_) hf
    have := kd_2 ⟨j, hj⟩ hk
    dsimp only at this
    unfold isIm
    omega
  · refine fin3 (all_lw hX ?_) hf
    have := kd_3 ⟨j, hj⟩ hk
    dsimp only at this
    unfold isLw
    omega
  · have := kd_4 ⟨j, hj⟩ hk
    dsimp only at this
    subst this
    exact fin4 hpk hf
  · have := kd_5 ⟨j, hj⟩ hk
    dsimp only at this
    subst this
    exact fin5 hpp hf
  · refine fin6 (all_pt hX ?_) hf
    have := kd_6 ⟨j, hj⟩ hk
    dsimp only at this
    unfold isPt
    omega
  · have := kd_7 ⟨j, hj⟩ hk
    dsimp only at this
    subst this
    exact fin7 hrd hf
  · have := kd_8 ⟨j, hj⟩ hk
    dsimp only at this
    subst this
    exact fin8 hs8 hf
  · refine fin9 (all_tx hX ?_) hf
    have := kd_9 ⟨j, hj⟩ hk
    dsimp only at this
    unfold isTx
    omega
  · refine fin10 (all_yd hX ?_) hf
    have := kd_10 ⟨j, hj⟩ hk
    dsimp only at this
    unfold isYd
    omega
  · have := kd_11 ⟨j, hj⟩ hk
    dsimp only at this
    subst this
    exact fin11 hX hf
  · have := kd_12 ⟨j, hj⟩ hk
    dsimp only at this
    subst this
    exact fin12 hM hf
  · cases hf
  · cases hf
  · cases hf
  · have := kd_16 ⟨j, hj⟩ hk
    dsimp only at this
    subst this
    unfold flk at hf
    rcases ite_some hf with ⟨h1, rfl⟩ | hf
    · rcases (show i = 0 ∨ i = 1 by omega) with rfl | rfl
      · exact e0
      · exact e1
    · cases hf
  · have hl2 : ∀ p : Int, okLw m p → (j : Int) = p + 1 → m j i = v := by
      intro p hp hjp
      unfold flk at hf
      rcases ite_some hf with ⟨h1, rfl⟩ | hf
      · rw [hjp, (hp.2.2.2 i h1.1 h1.2).1]; omega
      · cases hf
    have := kd_17 ⟨j, hj⟩ hk
    dsimp only at this
    rcases this with h1 | h1 | h1
    · exact hl2 353 (all_lw hX (Or.inl rfl)) (by omega)
    · exact hl2 425 (all_lw hX (Or.inr (Or.inl rfl))) (by omega)
    · exact hl2 496 (all_lw hX (Or.inr (Or.inr rfl))) (by omega)
  · cases hf
