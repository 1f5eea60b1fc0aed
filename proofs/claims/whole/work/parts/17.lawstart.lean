theorem sub_blk {m m2 : Mm} {a n : Int} (h : ∀ b, a ≤ b → b < a + n → m2 b = m b) (off size : Int) (h0 : 0 ≤ off) (h1 : off + size ≤ n) : ∀ b, a + off ≤ b → b < a + off + size → m2 b = m b := fun b hb1 hb2 => h b (by omega) (by omega)
theorem at_blk {m m2 : Mm} {a n : Int} (h : ∀ b, a ≤ b → b < a + n → m2 b = m b) (off : Int) (h0 : 0 ≤ off) (h1 : off < n) : m2 (a + off) = m (a + off) := h _ (by omega) (by omega)
theorem okX_c {m m2 : Mm} {a : Int} (h : ∀ b, a ≤ b → b < a + 603 → m2 b = m b) (q : okX m a) : okX m2 a := by
  have h0 : m2 a = m a := h a (by omega) (by omega)
  have h9 := at_blk h 409 (by decide) (by decide)
  obtain ⟨q1, q2, q3, q4, q5, q6, q7, q8, q9, q10, q11, q12, q13, q14, q15, q16, q17, q18, q19, q20, q21, q22, q23, q24, q25, q26⟩ := q
  rw [← h0] at q1 q2 q3 q4 q5 q6 q7 q8 q9 q10 q11 q12 q13 q14
  rw [← h9] at q18 q19
  exact ⟨q1, q2, q3, q4, q5, q6, q7, q8, q9, q10, q11, q12, q13, q14, okSx_c (sub_blk h 1 348 (by decide) (by decide)) q15, okFd_c (sub_blk h 349 4 (by decide) (by decide)) q16, okLw_c (sub_blk h 353 56 (by decide) (by decide)) q17, q18, q19, okIm_c (sub_blk h 410 71 (by decide) (by decide)) q20, okIm_c (sub_blk h 481 71 (by decide) (by decide)) q21, okPp_c (sub_blk h 552 24 (by decide) (by decide)) q22, okPk_c (sub_blk h 576 4 (by decide) (by decide)) q23, okDr_c (sub_blk h 580 11 (by decide) (by decide)) q24, okRd_c (sub_blk h 591 11 (by decide) (by decide)) q25, okA_c (at_blk h 602 (by decide) (by decide)) q26⟩
theorem law_entry {E : EN} {k b : Nat} {mem : Mm} {Q : PQ} (hph : E.2.2.2.2.2.1 = false) (h : ∀ m2 : Mm, okX m2 0 → okM m2 603 → VG E mL_law (k + 5) cL_C cL_S SH m2 (cL_C, cL_S) 18 [(0, aF b), (1, aR 0), (2, aR 603), (3, aI 0)] [] Q) : VG E mL_law (k + 5) cL_C cL_S [] mem (0, 0) 0 [(0, aF b)] [] Q := by
  refine w_new (pc := 0) (L := 0) hph rfl dL_law_0 clL_7 ck11 in11 nz11 at2_11 1 14 rfl rfl (Nat.le_of_ble_eq_true rfl) (Nat.le_of_ble_eq_true rfl) (fun sh1 m1 s1 hl1 z1 u1 e1 f1 => ?_)
  refine v_dup (pc := 3) dL_law_3 rfl ?_
  refine w_init (pc := 4) (mi' := mX11_init) (L := 0) (t := tlX) (ok := okX) dL_law_4 (fun Q2 hq => iX11_init hph hl1 (getE s1 rfl) e1 hq) msX11_init iiX11_init rfl rfl lkL_9 603 24485 rfl rfl ⟨Nat.le_of_ble_eq_true rfl, Nat.le_of_ble_eq_true rfl⟩ (Nat.le_of_ble_eq_true rfl) hl1 lnX (fun sh2 m2 s2 hl2 u2 k2 f2 => ?_)
  refine v_astore_n (pc := 7) (al2 := [(1, aR ((0 : Nat) : Int)), (0, aF b)]) dL_law_7 (by decide) rfl ?_
  refine w_new (pc := 8) (L := 603) hph hl2 dL_law_8 clL_10 ck12 in12 nz12 at2_12 604 24546 rfl rfl (Nat.le_of_ble_eq_true rfl) (Nat.le_of_ble_eq_true rfl) (fun sh3 m3 s3 hl3 z3 u3 e3 f3 => ?_)
  refine v_dup (pc := 11) dL_law_11 rfl ?_
  refine w_init (pc := 12) (mi' := mX12_init) (L := 603) (t := tlM) (ok := okM) dL_law_12 (fun Q2 hq => iX12_init hph hl3 (getE s3 hl2) e3 hq) msX12_init iiX12_init rfl rfl lkL_12 cL_C cL_S rfl rfl ⟨Nat.le_of_ble_eq_true rfl, Nat.le_of_ble_eq_true rfl⟩ (Nat.le_of_ble_eq_true rfl) hl3 lnM (fun sh4 m4 s4 hl4 u4 k4 f4 => ?_)
  refine v_astore_n (pc := 15) (al2 := [(2, aR ((603 : Nat) : Int)), (1, aR ((0 : Nat) : Int)), (0, aF b)]) dL_law_15 (by decide) rfl ?_
  refine v_iconst (pc := 16) dL_law_16 (by decide) ?_
  refine v_istore_n (pc := 17) (al2 := [(3, aI 0), (2, aR ((603 : Nat) : Int)), (1, aR ((0 : Nat) : Int)), (0, aF b)]) dL_law_17 (by decide) rfl ?_
  have e9 : sh4 = SH := by
    rw [s4, s3, s2, s1, SH_tl]
    simp only [List.append_assoc]
    rfl
  rw [e9]
  have hX : okX m4 ((0 : Nat) : Int) := okX_c (fun b hb1 hb2 => by rw [f4 b (by omega), f3 b (by omega)]) k2
  exact VG_sub (al' := [(0, aF b), (1, aR 0), (2, aR 603), (3, aI 0)]) [3, 2, 1, 0] rfl (h m4 hX k4)
theorem pt_yd {m : Mm} {p : Int} (h : okPt m p) {y : Int} (h1 : p + 3 ≤ y) (h2 : y ≤ p + 153) (h3 : (y - p - 3) % 10 = 0) : okY m y := by
  have h4 := (h.2.2.2.2 ((y - p - 3) / 10) (by omega) (by omega)).2
  rwa [show p + 3 + 10 * ((y - p - 3) / 10) = y by omega] at h4
theorem lw_tx {m : Mm} {p : Int} (h : okLw m p) {y : Int} (h1 : p + 2 ≤ y) (h2 : y ≤ p + 47) (h3 : (y - p - 2) % 9 = 0) : okTx m y := by
  have h4 := (h.2.2.2 ((y - p - 2) / 9) (by omega) (by omega)).2
  rwa [show p + 2 + 9 * ((y - p - 2) / 9) = y by omega] at h4
theorem all_yd {m : Mm} (h : okX m 0) {y : Int} (hy : isYd y) : okY m y := by
  obtain ⟨-, -, -, -, -, -, -, -, -, -, -, -, -, -, hs, -, -, -, -, h4, h5, h6, -, h7, -, -⟩ := h
  obtain ⟨-, -, -, -, -, -, -, s1, s2, s3, s4, -⟩ := hs
  rcases hy with rfl | ⟨h1, h2, h3⟩ | rfl | ⟨h1, h2, h3⟩ | rfl | rfl | rfl | rfl | rfl
  · exact s1
  · exact pt_yd s2 (by omega) (by omega) (by omega)
  · exact s3
  · exact pt_yd s4 (by omega) (by omega) (by omega)
  · exact h4.2.2.2.2.1
  · exact h5.2.2.2.2.1
  · exact h6.2.2.2.2.2.2.1
  · exact h6.2.2.2.2.2.2.2.1
  · exact h7.2.2
theorem all_tx {m : Mm} (h : okX m 0) {y : Int} (hy : isTx y) : okTx m y := by
  obtain ⟨-, -, -, -, -, -, -, -, -, -, -, -, -, -, -, -, hl, -, -, h4, h5, -, -, -, h7, -⟩ := h
  rcases hy with ⟨h1, h2, h3⟩ | ⟨h1, h2, h3⟩ | ⟨h1, h2, h3⟩ | rfl
  · exact lw_tx hl (by omega) (by omega) (by omega)
  · exact lw_tx h4.2.2.2.2.2.2 (by omega) (by omega) (by omega)
  · exact lw_tx h5.2.2.2.2.2.2 (by omega) (by omega) (by omega)
  · exact h7.2.2.2.2.2
def kdP (k j : Nat) : Bool := match k with
  | 10 => decide (j = 2 ∨ (15 ≤ j ∧ j ≤ 165 ∧ j % 10 = 5) ∨ j = 175 ∨ (188 ≤ j ∧ j ≤ 338 ∧ j % 10 = 8) ∨ j = 411 ∨ j = 482 ∨ j = 553 ∨ j = 563 ∨ j = 581)
  | 9 => decide ((355 ≤ j ∧ j ≤ 400 ∧ j % 9 = 4) ∨ (427 ≤ j ∧ j ≤ 472 ∧ j % 9 = 4) ∨ (498 ≤ j ∧ j ≤ 543 ∧ j % 9 = 3) ∨ j = 593)
  | 1 => decide (j = 349 ∨ j = 421 ∨ j = 492)
  | 3 => decide (j = 353 ∨ j = 425 ∨ j = 496)
  | 6 => decide (j = 12 ∨ j = 185)
  | 2 => decide (j = 410 ∨ j = 481)
  | 0 => decide (j = 580)
  | 4 => decide (j = 576)
  | 5 => decide (j = 552)
  | 7 => decide (j = 591)
  | 8 => decide (j = 1)
  | 11 => decide (j = 0)
  | 12 => decide (j = 603)
  | 16 => decide (j = 409)
  | 17 => decide (j = 354 ∨ j = 426 ∨ j = 497)
  | k => decide (k ≤ 18)
theorem kd_tab : SH.zipIdx.all (fun q => kdP q.1.1 q.2) = true := by decide +kernel
theorem kd_at {j k n : Nat} (h : SH[j]? = some (k, n)) : kdP k j = true := by
  have h1 := List.all_eq_true.mp kd_tab ((k, n), j) (List.mem_iff_getElem?.mpr ⟨j, by rw [List.getElem?_zipIdx, h]; simp⟩)
  exact h1
theorem ite_some {p : Prop} [Decidable p] {x v : Int} {r : Option Int} (h : (if p then some x else r) = some v) : (p ∧ x = v) ∨ r = some v := by
  split at h
  · exact Or.inl ⟨by assumption, Option.some.inj h⟩
  · exact Or.inr h
theorem all_fd {m : Mm} (h : okX m 0) {y : Int} (hy : isFd y) : okFd m y := by
  obtain ⟨-, -, -, -, -, -, -, -, -, -, -, -, -, -, -, h1, -, -, -, h4, h5, -, -, -, -, -⟩ := h
  rcases hy with rfl | rfl | rfl
  · exact h1
  · exact h4.2.2.2.2.2.1
  · exact h5.2.2.2.2.2.1
theorem all_lw {m : Mm} (h : okX m 0) {y : Int} (hy : isLw y) : okLw m y := by
  obtain ⟨-, -, -, -, -, -, -, -, -, -, -, -, -, -, -, -, h1, -, -, h4, h5, -, -, -, -, -⟩ := h
  rcases hy with rfl | rfl | rfl
  · exact h1
  · exact h4.2.2.2.2.2.2
  · exact h5.2.2.2.2.2.2
theorem all_pt {m : Mm} (h : okX m 0) {y : Int} (hy : isPt y) : okPt m y := by
  obtain ⟨-, -, -, -, -, -, -, -, -, -, -, -, -, -, hs, -, -, -, -, -, -, -, -, -, -, -⟩ := h
  obtain ⟨-, -, -, -, -, -, -, s1, s2, s3, s4, -⟩ := hs
  rcases hy with rfl | rfl
  · exact s2
  · exact s4
theorem all_im {m : Mm} (h : okX m 0) {y : Int} (hy : isIm y) : okIm m y := by
  obtain ⟨-, -, -, -, -, -, -, -, -, -, -, -, -, -, -, -, -, -, -, h4, h5, -, -, -, -, -⟩ := h
  rcases hy with rfl | rfl
  · exact h4
  · exact h5
theorem fin10 {m : Mm} {y i v : Int} (q : okY m y) (hf : flk 10 y i = some v) : m y i = v := by
  unfold flk at hf
  rcases ite_some hf with ⟨rfl, rfl⟩ | hf
  · exact (q.1 0 (by decide) (by decide)).trans (by omega)
  rcases ite_some hf with ⟨rfl, rfl⟩ | hf
  · exact (q.1 1 (by decide) (by decide)).trans (by omega)
  rcases ite_some hf with ⟨rfl, rfl⟩ | hf
  · exact (q.1 2 (by decide) (by decide)).trans (by omega)
  rcases ite_some hf with ⟨rfl, rfl⟩ | hf
  · exact (q.1 3 (by decide) (by decide)).trans (by omega)
  rcases ite_some hf with ⟨rfl, rfl⟩ | hf
  · exact (q.1 4 (by decide) (by decide)).trans (by omega)
  rcases ite_some hf with ⟨rfl, rfl⟩ | hf
  · exact (q.1 5 (by decide) (by decide)).trans (by omega)
  rcases ite_some hf with ⟨rfl, rfl⟩ | hf
  · exact (q.1 6 (by decide) (by decide)).trans (by omega)
  rcases ite_some hf with ⟨rfl, rfl⟩ | hf
  · exact (q.1 7 (by decide) (by decide)).trans (by omega)
  rcases ite_some hf with ⟨rfl, rfl⟩ | hf
  · exact (q.1 8 (by decide) (by decide)).trans (by omega)
  cases hf
theorem fin9 {m : Mm} {y i v : Int} (q : okTx m y) (hf : flk 9 y i = some v) : m y i = v := by
  unfold flk at hf
  rcases ite_some hf with ⟨rfl, rfl⟩ | hf
  · exact (q.2.2.1 1 (by decide) (by decide)).trans (by omega)
  rcases ite_some hf with ⟨rfl, rfl⟩ | hf
  · exact (q.2.2.1 2 (by decide) (by decide)).trans (by omega)
  rcases ite_some hf with ⟨rfl, rfl⟩ | hf
  · exact (q.2.2.1 3 (by decide) (by decide)).trans (by omega)
  rcases ite_some hf with ⟨rfl, rfl⟩ | hf
  · exact (q.2.2.1 4 (by decide) (by decide)).trans (by omega)
  rcases ite_some hf with ⟨rfl, rfl⟩ | hf
  · exact (q.2.2.1 5 (by decide) (by decide)).trans (by omega)
  rcases ite_some hf with ⟨rfl, rfl⟩ | hf
  · exact (q.2.2.1 6 (by decide) (by decide)).trans (by omega)
  rcases ite_some hf with ⟨rfl, rfl⟩ | hf
  · exact (q.2.2.1 7 (by decide) (by decide)).trans (by omega)
  rcases ite_some hf with ⟨rfl, rfl⟩ | hf
  · exact q.2.2.2.1
  cases hf
theorem fin1 {m : Mm} {y i v : Int} (q : okFd m y) (hf : flk 1 y i = some v) : m y i = v := by
  unfold flk at hf
  rcases ite_some hf with ⟨rfl, rfl⟩ | hf
  · exact q.2.1 1 (by decide) (by decide)
  rcases ite_some hf with ⟨rfl, rfl⟩ | hf
  · exact q.2.1 2 (by decide) (by decide)
  rcases ite_some hf with ⟨rfl, rfl⟩ | hf
  · exact q.2.1 3 (by decide) (by decide)
  cases hf
theorem fin4 {m : Mm} {y i v : Int} (q : okPk m y) (hf : flk 4 y i = some v) : m y i = v := by
  unfold flk at hf
  rcases ite_some hf with ⟨rfl, rfl⟩ | hf
  · exact (q.1 0 (by decide) (by decide)).trans (by omega)
  rcases ite_some hf with ⟨rfl, rfl⟩ | hf
  · exact (q.1 1 (by decide) (by decide)).trans (by omega)
  rcases ite_some hf with ⟨rfl, rfl⟩ | hf
  · exact (q.1 2 (by decide) (by decide)).trans (by omega)
  cases hf
theorem fin3 {m : Mm} {y i v : Int} (q : okLw m y) (hf : flk 3 y i = some v) : m y i = v := by
  unfold flk at hf
  rcases ite_some hf with ⟨rfl, rfl⟩ | hf
  · exact q.1
  cases hf
theorem fin6 {m : Mm} {y i v : Int} (q : okPt m y) (hf : flk 6 y i = some v) : m y i = v := by
  unfold flk at hf
  rcases ite_some hf with ⟨rfl, rfl⟩ | hf
  · exact q.1
  rcases ite_some hf with ⟨rfl, rfl⟩ | hf
  · exact q.2.1
  cases hf
theorem fin2 {m : Mm} {y i v : Int} (q : okIm m y) (hf : flk 2 y i = some v) : m y i = v := by
  unfold flk at hf
  rcases ite_some hf with ⟨rfl, rfl⟩ | hf
  · exact q.1
  rcases ite_some hf with ⟨rfl, rfl⟩ | hf
  · exact q.2.1
  rcases ite_some hf with ⟨rfl, rfl⟩ | hf
  · exact q.2.2.1
  cases hf
theorem fin5 {m : Mm} {y i v : Int} (q : okPp m y) (hf : flk 5 y i = some v) : m y i = v := by
  unfold flk at hf
  rcases ite_some hf with ⟨rfl, rfl⟩ | hf
  · exact q.1
  rcases ite_some hf with ⟨rfl, rfl⟩ | hf
  · exact q.2.1
  rcases ite_some hf with ⟨rfl, rfl⟩ | hf
  · exact q.2.2.1
  rcases ite_some hf with ⟨rfl, rfl⟩ | hf
  · exact q.2.2.2.1
  rcases ite_some hf with ⟨rfl, rfl⟩ | hf
  · exact q.2.2.2.2.1
  cases hf
theorem fin0 {m : Mm} {y i v : Int} (q : okDr m y) (hf : flk 0 y i = some v) : m y i = v := by
  unfold flk at hf
  rcases ite_some hf with ⟨rfl, rfl⟩ | hf
  · exact q.1
  cases hf
theorem fin8 {m : Mm} {y i v : Int} (q : okSx m y) (hf : flk 8 y i = some v) : m y i = v := by
  unfold flk at hf
  rcases ite_some hf with ⟨rfl, rfl⟩ | hf
  · exact q.1
  rcases ite_some hf with ⟨rfl, rfl⟩ | hf
  · exact q.2.1
  rcases ite_some hf with ⟨rfl, rfl⟩ | hf
  · exact q.2.2.1
  rcases ite_some hf with ⟨rfl, rfl⟩ | hf
  · exact q.2.2.2.1
  rcases ite_some hf with ⟨rfl, rfl⟩ | hf
  · exact q.2.2.2.2.1
  cases hf
theorem fin11 {m : Mm} {y i v : Int} (q : okX m y) (hf : flk 11 y i = some v) : m y i = v := by
  unfold flk at hf
  rcases ite_some hf with ⟨rfl, rfl⟩ | hf
  · exact q.1
  rcases ite_some hf with ⟨rfl, rfl⟩ | hf
  · exact q.2.1
  rcases ite_some hf with ⟨rfl, rfl⟩ | hf
  · exact q.2.2.1
  rcases ite_some hf with ⟨rfl, rfl⟩ | hf
  · exact q.2.2.2.1
  rcases ite_some hf with ⟨rfl, rfl⟩ | hf
  · exact q.2.2.2.2.1
  rcases ite_some hf with ⟨rfl, rfl⟩ | hf
  · exact q.2.2.2.2.2.1
  rcases ite_some hf with ⟨rfl, rfl⟩ | hf
  · exact q.2.2.2.2.2.2.1
  rcases ite_some hf with ⟨rfl, rfl⟩ | hf
  · exact q.2.2.2.2.2.2.2.1
  rcases ite_some hf with ⟨rfl, rfl⟩ | hf
  · exact q.2.2.2.2.2.2.2.2.1
  rcases ite_some hf with ⟨rfl, rfl⟩ | hf
  · exact q.2.2.2.2.2.2.2.2.2.1
  rcases ite_some hf with ⟨rfl, rfl⟩ | hf
  · exact q.2.2.2.2.2.2.2.2.2.2.1
  cases hf
theorem fin7 {m : Mm} {y i v : Int} (q : okRd m y) (hf : flk 7 y i = some v) : m y i = v := by
  unfold flk at hf
  rcases ite_some hf with ⟨rfl, rfl⟩ | hf
  · exact q.1
  rcases ite_some hf with ⟨rfl, rfl⟩ | hf
  · exact q.2.1
  cases hf
theorem fin12 {m : Mm} {y i v : Int} (q : okM m y) (hf : flk 12 y i = some v) : m y i = v := by
  unfold flk at hf
  rcases ite_some hf with ⟨rfl, rfl⟩ | hf
  · exact q.1
  rcases ite_some hf with ⟨rfl, rfl⟩ | hf
  · exact q.2.1
  rcases ite_some hf with ⟨rfl, rfl⟩ | hf
  · exact q.2.2.1
  rcases ite_some hf with ⟨rfl, rfl⟩ | hf
  · exact q.2.2.2.1
  rcases ite_some hf with ⟨rfl, rfl⟩ | hf
  · exact q.2.2.2.2.1
  rcases ite_some hf with ⟨rfl, rfl⟩ | hf
  · exact q.2.2.2.2.2.1
  rcases ite_some hf with ⟨rfl, rfl⟩ | hf
  · exact q.2.2.2.2.2.2.1
  rcases ite_some hf with ⟨rfl, rfl⟩ | hf
  · exact q.2.2.2.2.2.2.2.1
  rcases ite_some hf with ⟨rfl, rfl⟩ | hf
  · exact q.2.2.2.2.2.2.2.2.1
  rcases ite_some hf with ⟨rfl, rfl⟩ | hf
  · exact q.2.2.2.2.2.2.2.2.2.1
  rcases ite_some hf with ⟨rfl, rfl⟩ | hf
  · exact q.2.2.2.2.2.2.2.2.2.2.1
  rcases ite_some hf with ⟨rfl, rfl⟩ | hf
  · exact q.2.2.2.2.2.2.2.2.2.2.2.1
  rcases ite_some hf with ⟨rfl, rfl⟩ | hf
  · exact q.2.2.2.2.2.2.2.2.2.2.2.2.1
  rcases ite_some hf with ⟨rfl, rfl⟩ | hf
  · exact q.2.2.2.2.2.2.2.2.2.2.2.2.2.1
  rcases ite_some hf with ⟨rfl, rfl⟩ | hf
  · exact q.2.2.2.2.2.2.2.2.2.2.2.2.2.2.1
  rcases ite_some hf with ⟨rfl, rfl⟩ | hf
  · exact q.2.2.2.2.2.2.2.2.2.2.2.2.2.2.2.1
  rcases ite_some hf with ⟨rfl, rfl⟩ | hf
  · exact q.2.2.2.2.2.2.2.2.2.2.2.2.2.2.2.2.1
  rcases ite_some hf with ⟨rfl, rfl⟩ | hf
  · exact q.2.2.2.2.2.2.2.2.2.2.2.2.2.2.2.2.2.1
  rcases ite_some hf with ⟨rfl, rfl⟩ | hf
  · exact q.2.2.2.2.2.2.2.2.2.2.2.2.2.2.2.2.2.2.1
  rcases ite_some hf with ⟨rfl, rfl⟩ | hf
  · exact q.2.2.2.2.2.2.2.2.2.2.2.2.2.2.2.2.2.2.2.1
  rcases ite_some hf with ⟨rfl, rfl⟩ | hf
  · exact q.2.2.2.2.2.2.2.2.2.2.2.2.2.2.2.2.2.2.2.2.1
  rcases ite_some hf with ⟨rfl, rfl⟩ | hf
  · exact q.2.2.2.2.2.2.2.2.2.2.2.2.2.2.2.2.2.2.2.2.2.1
  rcases ite_some hf with ⟨rfl, rfl⟩ | hf
  · exact q.2.2.2.2.2.2.2.2.2.2.2.2.2.2.2.2.2.2.2.2.2.2.1
  rcases ite_some hf with ⟨rfl, rfl⟩ | hf
  · exact q.2.2.2.2.2.2.2.2.2.2.2.2.2.2.2.2.2.2.2.2.2.2.2.1
  rcases ite_some hf with ⟨rfl, rfl⟩ | hf
  · exact q.2.2.2.2.2.2.2.2.2.2.2.2.2.2.2.2.2.2.2.2.2.2.2.2.1
  rcases ite_some hf with ⟨rfl, rfl⟩ | hf
  · exact q.2.2.2.2.2.2.2.2.2.2.2.2.2.2.2.2.2.2.2.2.2.2.2.2.2.1
  rcases ite_some hf with ⟨rfl, rfl⟩ | hf
  · exact q.2.2.2.2.2.2.2.2.2.2.2.2.2.2.2.2.2.2.2.2.2.2.2.2.2.2.1
  rcases ite_some hf with ⟨rfl, rfl⟩ | hf
  · exact q.2.2.2.2.2.2.2.2.2.2.2.2.2.2.2.2.2.2.2.2.2.2.2.2.2.2.2.1
  rcases ite_some hf with ⟨rfl, rfl⟩ | hf
  · exact q.2.2.2.2.2.2.2.2.2.2.2.2.2.2.2.2.2.2.2.2.2.2.2.2.2.2.2.2.1
  rcases ite_some hf with ⟨rfl, rfl⟩ | hf
  · exact q.2.2.2.2.2.2.2.2.2.2.2.2.2.2.2.2.2.2.2.2.2.2.2.2.2.2.2.2.2.1
  rcases ite_some hf with ⟨rfl, rfl⟩ | hf
  · exact q.2.2.2.2.2.2.2.2.2.2.2.2.2.2.2.2.2.2.2.2.2.2.2.2.2.2.2.2.2.2.1
  rcases ite_some hf with ⟨rfl, rfl⟩ | hf
  · exact q.2.2.2.2.2.2.2.2.2.2.2.2.2.2.2.2.2.2.2.2.2.2.2.2.2.2.2.2.2.2.2.1
  cases hf
theorem fin_ok {m : Mm} (hX : okX m 0) (hM : okM m 603) (j k n : Nat) (i v : Int) (hs : SH[j]? = some (k, n)) (hf : flk k j i = some v) : m j i = v := by
  have hj : j < 636 := by
    have := (List.getElem?_eq_some_iff.mp hs).1
    rw [SH_len] at this
    exact this
  have hk := kd_at hs
  have hle : k ≤ 18 := by
    unfold kdP at hk
    split at hk <;> first | decide | exact of_decide_eq_true hk
  have hX2 := hX
  obtain ⟨-, -, -, -, -, -, -, -, -, -, -, -, -, -, hs8, -, hl, e0, e1, h4, h5, hpp, hpk, hdr, hrd, -⟩ := hX2
  rcases (show k = 0 ∨ k = 1 ∨ k = 2 ∨ k = 3 ∨ k = 4 ∨ k = 5 ∨ k = 6 ∨ k = 7 ∨ k = 8 ∨ k = 9 ∨ k = 10 ∨ k = 11 ∨ k = 12 ∨ k = 13 ∨ k = 14 ∨ k = 15 ∨ k = 16 ∨ k = 17 ∨ k = 18 by omega) with rfl | rfl | rfl | rfl | rfl | rfl | rfl | rfl | rfl | rfl | rfl | rfl | rfl | rfl | rfl | rfl | rfl | rfl | rfl
  · have := of_decide_eq_true hk
    subst this
    exact fin0 hdr hf
  · refine fin1 (all_fd hX ?_) hf
    have := of_decide_eq_true hk
    unfold isFd
    omega
  · refine fin2 (all_im hX ?_) hf
    have := of_decide_eq_true hk
    unfold isIm
    omega
  · refine fin3 (all_lw hX ?_) hf
    have := of_decide_eq_true hk
    unfold isLw
    omega
  · have := of_decide_eq_true hk
    subst this
    exact fin4 hpk hf
  · have := of_decide_eq_true hk
    subst this
    exact fin5 hpp hf
  · refine fin6 (all_pt hX ?_) hf
    have := of_decide_eq_true hk
    unfold isPt
    omega
  · have := of_decide_eq_true hk
    subst this
    exact fin7 hrd hf
  · have := of_decide_eq_true hk
    subst this
    exact fin8 hs8 hf
  · refine fin9 (all_tx hX ?_) hf
    have := of_decide_eq_true hk
    unfold isTx
    omega
  · refine fin10 (all_yd hX ?_) hf
    have := of_decide_eq_true hk
    unfold isYd
    omega
  · have := of_decide_eq_true hk
    subst this
    exact fin11 hX hf
  · have := of_decide_eq_true hk
    subst this
    exact fin12 hM hf
  · cases hf
  · cases hf
  · cases hf
  · have := of_decide_eq_true hk
    subst this
    unfold flk at hf
    rcases ite_some hf with ⟨h1, rfl⟩ | hf
    · rcases (show i = 0 ∨ i = 1 by omega) with rfl | rfl
      · exact e0
      · exact e1
    · cases hf
  · have hl2 : ∀ p : Int, okLw m p → (j : Int) = p + 1 → m j i = v := by
      intro p hp hjp
      unfold flk at hf
      rcases ite_some hf with ⟨h1, rfl⟩ | hf
      · rw [hjp, (hp.2.2.2 i h1.1 h1.2).1]; omega
      · cases hf
    have := of_decide_eq_true hk
    rcases this with h1 | h1 | h1
    · exact hl2 353 (all_lw hX (Or.inl rfl)) (by omega)
    · exact hl2 425 (all_lw hX (Or.inr (Or.inl rfl))) (by omega)
    · exact hl2 496 (all_lw hX (Or.inr (Or.inr rfl))) (by omega)
  · cases hf
