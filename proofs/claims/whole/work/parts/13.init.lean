def okA (m : Mm) (a : Int) : Prop := ∀ j, m a j = 0
theorem okA_c {m m2 : Mm} {a : Int} (h : m2 a = m a) (q : okA m a) : okA m2 a := fun j => by rw [h]; exact q j
def tlY : Sp := [(13, 32), (13, 32), (13, 32), (13, 10), (13, 10), (13, 10), (13, 10), (13, 4), (13, 10)]
def tlTx : Sp := [(13, 12), (13, 12), (13, 12), (13, 12), (13, 12), (13, 400), (13, 400), (14, 40)]
def tlFd : Sp := [(13, 8), (13, 8), (13, 8)]
def tlPk : Sp := [(13, 10), (13, 10), (13, 10)]
def tlPt : Sp := (18, 16) :: (13, 16) :: (List.range 16).flatMap fun _ => (10, 13) :: tlY
def tlLw : Sp := (17, 6) :: (List.range 6).flatMap fun _ => (9, 10) :: tlTx
def tlIm : Sp := ((10, 13) :: tlY) ++ (((1, 4) :: tlFd) ++ ((3, 3) :: tlLw))
def tlPp : Sp := ((10, 13) :: tlY) ++ (((10, 13) :: tlY) ++ [(13, 8), (13, 32), (14, 41)])
def tlDr : Sp := (10, 13) :: tlY
def tlRd : Sp := (13, 400) :: (9, 10) :: tlTx
def tlSx : Sp := ((10, 13) :: tlY) ++ (((6, 3) :: tlPt) ++ (((10, 13) :: tlY) ++ (((6, 3) :: tlPt) ++ [(13, 78)])))
def tlX : Sp := ((8, 10) :: tlSx) ++ (((1, 4) :: tlFd) ++ (((3, 3) :: tlLw) ++ ([(16, 2)] ++ (((2, 4) :: tlIm) ++ (((2, 4) :: tlIm) ++ (((5, 9) :: tlPp) ++ (((4, 5) :: tlPk) ++ (((0, 2) :: tlDr) ++ (((7, 11) :: tlRd) ++ [(13, 7)])))))))))
def tlM : Sp := [(13, 7), (13, 5570), (13, 11140), (15, 2), (13, 1386), (13, 16), (13, 1232), (13, 16), (13, 400), (13, 96), (13, 400), (13, 400), (13, 400), (13, 400), (14, 10), (14, 7), (14, 4), (14, 13), (14, 13), (14, 400), (13, 10), (13, 8), (14, 42), (13, 10), (13, 11), (13, 11), (13, 11), (15, 100), (13, 32), (14, 4), (13, 96), (13, 30)]
theorem SH_tl : SH = (11, 14) :: (tlX ++ ((12, 61) :: tlM)) := by decide +kernel
theorem lnY : tlY.length = 9 := by decide +kernel
theorem lnTx : tlTx.length = 8 := by decide +kernel
theorem lnFd : tlFd.length = 3 := by decide +kernel
theorem lnPk : tlPk.length = 3 := by decide +kernel
theorem lnPt : tlPt.length = 162 := by decide +kernel
theorem lnLw : tlLw.length = 55 := by decide +kernel
theorem lnIm : tlIm.length = 70 := by decide +kernel
theorem lnPp : tlPp.length = 23 := by decide +kernel
theorem lnDr : tlDr.length = 10 := by decide +kernel
theorem lnRd : tlRd.length = 10 := by decide +kernel
theorem lnSx : tlSx.length = 347 := by decide +kernel
theorem lnX : tlX.length = 602 := by decide +kernel
theorem lnM : tlM.length = 32 := by decide +kernel
def okY (m : Mm) (a : Int) : Prop := (∀ i, 0 ≤ i → i < 9 → m a i = a + 1 + i) ∧ m a 9 = -1 ∧ m a 10 = 0 ∧ m a 11 = 0 ∧ m a 12 = 0 ∧ (∀ i, 1 ≤ i → i ≤ 9 → i ≠ 8 → okA m (a + i)) ∧ m (a + 8) = fun j => if j = 2 then 2 else if j = 1 then 20 else 0
def okTx (m : Mm) (a : Int) : Prop := m a 0 = 0 ∧ m a 8 = 0 ∧ (∀ i, 1 ≤ i → i ≤ 7 → m a i = a + i) ∧ m a 9 = a + 8 ∧ ∀ i, 1 ≤ i → i ≤ 8 → okA m (a + i)
def okFd (m : Mm) (a : Int) : Prop := m a 0 = 0 ∧ (∀ i, 1 ≤ i → i ≤ 3 → m a i = a + i) ∧ ∀ i, 1 ≤ i → i ≤ 3 → okA m (a + i)
def okPk (m : Mm) (a : Int) : Prop := (∀ i, 0 ≤ i → i ≤ 2 → m a i = a + 1 + i) ∧ m a 3 = 0 ∧ m a 4 = 0 ∧ ∀ i, 1 ≤ i → i ≤ 3 → okA m (a + i)
theorem okY_c {m m2 : Mm} {a : Int} (h : ∀ b, a ≤ b → b < a + 10 → m2 b = m b) (q : okY m a) : okY m2 a := by
  obtain ⟨q1, q2, q3, q4, q5, q6, q7⟩ := q
  have h0 := h a (by omega) (by omega)
  exact ⟨fun i h1 h2 => by rw [h0]; exact q1 i h1 h2, by rw [h0]; exact q2, by rw [h0]; exact q3, by rw [h0]; exact q4, by rw [h0]; exact q5, fun i h1 h2 h3 => okA_c (h _ (by omega) (by omega)) (q6 i h1 h2 h3), by rw [h _ (by omega) (by omega)]; exact q7⟩
theorem okTx_c {m m2 : Mm} {a : Int} (h : ∀ b, a ≤ b → b < a + 9 → m2 b = m b) (q : okTx m a) : okTx m2 a := by
  obtain ⟨q1, q2, q3, q4, q5⟩ := q
  have h0 := h a (by omega) (by omega)
  exact ⟨by rw [h0]; exact q1, by rw [h0]; exact q2, fun i h1 h2 => by rw [h0]; exact q3 i h1 h2, by rw [h0]; exact q4, fun i h1 h2 => okA_c (h _ (by omega) (by omega)) (q5 i h1 h2)⟩
theorem okFd_c {m m2 : Mm} {a : Int} (h : ∀ b, a ≤ b → b < a + 4 → m2 b = m b) (q : okFd m a) : okFd m2 a := by
  obtain ⟨q1, q2, q3⟩ := q
  have h0 := h a (by omega) (by omega)
  exact ⟨by rw [h0]; exact q1, fun i h1 h2 => by rw [h0]; exact q2 i h1 h2, fun i h1 h2 => okA_c (h _ (by omega) (by omega)) (q3 i h1 h2)⟩
theorem okPk_c {m m2 : Mm} {a : Int} (h : ∀ b, a ≤ b → b < a + 4 → m2 b = m b) (q : okPk m a) : okPk m2 a := by
  obtain ⟨q1, q2, q3, q4⟩ := q
  have h0 := h a (by omega) (by omega)
  exact ⟨fun i h1 h2 => by rw [h0]; exact q1 i h1 h2, by rw [h0]; exact q2, by rw [h0]; exact q3, fun i h1 h2 => okA_c (h _ (by omega) (by omega)) (q4 i h1 h2)⟩
def okLw (m : Mm) (a : Int) : Prop := m a 0 = a + 1 ∧ m a 1 = 0 ∧ m a 2 = -1 ∧ ∀ i, 0 ≤ i → i < 6 → m (a + 1) i = a + 2 + 9 * i ∧ okTx m (a + 2 + 9 * i)
theorem okLw_c {m m2 : Mm} {a : Int} (h : ∀ b, a ≤ b → b < a + 56 → m2 b = m b) (q : okLw m a) : okLw m2 a := by
  obtain ⟨q1, q2, q3, q4⟩ := q
  have h0 := h a (by omega) (by omega)
  exact ⟨by rw [h0]; exact q1, by rw [h0]; exact q2, by rw [h0]; exact q3, fun i h1 h2 => ⟨by rw [h _ (by omega) (by omega)]; exact (q4 i h1 h2).1, okTx_c (fun b hb1 hb2 => h b (by omega) (by omega)) (q4 i h1 h2).2⟩⟩
def okPt (m : Mm) (a : Int) : Prop := m a 0 = a + 1 ∧ m a 1 = a + 2 ∧ m a 2 = 0 ∧ okA m (a + 2) ∧ ∀ i, 0 ≤ i → i < 16 → m (a + 1) i = a + 3 + 10 * i ∧ okY m (a + 3 + 10 * i)
theorem okPt_c {m m2 : Mm} {a : Int} (h : ∀ b, a ≤ b → b < a + 163 → m2 b = m b) (q : okPt m a) : okPt m2 a := by
  obtain ⟨q1, q2, q3, q5, q4⟩ := q
  have h0 := h a (by omega) (by omega)
  exact ⟨by rw [h0]; exact q1, by rw [h0]; exact q2, by rw [h0]; exact q3, okA_c (h _ (by omega) (by omega)) q5, fun i h1 h2 => ⟨by rw [h _ (by omega) (by omega)]; exact (q4 i h1 h2).1, okY_c (fun b hb1 hb2 => h b (by omega) (by omega)) (q4 i h1 h2).2⟩⟩
def okIm (m : Mm) (a : Int) : Prop := m a 0 = a + 1 ∧ m a 1 = a + 11 ∧ m a 2 = a + 15 ∧ m a 3 = 0 ∧ okY m (a + 1) ∧ okFd m (a + 11) ∧ okLw m (a + 15)
theorem okIm_c {m m2 : Mm} {a : Int} (h : ∀ b, a ≤ b → b < a + 71 → m2 b = m b) (q : okIm m a) : okIm m2 a := by
  obtain ⟨q1, q2, q3, q4, q5, q6, q7⟩ := q
  have h0 := h a (by omega) (by omega)
  exact ⟨by rw [h0]; exact q1, by rw [h0]; exact q2, by rw [h0]; exact q3, by rw [h0]; exact q4, okY_c (fun b hb1 hb2 => h b (by omega) (by omega)) q5, okFd_c (fun b hb1 hb2 => h b (by omega) (by omega)) q6, okLw_c (fun b hb1 hb2 => h b (by omega) (by omega)) q7⟩
def okPp (m : Mm) (a : Int) : Prop := m a 0 = a + 1 ∧ m a 1 = a + 11 ∧ m a 2 = a + 21 ∧ m a 3 = a + 22 ∧ m a 4 = a + 23 ∧ (∀ i, 5 ≤ i → i ≤ 8 → m a i = 0) ∧ okY m (a + 1) ∧ okY m (a + 11) ∧ okA m (a + 21) ∧ okA m (a + 22) ∧ okA m (a + 23)
theorem okPp_c {m m2 : Mm} {a : Int} (h : ∀ b, a ≤ b → b < a + 24 → m2 b = m b) (q : okPp m a) : okPp m2 a := by
  obtain ⟨q1, q2, q3, q4, q5, q6, q7, q8, q9, q10, q11⟩ := q
  have h0 := h a (by omega) (by omega)
  exact ⟨by rw [h0]; exact q1, by rw [h0]; exact q2, by rw [h0]; exact q3, by rw [h0]; exact q4, by rw [h0]; exact q5, fun i h1 h2 => by rw [h0]; exact q6 i h1 h2, okY_c (fun b hb1 hb2 => h b (by omega) (by omega)) q7, okY_c (fun b hb1 hb2 => h b (by omega) (by omega)) q8, okA_c (h _ (by omega) (by omega)) q9, okA_c (h _ (by omega) (by omega)) q10, okA_c (h _ (by omega) (by omega)) q11⟩
def okDr (m : Mm) (a : Int) : Prop := m a 0 = a + 1 ∧ m a 1 = 0 ∧ okY m (a + 1)
theorem okDr_c {m m2 : Mm} {a : Int} (h : ∀ b, a ≤ b → b < a + 11 → m2 b = m b) (q : okDr m a) : okDr m2 a := by
  obtain ⟨q1, q2, q3⟩ := q
  have h0 := h a (by omega) (by omega)
  exact ⟨by rw [h0]; exact q1, by rw [h0]; exact q2, okY_c (fun b hb1 hb2 => h b (by omega) (by omega)) q3⟩
def okRd (m : Mm) (a : Int) : Prop := m a 0 = a + 1 ∧ m a 1 = a + 2 ∧ m a 4 = a + 2 ∧ (∀ i, 2 ≤ i → i ≤ 10 → i ≠ 4 → m a i = 0) ∧ okA m (a + 1) ∧ okTx m (a + 2)
theorem okRd_c {m m2 : Mm} {a : Int} (h : ∀ b, a ≤ b → b < a + 11 → m2 b = m b) (q : okRd m a) : okRd m2 a := by
  obtain ⟨q1, q2, q3, q4, q5, q6⟩ := q
  have h0 := h a (by omega) (by omega)
  exact ⟨by rw [h0]; exact q1, by rw [h0]; exact q2, by rw [h0]; exact q3, fun i h1 h2 h3 => by rw [h0]; exact q4 i h1 h2 h3, okA_c (h _ (by omega) (by omega)) q5, okTx_c (fun b hb1 hb2 => h b (by omega) (by omega)) q6⟩
def okSx (m : Mm) (a : Int) : Prop := m a 0 = a + 1 ∧ m a 1 = a + 11 ∧ m a 2 = a + 174 ∧ m a 3 = a + 184 ∧ m a 4 = a + 347 ∧ m a 9 = -1 ∧ (∀ i, 5 ≤ i → i ≤ 8 → m a i = 0) ∧ okY m (a + 1) ∧ okPt m (a + 11) ∧ okY m (a + 174) ∧ okPt m (a + 184) ∧ okA m (a + 347)
theorem okSx_c {m m2 : Mm} {a : Int} (h : ∀ b, a ≤ b → b < a + 348 → m2 b = m b) (q : okSx m a) : okSx m2 a := by
  obtain ⟨q1, q2, q3, q4, q5, q6, q7, q8, q9, q10, q11, q12⟩ := q
  have h0 := h a (by omega) (by omega)
  exact ⟨by rw [h0]; exact q1, by rw [h0]; exact q2, by rw [h0]; exact q3, by rw [h0]; exact q4, by rw [h0]; exact q5, by rw [h0]; exact q6, fun i h1 h2 => by rw [h0]; exact q7 i h1 h2, okY_c (fun b hb1 hb2 => h b (by omega) (by omega)) q8, okPt_c (fun b hb1 hb2 => h b (by omega) (by omega)) q9, okY_c (fun b hb1 hb2 => h b (by omega) (by omega)) q10, okPt_c (fun b hb1 hb2 => h b (by omega) (by omega)) q11, okA_c (h _ (by omega) (by omega)) q12⟩
def okX (m : Mm) (a : Int) : Prop := m a 0 = a + 1 ∧ m a 1 = a + 2 ∧ m a 2 = a + 12 ∧ m a 3 = a + 349 ∧ m a 4 = a + 353 ∧ m a 5 = a + 409 ∧ m a 6 = a + 552 ∧ m a 7 = a + 576 ∧ m a 8 = a + 580 ∧ m a 9 = a + 591 ∧ m a 10 = a + 602 ∧ m a 11 = 0 ∧ m a 12 = -1 ∧ m a 13 = 0 ∧ okSx m (a + 1) ∧ okFd m (a + 349) ∧ okLw m (a + 353) ∧ m (a + 409) 0 = a + 410 ∧ m (a + 409) 1 = a + 481 ∧ okIm m (a + 410) ∧ okIm m (a + 481) ∧ okPp m (a + 552) ∧ okPk m (a + 576) ∧ okDr m (a + 580) ∧ okRd m (a + 591) ∧ okA m (a + 602)

theorem nA {a k : Nat} (h : k ≠ 0) : (a : Int) ≠ ((a + k : Nat) : Int) := by omega
theorem nA2 {a k : Nat} (h : k ≠ 0) : ((a + k : Nat) : Int) ≠ (a : Int) := by omega
theorem nB {a j k : Nat} (h : j ≠ k) : ((a + j : Nat) : Int) ≠ ((a + k : Nat) : Int) := by omega
theorem lA {a : Nat} (k : Nat) : (a : Int) < ((a + (k + 1) : Nat) : Int) := by omega
theorem lB {a j k : Nat} (h : j < k) : ((a + j : Nat) : Int) < ((a + k : Nat) : Int) := by omega
theorem fr {a k : Nat} {b : Int} (h : b < (a : Int)) : b ≠ ((a + k : Nat) : Int) := by omega
theorem fr0 {a : Nat} {b : Int} (h : b < (a : Int)) : b ≠ (a : Int) := by omega
theorem frl {a k : Nat} {b : Int} (h : b < (a : Int)) : b < ((a + k : Nat) : Int) := by omega
theorem bN {a j s k : Nat} {b : Int} (h1 : ((a + j : Nat) : Int) ≤ b) (h2 : b < ((a + j : Nat) : Int) + s) (h : k < j ∨ j + s ≤ k) : b ≠ ((a + k : Nat) : Int) := by omega
theorem bL {a j s k : Nat} {b : Int} (h1 : ((a + j : Nat) : Int) ≤ b) (h2 : b < ((a + j : Nat) : Int) + s) (h : j + s ≤ k) : b < ((a + k : Nat) : Int) := by omega
theorem b0 {a j : Nat} {b : Int} (h1 : ((a + j : Nat) : Int) ≤ b) (h : 0 < j) : b ≠ (a : Int) := by omega
theorem cA (a k : Nat) : ((a + k : Nat) : Int) = (a : Int) + (k : Int) := by omega
theorem cB (a j k : Nat) : ((a + j : Nat) : Int) + (k : Int) = ((a + (j + k) : Nat) : Int) := by omega
theorem three {i : Int} (h1 : 1 ≤ i) (h2 : i ≤ 3) : i = 1 ∨ i = 2 ∨ i = 3 := by omega
theorem three0 {i : Int} (h1 : 0 ≤ i) (h2 : i ≤ 2) : i = 0 ∨ i = 1 ∨ i = 2 := by omega
theorem seven {i : Int} (h1 : 1 ≤ i) (h2 : i ≤ 7) : i = 1 ∨ i = 2 ∨ i = 3 ∨ i = 4 ∨ i = 5 ∨ i = 6 ∨ i = 7 := by omega
theorem eight1 {i : Int} (h1 : 1 ≤ i) (h2 : i ≤ 8) : i = 1 ∨ i = 2 ∨ i = 3 ∨ i = 4 ∨ i = 5 ∨ i = 6 ∨ i = 7 ∨ i = 8 := by omega
theorem four5 {i : Int} (h1 : 5 ≤ i) (h2 : i ≤ 8) : i = 5 ∨ i = 6 ∨ i = 7 ∨ i = 8 := by omega
theorem eight4 {i : Int} (h1 : 2 ≤ i) (h2 : i ≤ 10) (h3 : i ≠ 4) : i = 2 ∨ i = 3 ∨ i = 5 ∨ i = 6 ∨ i = 7 ∨ i = 8 ∨ i = 9 ∨ i = 10 := by omega
theorem nine {i : Int} (h1 : 0 ≤ i) (h2 : i < 9) : i = 0 ∨ i = 1 ∨ i = 2 ∨ i = 3 ∨ i = 4 ∨ i = 5 ∨ i = 6 ∨ i = 7 ∨ i = 8 := by omega
theorem eight {i : Int} (h1 : 1 ≤ i) (h2 : i ≤ 9) (h3 : i ≠ 8) : i = 1 ∨ i = 2 ∨ i = 3 ∨ i = 4 ∨ i = 5 ∨ i = 6 ∨ i = 7 ∨ i = 9 := by omega
theorem c9 (a k : Nat) : (a : Int) + ((k + 1 : Nat) : Int) = (a : Int) + 1 + (k : Int) := by omega
theorem getE {sh sh2 : Sp} {L : Nat} {x : Nat × Nat} (h : sh2 = sh ++ [x]) (hl : sh.length = L) : sh2[L]? = some x := by
  rw [h, List.getElem?_append_right (by omega), hl, Nat.sub_self]; rfl
theorem lnA {sh t : Sp} {L n : Nat} (h : sh.length = L) (ht : t.length = n) : (sh ++ t).length = L + n := by rw [List.length_append, h, ht]
theorem dftA (kd : Nat) (h : kd = 13 ∨ kd = 14 ∨ kd = 15) : dft kd = fun _ => 0 := by rcases h with rfl | rfl | rfl <;> rfl
theorem w_newa13 {E : EN} {mi : MI} {k C S : Nat} {sh : Sp} {mem : Mm} {cs : Nat × Nat} {pc : Nat} {al : List (Nat × AV)} {st : List AV} {Q : PQ} {n : Int} {L : Nat} (hph : E.2.2.2.2.2.1 = false) (hL : sh.length = L) (hd : decode mi.2.1 pc = .ok (.newarray .int, 2)) (h0 : 0 ≤ n) (hn : n < 100000) (n2 c2 s2 : Nat) (hn2 : n.toNat = n2) (hc2 : cs.1 + 1 = c2) (hs2 : cs.2 + n2 = s2) (hc1 : c2 ≤ C) (hs1 : s2 ≤ S) (h : ∀ (sh2 : Sp) (m2 : Mm), sh2 = sh ++ [(13, n2)] → sh2.length = L + 1 → aSh sh2 L 13 n2 → (∀ a k n, aSh sh a k n → aSh sh2 a k n) → okA m2 L → (∀ b : Int, b ≠ L → m2 b = mem b) → VG E mi k C S sh2 m2 (c2, s2) (pc + 2) al (aR L :: st) Q) : VG E mi k C S sh mem cs pc al (aI n :: st) Q := by
  subst hL
  subst hn2
  subst hc2
  subst hs2
  exact v_newa13 hph hd h0 hn hc1 hs1 (h _ _ rfl (lnA rfl rfl) (aSh_last (t := [(13, n.toNat)]) 0 (by omega) rfl) (fun _ _ _ q => aSh_app q) (fun j => by rw [aNw_at]; rfl) (fun b hb => aNw_ne hb))
theorem w_newa14 {E : EN} {mi : MI} {k C S : Nat} {sh : Sp} {mem : Mm} {cs : Nat × Nat} {pc : Nat} {al : List (Nat × AV)} {st : List AV} {Q : PQ} {n : Int} {L : Nat} (hph : E.2.2.2.2.2.1 = false) (hL : sh.length = L) (hd : decode mi.2.1 pc = .ok (.newarray .long, 2)) (h0 : 0 ≤ n) (hn : n < 100000) (n2 c2 s2 : Nat) (hn2 : n.toNat = n2) (hc2 : cs.1 + 1 = c2) (hs2 : cs.2 + n2 = s2) (hc1 : c2 ≤ C) (hs1 : s2 ≤ S) (h : ∀ (sh2 : Sp) (m2 : Mm), sh2 = sh ++ [(14, n2)] → sh2.length = L + 1 → aSh sh2 L 14 n2 → (∀ a k n, aSh sh a k n → aSh sh2 a k n) → okA m2 L → (∀ b : Int, b ≠ L → m2 b = mem b) → VG E mi k C S sh2 m2 (c2, s2) (pc + 2) al (aR L :: st) Q) : VG E mi k C S sh mem cs pc al (aI n :: st) Q := by
  subst hL
  subst hn2
  subst hc2
  subst hs2
  exact v_newa14 hph hd h0 hn hc1 hs1 (h _ _ rfl (lnA rfl rfl) (aSh_last (t := [(14, n.toNat)]) 0 (by omega) rfl) (fun _ _ _ q => aSh_app q) (fun j => by rw [aNw_at]; rfl) (fun b hb => aNw_ne hb))
theorem w_newa15 {E : EN} {mi : MI} {k C S : Nat} {sh : Sp} {mem : Mm} {cs : Nat × Nat} {pc : Nat} {al : List (Nat × AV)} {st : List AV} {Q : PQ} {n : Int} {L : Nat} (hph : E.2.2.2.2.2.1 = false) (hL : sh.length = L) (hd : decode mi.2.1 pc = .ok (.newarray .boolean, 2)) (h0 : 0 ≤ n) (hn : n < 100000) (n2 c2 s2 : Nat) (hn2 : n.toNat = n2) (hc2 : cs.1 + 1 = c2) (hs2 : cs.2 + n2 = s2) (hc1 : c2 ≤ C) (hs1 : s2 ≤ S) (h : ∀ (sh2 : Sp) (m2 : Mm), sh2 = sh ++ [(15, n2)] → sh2.length = L + 1 → aSh sh2 L 15 n2 → (∀ a k n, aSh sh a k n → aSh sh2 a k n) → okA m2 L → (∀ b : Int, b ≠ L → m2 b = mem b) → VG E mi k C S sh2 m2 (c2, s2) (pc + 2) al (aR L :: st) Q) : VG E mi k C S sh mem cs pc al (aI n :: st) Q := by
  subst hL
  subst hn2
  subst hc2
  subst hs2
  exact v_newa15 hph hd h0 hn hc1 hs1 (h _ _ rfl (lnA rfl rfl) (aSh_last (t := [(15, n.toNat)]) 0 (by omega) rfl) (fun _ _ _ q => aSh_app q) (fun j => by rw [aNw_at]; rfl) (fun b hb => aNw_ne hb))
theorem w_newq16 {E : EN} {mi : MI} {k C S : Nat} {sh : Sp} {mem : Mm} {cs : Nat × Nat} {pc : Nat} {al : List (Nat × AV)} {st : List AV} {Q : PQ} {n : Int} {index L : Nat} (hph : E.2.2.2.2.2.1 = false) (hL : sh.length = L) (hd : decode mi.2.1 pc = .ok (.anewarray index, 3)) (hcl : Cond.classLink mi.1.cls index "YardYear$Image" ∈ lw_gd) (h0 : 0 ≤ n) (hn : n < 100000) (n2 c2 s2 : Nat) (hn2 : n.toNat = n2) (hc2 : cs.1 + 1 = c2) (hs2 : cs.2 + n2 = s2) (hc1 : c2 ≤ C) (hs1 : s2 ≤ S) (h : ∀ (sh2 : Sp) (m2 : Mm), sh2 = sh ++ [(16, n2)] → sh2.length = L + 1 → aSh sh2 L 16 n2 → (∀ a k n, aSh sh a k n → aSh sh2 a k n) → (∀ b : Int, b ≠ L → m2 b = mem b) → VG E mi k C S sh2 m2 (c2, s2) (pc + 3) al (aR L :: st) Q) : VG E mi k C S sh mem cs pc al (aI n :: st) Q := by
  subst hL
  subst hn2
  subst hc2
  subst hs2
  exact v_newq16 hph hd hcl h0 hn hc1 hs1 (h _ _ rfl (lnA rfl rfl) (aSh_last (t := [(16, n.toNat)]) 0 (by omega) rfl) (fun _ _ _ q => aSh_app q) (fun b hb => aNw_ne hb))
theorem w_newq17 {E : EN} {mi : MI} {k C S : Nat} {sh : Sp} {mem : Mm} {cs : Nat × Nat} {pc : Nat} {al : List (Nat × AV)} {st : List AV} {Q : PQ} {n : Int} {index L : Nat} (hph : E.2.2.2.2.2.1 = false) (hL : sh.length = L) (hd : decode mi.2.1 pc = .ok (.anewarray index, 3)) (hcl : Cond.classLink mi.1.cls index "YardYear$Text" ∈ lw_gd) (h0 : 0 ≤ n) (hn : n < 100000) (n2 c2 s2 : Nat) (hn2 : n.toNat = n2) (hc2 : cs.1 + 1 = c2) (hs2 : cs.2 + n2 = s2) (hc1 : c2 ≤ C) (hs1 : s2 ≤ S) (h : ∀ (sh2 : Sp) (m2 : Mm), sh2 = sh ++ [(17, n2)] → sh2.length = L + 1 → aSh sh2 L 17 n2 → (∀ a k n, aSh sh a k n → aSh sh2 a k n) → (∀ b : Int, b ≠ L → m2 b = mem b) → VG E mi k C S sh2 m2 (c2, s2) (pc + 3) al (aR L :: st) Q) : VG E mi k C S sh mem cs pc al (aI n :: st) Q := by
  subst hL
  subst hn2
  subst hc2
  subst hs2
  exact v_newq17 hph hd hcl h0 hn hc1 hs1 (h _ _ rfl (lnA rfl rfl) (aSh_last (t := [(17, n.toNat)]) 0 (by omega) rfl) (fun _ _ _ q => aSh_app q) (fun b hb => aNw_ne hb))
theorem w_newq18 {E : EN} {mi : MI} {k C S : Nat} {sh : Sp} {mem : Mm} {cs : Nat × Nat} {pc : Nat} {al : List (Nat × AV)} {st : List AV} {Q : PQ} {n : Int} {index L : Nat} (hph : E.2.2.2.2.2.1 = false) (hL : sh.length = L) (hd : decode mi.2.1 pc = .ok (.anewarray index, 3)) (hcl : Cond.classLink mi.1.cls index "YardYear$Yard" ∈ lw_gd) (h0 : 0 ≤ n) (hn : n < 100000) (n2 c2 s2 : Nat) (hn2 : n.toNat = n2) (hc2 : cs.1 + 1 = c2) (hs2 : cs.2 + n2 = s2) (hc1 : c2 ≤ C) (hs1 : s2 ≤ S) (h : ∀ (sh2 : Sp) (m2 : Mm), sh2 = sh ++ [(18, n2)] → sh2.length = L + 1 → aSh sh2 L 18 n2 → (∀ a k n, aSh sh a k n → aSh sh2 a k n) → (∀ b : Int, b ≠ L → m2 b = mem b) → VG E mi k C S sh2 m2 (c2, s2) (pc + 3) al (aR L :: st) Q) : VG E mi k C S sh mem cs pc al (aI n :: st) Q := by
  subst hL
  subst hn2
  subst hc2
  subst hs2
  exact v_newq18 hph hd hcl h0 hn hc1 hs1 (h _ _ rfl (lnA rfl rfl) (aSh_last (t := [(18, n.toNat)]) 0 (by omega) rfl) (fun _ _ _ q => aSh_app q) (fun b hb => aNw_ne hb))
theorem w_new {E : EN} {mi : MI} {k C S : Nat} {sh : Sp} {mem : Mm} {cs : Nat × Nat} {pc : Nat} {al : List (Nat × AV)} {st : List AV} {Q : PQ} {ci N index L : Nat} {Cn : String} {T : u_T} (hph : E.2.2.2.2.2.1 = false) (hL : sh.length = L) (hd : decode mi.2.1 pc = .ok (.new index, 3)) (hcl : Cond.classLink mi.1.cls index Cn ∈ lw_gd) (hck : aCk ci Cn T N) (hins : Cond.instantiable Cn N ∈ lw_gd) (hini : Cond.initialized Cn ∈ lw_gd) (ht : ∀ j : Nat, j < N → aT ci (j : Int) ≤ 2) (c2 s2 : Nat) (hc2 : cs.1 + 1 = c2) (hs2 : cs.2 + N = s2) (hc1 : c2 ≤ C) (hs1 : s2 ≤ S) (h : ∀ (sh2 : Sp) (m2 : Mm), sh2 = sh ++ [(ci, N)] → sh2.length = L + 1 → aSh sh2 L ci N → (∀ a k n, aSh sh a k n → aSh sh2 a k n) → m2 L = dft ci → (∀ b : Int, b ≠ L → m2 b = mem b) → VG E mi k C S sh2 m2 (c2, s2) (pc + 3) al (aR L :: st) Q) : VG E mi k C S sh mem cs pc al st Q := by
  subst hL
  subst hc2
  subst hs2
  exact v_new hph hd hcl hck hins hini ht hc1 hs1 (h _ _ rfl (lnA rfl rfl) (aSh_last (t := [(ci, N)]) 0 (by omega) rfl) (fun _ _ _ q => aSh_app q) aNw_at (fun b hb => aNw_ne hb))
theorem w_putf {E : EN} {mi : MI} {k C S : Nat} {sh : Sp} {mem : Mm} {cs : Nat × Nat} {pc : Nat} {al : List (Nat × AV)} {st : List AV} {Q : PQ} {ci N i t index : Nat} {a x : Int} (iz : Int) (hiz : (i : Int) = iz) (hph : E.2.2.2.2.2.1 = false) (hd : decode mi.2.1 pc = .ok (.putfield index, 3)) (hf : aFl mi.1.cls index ci N i) (hnf : ∃ (Cn : String) (T : u_T), vwCl[ci]? = some (Cn, T, N) ∧ ((T i).2.2.2 = false ∨ ((T i).2.2.2 = true ∧ mi.1.name = "<init>" ∧ (T i).1 = mi.1.cls ∧ ∃ n d, Cond.fieldLink mi.1.cls index (T i).1 n d ∈ lw_gd ∧ n = (T i).2.1 ∧ d = (T i).2.2.1))) (ht : aT ci (i : Int) = t) (ht2 : t ≤ 2) (hb : aKty ci i = .boolean → x = 0 ∨ x = 1) (hs : aSh sh a ci N) (h : ∀ m2 : Mm, m2 a iz = x → (∀ j : Int, j ≠ iz → m2 a j = mem a j) → (∀ b : Int, b ≠ a → m2 b = mem b) → VG E mi k C S sh m2 cs (pc + 3) al st Q) : VG E mi k C S sh mem cs pc al ((t, x) :: aR a :: st) Q := by
  subst hiz
  exact v_putf hd hf hnf ht ht2 hb (Or.inr hph) hs (h _ (aUp_re) (fun j hj => aUp_ri hj) (fun b hb => aUp_ne hb))
theorem w_init {E : EN} {mi mi' : MI} {k C S C' S' index L n : Nat} {sh t : Sp} {mem : Mm} {cs : Nat × Nat} {pc : Nat} {al : List (Nat × AV)} {rest : List AV} {Q : PQ} {ok : Mm → Int → Prop} (hd : decode mi.2.1 pc = .ok (.invokespecial index, 3)) (hM : ∀ Q' : PQ, (∀ m2 : Mm, ok m2 L → (∀ b : Int, b < L → m2 b = mem b) → Q' none (sh ++ t) m2) → CG E mi' k C' S' sh mem [aR L] Q') (h1 : aMs mi' 0) (h2 : Cond.instanceMethod mi'.1 ∈ lw_gd) (hnm : mi'.1.name = "<init>") (hrt : mi'.2.2.2 = none) (h3 : aLk mi.1.cls index mi'.1) (c2 s2 : Nat) (hc2 : cs.1 + C' = c2) (hs2 : cs.2 + S' = s2) (hf : c2 ≤ C ∧ s2 ≤ S) (hr : (rest.map aC).sum ≤ 8) (hln : sh.length = L + 1) (htl : t.length = n) (h : ∀ (sh2 : Sp) (m2 : Mm), sh2 = sh ++ t → sh2.length = L + 1 + n → (∀ a k n, aSh sh a k n → aSh sh2 a k n) → ok m2 L → (∀ b : Int, b < L → m2 b = mem b) → VG E mi (k + 1) C S sh2 m2 (c2, s2) (pc + 3) al rest Q) : VG E mi (k + 1) C S sh mem cs pc al (aR L :: rest) Q := by
  subst hc2
  subst hs2
  refine v_invI (mi' := mi') (n := 0) (av := []) (rest := rest) (Q' := fun r sh2 m2 => r = none ∧ sh2 = sh ++ t ∧ ok m2 L ∧ ∀ b : Int, b < L → m2 b = mem b) (by omega) hd (hM _ fun m2 q1 q2 => ⟨rfl, rfl, q1, q2⟩) h1 h2 hnm hrt h3 rfl hf hr (fun r sh2 m2 q => ?_)
  obtain ⟨rfl, rfl, q1, q2⟩ := q
  exact h _ m2 rfl (lnA hln htl) (fun _ _ _ q => aSh_app q) q1 q2
theorem at2_0 : ∀ j : Nat, j < 2 → aT 0 (j : Int) ≤ 2 := by decide
theorem at2_1 : ∀ j : Nat, j < 4 → aT 1 (j : Int) ≤ 2 := by decide
theorem at2_2 : ∀ j : Nat, j < 4 → aT 2 (j : Int) ≤ 2 := by decide
theorem at2_3 : ∀ j : Nat, j < 3 → aT 3 (j : Int) ≤ 2 := by decide
theorem at2_4 : ∀ j : Nat, j < 5 → aT 4 (j : Int) ≤ 2 := by decide
theorem at2_5 : ∀ j : Nat, j < 9 → aT 5 (j : Int) ≤ 2 := by decide
theorem at2_6 : ∀ j : Nat, j < 3 → aT 6 (j : Int) ≤ 2 := by decide
theorem at2_7 : ∀ j : Nat, j < 11 → aT 7 (j : Int) ≤ 2 := by decide
theorem at2_8 : ∀ j : Nat, j < 10 → aT 8 (j : Int) ≤ 2 := by decide
theorem at2_9 : ∀ j : Nat, j < 10 → aT 9 (j : Int) ≤ 2 := by decide
theorem at2_10 : ∀ j : Nat, j < 13 → aT 10 (j : Int) ≤ 2 := by decide
theorem at2_11 : ∀ j : Nat, j < 14 → aT 11 (j : Int) ≤ 2 := by decide
theorem at2_12 : ∀ j : Nat, j < 61 → aT 12 (j : Int) ≤ 2 := by decide
theorem dX10_init_0 : decode cX10_init 0 = .ok (.aload_n 0, 1) := by decide +kernel
theorem dX10_init_1 : decode cX10_init 1 = .ok (.invokespecial 3, 3) := by decide +kernel
theorem dX10_init_4 : decode cX10_init 4 = .ok (.aload_n 0, 1) := by decide +kernel
theorem dX10_init_5 : decode cX10_init 5 = .ok (.bipush 32, 2) := by decide +kernel
theorem dX10_init_7 : decode cX10_init 7 = .ok (.newarray .int, 2) := by decide +kernel
theorem dX10_init_9 : decode cX10_init 9 = .ok (.putfield 9, 3) := by decide +kernel
theorem dX10_init_12 : decode cX10_init 12 = .ok (.aload_n 0, 1) := by decide +kernel
theorem dX10_init_13 : decode cX10_init 13 = .ok (.bipush 32, 2) := by decide +kernel
theorem dX10_init_15 : decode cX10_init 15 = .ok (.newarray .int, 2) := by decide +kernel
theorem dX10_init_17 : decode cX10_init 17 = .ok (.putfield 15, 3) := by decide +kernel
theorem dX10_init_20 : decode cX10_init 20 = .ok (.aload_n 0, 1) := by decide +kernel
theorem dX10_init_21 : decode cX10_init 21 = .ok (.bipush 32, 2) := by decide +kernel
theorem dX10_init_23 : decode cX10_init 23 = .ok (.newarray .int, 2) := by decide +kernel
theorem dX10_init_25 : decode cX10_init 25 = .ok (.putfield 18, 3) := by decide +kernel
theorem dX10_init_28 : decode cX10_init 28 = .ok (.aload_n 0, 1) := by decide +kernel
theorem dX10_init_29 : decode cX10_init 29 = .ok (.bipush 10, 2) := by decide +kernel
theorem dX10_init_31 : decode cX10_init 31 = .ok (.newarray .int, 2) := by decide +kernel
theorem dX10_init_33 : decode cX10_init 33 = .ok (.putfield 21, 3) := by decide +kernel
theorem dX10_init_36 : decode cX10_init 36 = .ok (.aload_n 0, 1) := by decide +kernel
theorem dX10_init_37 : decode cX10_init 37 = .ok (.bipush 10, 2) := by decide +kernel
theorem dX10_init_39 : decode cX10_init 39 = .ok (.newarray .int, 2) := by decide +kernel
theorem dX10_init_41 : decode cX10_init 41 = .ok (.putfield 24, 3) := by decide +kernel
theorem dX10_init_44 : decode cX10_init 44 = .ok (.aload_n 0, 1) := by decide +kernel
theorem dX10_init_45 : decode cX10_init 45 = .ok (.bipush 10, 2) := by decide +kernel
theorem dX10_init_47 : decode cX10_init 47 = .ok (.newarray .int, 2) := by decide +kernel
theorem dX10_init_49 : decode cX10_init 49 = .ok (.putfield 27, 3) := by decide +kernel
theorem dX10_init_52 : decode cX10_init 52 = .ok (.aload_n 0, 1) := by decide +kernel
theorem dX10_init_53 : decode cX10_init 53 = .ok (.bipush 10, 2) := by decide +kernel
theorem dX10_init_55 : decode cX10_init 55 = .ok (.newarray .int, 2) := by decide +kernel
theorem dX10_init_57 : decode cX10_init 57 = .ok (.putfield 30, 3) := by decide +kernel
theorem dX10_init_60 : decode cX10_init 60 = .ok (.aload_n 0, 1) := by decide +kernel
theorem dX10_init_61 : decode cX10_init 61 = .ok (.iconst 4, 1) := by decide +kernel
theorem dX10_init_62 : decode cX10_init 62 = .ok (.newarray .int, 2) := by decide +kernel
theorem dX10_init_64 : decode cX10_init 64 = .ok (.putfield 33, 3) := by decide +kernel
theorem dX10_init_67 : decode cX10_init 67 = .ok (.aload_n 0, 1) := by decide +kernel
theorem dX10_init_68 : decode cX10_init 68 = .ok (.bipush 10, 2) := by decide +kernel
theorem dX10_init_70 : decode cX10_init 70 = .ok (.newarray .int, 2) := by decide +kernel
theorem dX10_init_72 : decode cX10_init 72 = .ok (.putfield 36, 3) := by decide +kernel
theorem dX10_init_75 : decode cX10_init 75 = .ok (.aload_n 0, 1) := by decide +kernel
theorem dX10_init_76 : decode cX10_init 76 = .ok (.getfield 33, 3) := by decide +kernel
theorem dX10_init_79 : decode cX10_init 79 = .ok (.iconst 1, 1) := by decide +kernel
theorem dX10_init_80 : decode cX10_init 80 = .ok (.bipush 20, 2) := by decide +kernel
theorem dX10_init_82 : decode cX10_init 82 = .ok (.iastore, 1) := by decide +kernel
theorem dX10_init_83 : decode cX10_init 83 = .ok (.aload_n 0, 1) := by decide +kernel
theorem dX10_init_84 : decode cX10_init 84 = .ok (.getfield 33, 3) := by decide +kernel
theorem dX10_init_87 : decode cX10_init 87 = .ok (.iconst 2, 1) := by decide +kernel
theorem dX10_init_88 : decode cX10_init 88 = .ok (.iconst 2, 1) := by decide +kernel
theorem dX10_init_89 : decode cX10_init 89 = .ok (.iastore, 1) := by decide +kernel
theorem dX10_init_90 : decode cX10_init 90 = .ok (.return_, 1) := by decide +kernel
set_option maxRecDepth 20000 in
set_option maxHeartbeats 4000000 in
theorem iX10_init {E : EN} {k a : Nat} {sh : Sp} {mem : Mm} {Q : PQ} (hph : E.2.2.2.2.2.1 = false) (hL : sh.length = a + 1) (hsh : sh[a]? = some (10, 13)) (hd0 : mem a = dft 10) (h : ∀ m2 : Mm, okY m2 a → (∀ b : Int, b < a → m2 b = mem b) → Q none (sh ++ tlY) m2) : CG E mX10_init (k + 1) 9 150 sh mem [aR a] Q := by
  refine CG_of rfl (Nat.le_of_ble_eq_true rfl) (aNs_c (aNr_R _) (fun _ q => nomatch q)) ?_
  show VG E mX10_init (k + 1) 9 150 sh mem (0, 0) 0 [(0, aR a)] [] Q
  have hs0 : aSh sh (a : Int) 10 13 := ⟨a, rfl, hsh⟩
  have hl0 : sh.length = a + 1 := hL
  refine v_aload_n (pc := 0) dX10_init_0 0 rfl ?_
  refine v_objI (pc := 1) (a := (a : Int)) (by omega) dX10_init_1 loX10_3 (Nat.le_of_ble_eq_true rfl) ?_
  refine v_aload_n (pc := 4) dX10_init_4 0 rfl ?_
  refine v_bipush (pc := 5) dX10_init_5 (by decide) ?_
  refine w_newa13 (pc := 7) (L := a + 1) hph hl0 dX10_init_7 (by decide) (by decide) 32 1 32 rfl rfl rfl (Nat.le_of_ble_eq_true rfl) (Nat.le_of_ble_eq_true rfl) (fun sh1 m1 s1 hl1 z1 u1 a1 f1 => ?_)
  refine w_putf (pc := 9) 0 rfl hph dX10_init_9 flX10_9 ⟨_, _, rfl, Or.inr ⟨rfl, rfl, rfl, _, _, gd_tbl (ch1 (List.mem_of_getElem? (i := 41) rfl)) rfl, rfl, rfl⟩⟩ rfl (by decide) (fun q => nomatch q) (u1 _ _ _ hs0) (fun m2 p2 q2 f2 => ?_)
  refine v_aload_n (pc := 12) dX10_init_12 0 rfl ?_
  refine v_bipush (pc := 13) dX10_init_13 (by decide) ?_
  refine w_newa13 (pc := 15) (L := a + 2) hph hl1 dX10_init_15 (by decide) (by decide) 32 2 64 rfl rfl rfl (Nat.le_of_ble_eq_true rfl) (Nat.le_of_ble_eq_true rfl) (fun sh2 m3 s2 hl2 z2 u2 a3 f3 => ?_)
  refine w_putf (pc := 17) 1 rfl hph dX10_init_17 flX10_15 ⟨_, _, rfl, Or.inr ⟨rfl, rfl, rfl, _, _, gd_tbl (ch1 (List.mem_of_getElem? (i := 44) rfl)) rfl, rfl, rfl⟩⟩ rfl (by decide) (fun q => nomatch q) (u2 _ _ _ (u1 _ _ _ hs0)) (fun m4 p4 q4 f4 => ?_)
  refine v_aload_n (pc := 20) dX10_init_20 0 rfl ?_
  refine v_bipush (pc := 21) dX10_init_21 (by decide) ?_
  refine w_newa13 (pc := 23) (L := a + 3) hph hl2 dX10_init_23 (by decide) (by decide) 32 3 96 rfl rfl rfl (Nat.le_of_ble_eq_true rfl) (Nat.le_of_ble_eq_true rfl) (fun sh3 m5 s3 hl3 z3 u3 a5 f5 => ?_)
  refine w_putf (pc := 25) 2 rfl hph dX10_init_25 flX10_18 ⟨_, _, rfl, Or.inr ⟨rfl, rfl, rfl, _, _, gd_tbl (ch1 (List.mem_of_getElem? (i := 47) rfl)) rfl, rfl, rfl⟩⟩ rfl (by decide) (fun q => nomatch q) (u3 _ _ _ (u2 _ _ _ (u1 _ _ _ hs0))) (fun m6 p6 q6 f6 => ?_)
  refine v_aload_n (pc := 28) dX10_init_28 0 rfl ?_
  refine v_bipush (pc := 29) dX10_init_29 (by decide) ?_
  refine w_newa13 (pc := 31) (L := a + 4) hph hl3 dX10_init_31 (by decide) (by decide) 10 4 106 rfl rfl rfl (Nat.le_of_ble_eq_true rfl) (Nat.le_of_ble_eq_true rfl) (fun sh4 m7 s4 hl4 z4 u4 a7 f7 => ?_)
  refine w_putf (pc := 33) 3 rfl hph dX10_init_33 flX10_21 ⟨_, _, rfl, Or.inr ⟨rfl, rfl, rfl, _, _, gd_tbl (ch1 (List.mem_of_getElem? (i := 50) rfl)) rfl, rfl, rfl⟩⟩ rfl (by decide) (fun q => nomatch q) (u4 _ _ _ (u3 _ _ _ (u2 _ _ _ (u1 _ _ _ hs0)))) (fun m8 p8 q8 f8 => ?_)
  refine v_aload_n (pc := 36) dX10_init_36 0 rfl ?_
  refine v_bipush (pc := 37) dX10_init_37 (by decide) ?_
  refine w_newa13 (pc := 39) (L := a + 5) hph hl4 dX10_init_39 (by decide) (by decide) 10 5 116 rfl rfl rfl (Nat.le_of_ble_eq_true rfl) (Nat.le_of_ble_eq_true rfl) (fun sh5 m9 s5 hl5 z5 u5 a9 f9 => ?_)
  refine w_putf (pc := 41) 4 rfl hph dX10_init_41 flX10_24 ⟨_, _, rfl, Or.inr ⟨rfl, rfl, rfl, _, _, gd_tbl (ch1 (List.mem_of_getElem? (i := 54) rfl)) rfl, rfl, rfl⟩⟩ rfl (by decide) (fun q => nomatch q) (u5 _ _ _ (u4 _ _ _ (u3 _ _ _ (u2 _ _ _ (u1 _ _ _ hs0))))) (fun m10 p10 q10 f10 => ?_)
  refine v_aload_n (pc := 44) dX10_init_44 0 rfl ?_
  refine v_bipush (pc := 45) dX10_init_45 (by decide) ?_
  refine w_newa13 (pc := 47) (L := a + 6) hph hl5 dX10_init_47 (by decide) (by decide) 10 6 126 rfl rfl rfl (Nat.le_of_ble_eq_true rfl) (Nat.le_of_ble_eq_true rfl) (fun sh6 m11 s6 hl6 z6 u6 a11 f11 => ?_)
  refine w_putf (pc := 49) 5 rfl hph dX10_init_49 flX10_27 ⟨_, _, rfl, Or.inr ⟨rfl, rfl, rfl, _, _, gd_tbl (ch1 (List.mem_of_getElem? (i := 56) rfl)) rfl, rfl, rfl⟩⟩ rfl (by decide) (fun q => nomatch q) (u6 _ _ _ (u5 _ _ _ (u4 _ _ _ (u3 _ _ _ (u2 _ _ _ (u1 _ _ _ hs0)))))) (fun m12 p12 q12 f12 => ?_)
  refine v_aload_n (pc := 52) dX10_init_52 0 rfl ?_
  refine v_bipush (pc := 53) dX10_init_53 (by decide) ?_
  refine w_newa13 (pc := 55) (L := a + 7) hph hl6 dX10_init_55 (by decide) (by decide) 10 7 136 rfl rfl rfl (Nat.le_of_ble_eq_true rfl) (Nat.le_of_ble_eq_true rfl) (fun sh7 m13 s7 hl7 z7 u7 a13 f13 => ?_)
  refine w_putf (pc := 57) 6 rfl hph dX10_init_57 flX10_30 ⟨_, _, rfl, Or.inr ⟨rfl, rfl, rfl, _, _, gd_tbl (ch1 (List.mem_of_getElem? (i := 58) rfl)) rfl, rfl, rfl⟩⟩ rfl (by decide) (fun q => nomatch q) (u7 _ _ _ (u6 _ _ _ (u5 _ _ _ (u4 _ _ _ (u3 _ _ _ (u2 _ _ _ (u1 _ _ _ hs0))))))) (fun m14 p14 q14 f14 => ?_)
  refine v_aload_n (pc := 60) dX10_init_60 0 rfl ?_
  refine v_iconst (pc := 61) dX10_init_61 (by decide) ?_
  refine w_newa13 (pc := 62) (L := a + 8) hph hl7 dX10_init_62 (by decide) (by decide) 4 8 140 rfl rfl rfl (Nat.le_of_ble_eq_true rfl) (Nat.le_of_ble_eq_true rfl) (fun sh8 m15 s8 hl8 z8 u8 a15 f15 => ?_)
  refine w_putf (pc := 64) 7 rfl hph dX10_init_64 flX10_33 ⟨_, _, rfl, Or.inr ⟨rfl, rfl, rfl, _, _, gd_tbl (ch1 (List.mem_of_getElem? (i := 60) rfl)) rfl, rfl, rfl⟩⟩ rfl (by decide) (fun q => nomatch q) (u8 _ _ _ (u7 _ _ _ (u6 _ _ _ (u5 _ _ _ (u4 _ _ _ (u3 _ _ _ (u2 _ _ _ (u1 _ _ _ hs0)))))))) (fun m16 p16 q16 f16 => ?_)
  refine v_aload_n (pc := 67) dX10_init_67 0 rfl ?_
  refine v_bipush (pc := 68) dX10_init_68 (by decide) ?_
  refine w_newa13 (pc := 70) (L := a + 9) hph hl8 dX10_init_70 (by decide) (by decide) 10 9 150 rfl rfl rfl (Nat.le_of_ble_eq_true rfl) (Nat.le_of_ble_eq_true rfl) (fun sh9 m17 s9 hl9 z9 u9 a17 f17 => ?_)
  refine w_putf (pc := 72) 8 rfl hph dX10_init_72 flX10_36 ⟨_, _, rfl, Or.inr ⟨rfl, rfl, rfl, _, _, gd_tbl (ch1 (List.mem_of_getElem? (i := 66) rfl)) rfl, rfl, rfl⟩⟩ rfl (by decide) (fun q => nomatch q) (u9 _ _ _ (u8 _ _ _ (u7 _ _ _ (u6 _ _ _ (u5 _ _ _ (u4 _ _ _ (u3 _ _ _ (u2 _ _ _ (u1 _ _ _ hs0))))))))) (fun m18 p18 q18 f18 => ?_)
  refine v_aload_n (pc := 75) dX10_init_75 0 rfl ?_
  refine v_getf9 (pc := 76) (t := 2) (v := ((a + 8 : Nat) : Int)) dX10_init_76 flX10_33 rfl (u9 _ _ _ (u8 _ _ _ (u7 _ _ _ (u6 _ _ _ (u5 _ _ _ (u4 _ _ _ (u3 _ _ _ (u2 _ _ _ (u1 _ _ _ hs0))))))))) (show m18 (a : Int) 7 = ((a + 8 : Nat) : Int) from (by rw [q18 _ (by decide), f17 _ (nA (k := 9) (by decide)), p16])) ?_
  refine v_iconst (pc := 79) dX10_init_79 (by decide) ?_
  refine v_bipush (pc := 80) dX10_init_80 (by decide) ?_
  refine v_iast (pc := 82) dX10_init_82 (u9 _ _ _ z8) (by decide) (by decide) ?_
  obtain ⟨m19, hm19⟩ : ∃ m9, m9 = aUp m18 ((a + 8 : Nat) : Int) 1 (20) := ⟨_, rfl⟩
  rw [← hm19]
  have f19 : ∀ b : Int, b ≠ ((a + 8 : Nat) : Int) → m19 b = m18 b := fun b hb => by rw [hm19]; exact aUp_ne hb
  refine v_aload_n (pc := 83) dX10_init_83 0 rfl ?_
  refine v_getf9 (pc := 84) (t := 2) (v := ((a + 8 : Nat) : Int)) dX10_init_84 flX10_33 rfl (u9 _ _ _ (u8 _ _ _ (u7 _ _ _ (u6 _ _ _ (u5 _ _ _ (u4 _ _ _ (u3 _ _ _ (u2 _ _ _ (u1 _ _ _ hs0))))))))) (show m19 (a : Int) 7 = ((a + 8 : Nat) : Int) from (by rw [f19 _ (nA (k := 8) (by decide)), q18 _ (by decide), f17 _ (nA (k := 9) (by decide)), p16])) ?_
  refine v_iconst (pc := 87) dX10_init_87 (by decide) ?_
  refine v_iconst (pc := 88) dX10_init_88 (by decide) ?_
  refine v_iast (pc := 89) dX10_init_89 (u9 _ _ _ z8) (by decide) (by decide) ?_
  obtain ⟨m20, hm20⟩ : ∃ m9, m9 = aUp m19 ((a + 8 : Nat) : Int) 2 (2) := ⟨_, rfl⟩
  rw [← hm20]
  have f20 : ∀ b : Int, b ≠ ((a + 8 : Nat) : Int) → m20 b = m19 b := fun b hb => by rw [hm20]; exact aUp_ne hb
  have e9 : sh9 = sh ++ tlY := by
    rw [s9, s8, s7, s6, s5, s4, s3, s2, s1]
    simp only [List.append_assoc]
    rfl
  rw [e9]
  refine v_vret (pc := 90) (st := []) dX10_init_90 rfl rfl (Nat.le_of_ble_eq_true rfl) (h m20 ?_ ?_)
  · have g0 : ∀ i : Int, 0 ≤ i → i < 9 → m20 a i = a + 1 + i := by
      intro i h1 h2
      rcases nine h1 h2 with rfl | rfl | rfl | rfl | rfl | rfl | rfl | rfl | rfl
      · exact ((show m20 (a : Int) 0 = ((a + 1 : Nat) : Int) from (by rw [f20 _ (nA (k := 8) (by decide)), f19 _ (nA (k := 8) (by decide)), q18 _ (by decide), f17 _ (nA (k := 9) (by decide)), q16 _ (by decide), f15 _ (nA (k := 8) (by decide)), q14 _ (by decide), f13 _ (nA (k := 7) (by decide)), q12 _ (by decide), f11 _ (nA (k := 6) (by decide)), q10 _ (by decide), f9 _ (nA (k := 5) (by decide)), q8 _ (by decide), f7 _ (nA (k := 4) (by decide)), q6 _ (by decide), f5 _ (nA (k := 3) (by decide)), q4 _ (by decide), f3 _ (nA (k := 2) (by decide)), p2])).trans (cA a 1)).trans (c9 a 0)
      · exact ((show m20 (a : Int) 1 = ((a + 2 : Nat) : Int) from (by rw [f20 _ (nA (k := 8) (by decide)), f19 _ (nA (k := 8) (by decide)), q18 _ (by decide), f17 _ (nA (k := 9) (by decide)), q16 _ (by decide), f15 _ (nA (k := 8) (by decide)), q14 _ (by decide), f13 _ (nA (k := 7) (by decide)), q12 _ (by decide), f11 _ (nA (k := 6) (by decide)), q10 _ (by decide), f9 _ (nA (k := 5) (by decide)), q8 _ (by decide), f7 _ (nA (k := 4) (by decide)), q6 _ (by decide), f5 _ (nA (k := 3) (by decide)), p4])).trans (cA a 2)).trans (c9 a 1)
      · exact ((show m20 (a : Int) 2 = ((a + 3 : Nat) : Int) from (by rw [f20 _ (nA (k := 8) (by decide)), f19 _ (nA (k := 8) (by decide)), q18 _ (by decide), f17 _ (nA (k := 9) (by decide)), q16 _ (by decide), f15 _ (nA (k := 8) (by decide)), q14 _ (by decide), f13 _ (nA (k := 7) (by decide)), q12 _ (by decide), f11 _ (nA (k := 6) (by decide)), q10 _ (by decide), f9 _ (nA (k := 5) (by decide)), q8 _ (by decide), f7 _ (nA (k := 4) (by decide)), p6])).trans (cA a 3)).trans (c9 a 2)
      · exact ((show m20 (a : Int) 3 = ((a + 4 : Nat) : Int) from (by rw [f20 _ (nA (k := 8) (by decide)), f19 _ (nA (k := 8) (by decide)), q18 _ (by decide), f17 _ (nA (k := 9) (by decide)), q16 _ (by decide), f15 _ (nA (k := 8) (by decide)), q14 _ (by decide), f13 _ (nA (k := 7) (by decide)), q12 _ (by decide), f11 _ (nA (k := 6) (by decide)), q10 _ (by decide), f9 _ (nA (k := 5) (by decide)), p8])).trans (cA a 4)).trans (c9 a 3)
      · exact ((show m20 (a : Int) 4 = ((a + 5 : Nat) : Int) from (by rw [f20 _ (nA (k := 8) (by decide)), f19 _ (nA (k := 8) (by decide)), q18 _ (by decide), f17 _ (nA (k := 9) (by decide)), q16 _ (by decide), f15 _ (nA (k := 8) (by decide)), q14 _ (by decide), f13 _ (nA (k := 7) (by decide)), q12 _ (by decide), f11 _ (nA (k := 6) (by decide)), p10])).trans (cA a 5)).trans (c9 a 4)
      · exact ((show m20 (a : Int) 5 = ((a + 6 : Nat) : Int) from (by rw [f20 _ (nA (k := 8) (by decide)), f19 _ (nA (k := 8) (by decide)), q18 _ (by decide), f17 _ (nA (k := 9) (by decide)), q16 _ (by decide), f15 _ (nA (k := 8) (by decide)), q14 _ (by decide), f13 _ (nA (k := 7) (by decide)), p12])).trans (cA a 6)).trans (c9 a 5)
      · exact ((show m20 (a : Int) 6 = ((a + 7 : Nat) : Int) from (by rw [f20 _ (nA (k := 8) (by decide)), f19 _ (nA (k := 8) (by decide)), q18 _ (by decide), f17 _ (nA (k := 9) (by decide)), q16 _ (by decide), f15 _ (nA (k := 8) (by decide)), p14])).trans (cA a 7)).trans (c9 a 6)
      · exact ((show m20 (a : Int) 7 = ((a + 8 : Nat) : Int) from (by rw [f20 _ (nA (k := 8) (by decide)), f19 _ (nA (k := 8) (by decide)), q18 _ (by decide), f17 _ (nA (k := 9) (by decide)), p16])).trans (cA a 8)).trans (c9 a 7)
      · exact ((show m20 (a : Int) 8 = ((a + 9 : Nat) : Int) from (by rw [f20 _ (nA (k := 8) (by decide)), f19 _ (nA (k := 8) (by decide)), p18])).trans (cA a 9)).trans (c9 a 8)
    refine ⟨g0, (by rw [f20 _ (nA (k := 8) (by decide)), f19 _ (nA (k := 8) (by decide)), q18 _ (by decide), f17 _ (nA (k := 9) (by decide)), q16 _ (by decide), f15 _ (nA (k := 8) (by decide)), q14 _ (by decide), f13 _ (nA (k := 7) (by decide)), q12 _ (by decide), f11 _ (nA (k := 6) (by decide)), q10 _ (by decide), f9 _ (nA (k := 5) (by decide)), q8 _ (by decide), f7 _ (nA (k := 4) (by decide)), q6 _ (by decide), f5 _ (nA (k := 3) (by decide)), q4 _ (by decide), f3 _ (nA (k := 2) (by decide)), q2 _ (by decide), f1 _ (nA (k := 1) (by decide)), hd0]; rfl), (by rw [f20 _ (nA (k := 8) (by decide)), f19 _ (nA (k := 8) (by decide)), q18 _ (by decide), f17 _ (nA (k := 9) (by decide)), q16 _ (by decide), f15 _ (nA (k := 8) (by decide)), q14 _ (by decide), f13 _ (nA (k := 7) (by decide)), q12 _ (by decide), f11 _ (nA (k := 6) (by decide)), q10 _ (by decide), f9 _ (nA (k := 5) (by decide)), q8 _ (by decide), f7 _ (nA (k := 4) (by decide)), q6 _ (by decide), f5 _ (nA (k := 3) (by decide)), q4 _ (by decide), f3 _ (nA (k := 2) (by decide)), q2 _ (by decide), f1 _ (nA (k := 1) (by decide)), hd0]; rfl), (by rw [f20 _ (nA (k := 8) (by decide)), f19 _ (nA (k := 8) (by decide)), q18 _ (by decide), f17 _ (nA (k := 9) (by decide)), q16 _ (by decide), f15 _ (nA (k := 8) (by decide)), q14 _ (by decide), f13 _ (nA (k := 7) (by decide)), q12 _ (by decide), f11 _ (nA (k := 6) (by decide)), q10 _ (by decide), f9 _ (nA (k := 5) (by decide)), q8 _ (by decide), f7 _ (nA (k := 4) (by decide)), q6 _ (by decide), f5 _ (nA (k := 3) (by decide)), q4 _ (by decide), f3 _ (nA (k := 2) (by decide)), q2 _ (by decide), f1 _ (nA (k := 1) (by decide)), hd0]; rfl), (by rw [f20 _ (nA (k := 8) (by decide)), f19 _ (nA (k := 8) (by decide)), q18 _ (by decide), f17 _ (nA (k := 9) (by decide)), q16 _ (by decide), f15 _ (nA (k := 8) (by decide)), q14 _ (by decide), f13 _ (nA (k := 7) (by decide)), q12 _ (by decide), f11 _ (nA (k := 6) (by decide)), q10 _ (by decide), f9 _ (nA (k := 5) (by decide)), q8 _ (by decide), f7 _ (nA (k := 4) (by decide)), q6 _ (by decide), f5 _ (nA (k := 3) (by decide)), q4 _ (by decide), f3 _ (nA (k := 2) (by decide)), q2 _ (by decide), f1 _ (nA (k := 1) (by decide)), hd0]; rfl), ?_, ?_⟩
    · intro i h1 h2 h3
      rcases eight h1 h2 h3 with rfl | rfl | rfl | rfl | rfl | rfl | rfl | rfl
      · exact (cA a 1) ▸ okA_c (by rw [f20 _ (nB (j := 1) (k := 8) (by decide)), f19 _ (nB (j := 1) (k := 8) (by decide)), f18 _ (nA2 (k := 1) (by decide)), f17 _ (nB (j := 1) (k := 9) (by decide)), f16 _ (nA2 (k := 1) (by decide)), f15 _ (nB (j := 1) (k := 8) (by decide)), f14 _ (nA2 (k := 1) (by decide)), f13 _ (nB (j := 1) (k := 7) (by decide)), f12 _ (nA2 (k := 1) (by decide)), f11 _ (nB (j := 1) (k := 6) (by decide)), f10 _ (nA2 (k := 1) (by decide)), f9 _ (nB (j := 1) (k := 5) (by decide)), f8 _ (nA2 (k := 1) (by decide)), f7 _ (nB (j := 1) (k := 4) (by decide)), f6 _ (nA2 (k := 1) (by decide)), f5 _ (nB (j := 1) (k := 3) (by decide)), f4 _ (nA2 (k := 1) (by decide)), f3 _ (nB (j := 1) (k := 2) (by decide)), f2 _ (nA2 (k := 1) (by decide))]) a1
      · exact (cA a 2) ▸ okA_c (by rw [f20 _ (nB (j := 2) (k := 8) (by decide)), f19 _ (nB (j := 2) (k := 8) (by decide)), f18 _ (nA2 (k := 2) (by decide)), f17 _ (nB (j := 2) (k := 9) (by decide)), f16 _ (nA2 (k := 2) (by decide)), f15 _ (nB (j := 2) (k := 8) (by decide)), f14 _ (nA2 (k := 2) (by decide)), f13 _ (nB (j := 2) (k := 7) (by decide)), f12 _ (nA2 (k := 2) (by decide)), f11 _ (nB (j := 2) (k := 6) (by decide)), f10 _ (nA2 (k := 2) (by decide)), f9 _ (nB (j := 2) (k := 5) (by decide)), f8 _ (nA2 (k := 2) (by decide)), f7 _ (nB (j := 2) (k := 4) (by decide)), f6 _ (nA2 (k := 2) (by decide)), f5 _ (nB (j := 2) (k := 3) (by decide)), f4 _ (nA2 (k := 2) (by decide))]) a3
      · exact (cA a 3) ▸ okA_c (by rw [f20 _ (nB (j := 3) (k := 8) (by decide)), f19 _ (nB (j := 3) (k := 8) (by decide)), f18 _ (nA2 (k := 3) (by decide)), f17 _ (nB (j := 3) (k := 9) (by decide)), f16 _ (nA2 (k := 3) (by decide)), f15 _ (nB (j := 3) (k := 8) (by decide)), f14 _ (nA2 (k := 3) (by decide)), f13 _ (nB (j := 3) (k := 7) (by decide)), f12 _ (nA2 (k := 3) (by decide)), f11 _ (nB (j := 3) (k := 6) (by decide)), f10 _ (nA2 (k := 3) (by decide)), f9 _ (nB (j := 3) (k := 5) (by decide)), f8 _ (nA2 (k := 3) (by decide)), f7 _ (nB (j := 3) (k := 4) (by decide)), f6 _ (nA2 (k := 3) (by decide))]) a5
      · exact (cA a 4) ▸ okA_c (by rw [f20 _ (nB (j := 4) (k := 8) (by decide)), f19 _ (nB (j := 4) (k := 8) (by decide)), f18 _ (nA2 (k := 4) (by decide)), f17 _ (nB (j := 4) (k := 9) (by decide)), f16 _ (nA2 (k := 4) (by decide)), f15 _ (nB (j := 4) (k := 8) (by decide)), f14 _ (nA2 (k := 4) (by decide)), f13 _ (nB (j := 4) (k := 7) (by decide)), f12 _ (nA2 (k := 4) (by decide)), f11 _ (nB (j := 4) (k := 6) (by decide)), f10 _ (nA2 (k := 4) (by decide)), f9 _ (nB (j := 4) (k := 5) (by decide)), f8 _ (nA2 (k := 4) (by decide))]) a7
      · exact (cA a 5) ▸ okA_c (by rw [f20 _ (nB (j := 5) (k := 8) (by decide)), f19 _ (nB (j := 5) (k := 8) (by decide)), f18 _ (nA2 (k := 5) (by decide)), f17 _ (nB (j := 5) (k := 9) (by decide)), f16 _ (nA2 (k := 5) (by decide)), f15 _ (nB (j := 5) (k := 8) (by decide)), f14 _ (nA2 (k := 5) (by decide)), f13 _ (nB (j := 5) (k := 7) (by decide)), f12 _ (nA2 (k := 5) (by decide)), f11 _ (nB (j := 5) (k := 6) (by decide)), f10 _ (nA2 (k := 5) (by decide))]) a9
      · exact (cA a 6) ▸ okA_c (by rw [f20 _ (nB (j := 6) (k := 8) (by decide)), f19 _ (nB (j := 6) (k := 8) (by decide)), f18 _ (nA2 (k := 6) (by decide)), f17 _ (nB (j := 6) (k := 9) (by decide)), f16 _ (nA2 (k := 6) (by decide)), f15 _ (nB (j := 6) (k := 8) (by decide)), f14 _ (nA2 (k := 6) (by decide)), f13 _ (nB (j := 6) (k := 7) (by decide)), f12 _ (nA2 (k := 6) (by decide))]) a11
      · exact (cA a 7) ▸ okA_c (by rw [f20 _ (nB (j := 7) (k := 8) (by decide)), f19 _ (nB (j := 7) (k := 8) (by decide)), f18 _ (nA2 (k := 7) (by decide)), f17 _ (nB (j := 7) (k := 9) (by decide)), f16 _ (nA2 (k := 7) (by decide)), f15 _ (nB (j := 7) (k := 8) (by decide)), f14 _ (nA2 (k := 7) (by decide))]) a13
      · exact (cA a 9) ▸ okA_c (by rw [f20 _ (nB (j := 9) (k := 8) (by decide)), f19 _ (nB (j := 9) (k := 8) (by decide)), f18 _ (nA2 (k := 9) (by decide))]) a17
    · funext j
      have b0 := a15 j
      rw [show (a : Int) + 8 = ((a + 8 : Nat) : Int) from (cA a 8).symm]
      rw [hm20, aUp_row]
      show (if j = 2 then (2 : Int) else m19 ((a + 8 : Nat) : Int) j) = if j = 2 then 2 else if j = 1 then 20 else 0
      by_cases c2 : j = 2
      · rw [if_pos c2, if_pos c2]
      · rw [if_neg c2, if_neg c2, hm19, aUp_row]
        show (if j = 1 then (20 : Int) else m18 ((a + 8 : Nat) : Int) j) = if j = 1 then 20 else 0
        by_cases c1 : j = 1
        · rw [if_pos c1, if_pos c1]
        · rw [if_neg c1, if_neg c1, f18 _ (nA2 (k := 8) (by decide)), f17 _ (nB (j := 8) (k := 9) (by decide)), f16 _ (nA2 (k := 8) (by decide))]
          exact b0
  · intro b hb
    rw [f20 b (fr hb), f19 b (fr hb), f18 b (fr0 hb), f17 b (fr hb), f16 b (fr0 hb), f15 b (fr hb), f14 b (fr0 hb), f13 b (fr hb), f12 b (fr0 hb), f11 b (fr hb), f10 b (fr0 hb), f9 b (fr hb), f8 b (fr0 hb), f7 b (fr hb), f6 b (fr0 hb), f5 b (fr hb), f4 b (fr0 hb), f3 b (fr hb), f2 b (fr0 hb), f1 b (fr hb)]
theorem dX9_init_0 : decode cX9_init 0 = .ok (.aload_n 0, 1) := by decide +kernel
theorem dX9_init_1 : decode cX9_init 1 = .ok (.invokespecial 3, 3) := by decide +kernel
theorem dX9_init_4 : decode cX9_init 4 = .ok (.aload_n 0, 1) := by decide +kernel
theorem dX9_init_5 : decode cX9_init 5 = .ok (.bipush 12, 2) := by decide +kernel
theorem dX9_init_7 : decode cX9_init 7 = .ok (.newarray .int, 2) := by decide +kernel
theorem dX9_init_9 : decode cX9_init 9 = .ok (.putfield 9, 3) := by decide +kernel
theorem dX9_init_12 : decode cX9_init 12 = .ok (.aload_n 0, 1) := by decide +kernel
theorem dX9_init_13 : decode cX9_init 13 = .ok (.bipush 12, 2) := by decide +kernel
theorem dX9_init_15 : decode cX9_init 15 = .ok (.newarray .int, 2) := by decide +kernel
theorem dX9_init_17 : decode cX9_init 17 = .ok (.putfield 15, 3) := by decide +kernel
theorem dX9_init_20 : decode cX9_init 20 = .ok (.aload_n 0, 1) := by decide +kernel
theorem dX9_init_21 : decode cX9_init 21 = .ok (.bipush 12, 2) := by decide +kernel
theorem dX9_init_23 : decode cX9_init 23 = .ok (.newarray .int, 2) := by decide +kernel
theorem dX9_init_25 : decode cX9_init 25 = .ok (.putfield 18, 3) := by decide +kernel
theorem dX9_init_28 : decode cX9_init 28 = .ok (.aload_n 0, 1) := by decide +kernel
theorem dX9_init_29 : decode cX9_init 29 = .ok (.bipush 12, 2) := by decide +kernel
theorem dX9_init_31 : decode cX9_init 31 = .ok (.newarray .int, 2) := by decide +kernel
theorem dX9_init_33 : decode cX9_init 33 = .ok (.putfield 21, 3) := by decide +kernel
theorem dX9_init_36 : decode cX9_init 36 = .ok (.aload_n 0, 1) := by decide +kernel
theorem dX9_init_37 : decode cX9_init 37 = .ok (.bipush 12, 2) := by decide +kernel
theorem dX9_init_39 : decode cX9_init 39 = .ok (.newarray .int, 2) := by decide +kernel
theorem dX9_init_41 : decode cX9_init 41 = .ok (.putfield 24, 3) := by decide +kernel
theorem dX9_init_44 : decode cX9_init 44 = .ok (.aload_n 0, 1) := by decide +kernel
theorem dX9_init_45 : decode cX9_init 45 = .ok (.sipush 400, 3) := by decide +kernel
theorem dX9_init_48 : decode cX9_init 48 = .ok (.newarray .int, 2) := by decide +kernel
theorem dX9_init_50 : decode cX9_init 50 = .ok (.putfield 27, 3) := by decide +kernel
theorem dX9_init_53 : decode cX9_init 53 = .ok (.aload_n 0, 1) := by decide +kernel
theorem dX9_init_54 : decode cX9_init 54 = .ok (.sipush 400, 3) := by decide +kernel
theorem dX9_init_57 : decode cX9_init 57 = .ok (.newarray .int, 2) := by decide +kernel
theorem dX9_init_59 : decode cX9_init 59 = .ok (.putfield 30, 3) := by decide +kernel
theorem dX9_init_62 : decode cX9_init 62 = .ok (.aload_n 0, 1) := by decide +kernel
theorem dX9_init_63 : decode cX9_init 63 = .ok (.bipush 40, 2) := by decide +kernel
theorem dX9_init_65 : decode cX9_init 65 = .ok (.newarray .long, 2) := by decide +kernel
theorem dX9_init_67 : decode cX9_init 67 = .ok (.putfield 33, 3) := by decide +kernel
theorem dX9_init_70 : decode cX9_init 70 = .ok (.return_, 1) := by decide +kernel
set_option maxRecDepth 20000 in
set_option maxHeartbeats 4000000 in
theorem iX9_init {E : EN} {k a : Nat} {sh : Sp} {mem : Mm} {Q : PQ} (hph : E.2.2.2.2.2.1 = false) (hL : sh.length = a + 1) (hsh : sh[a]? = some (9, 10)) (hd0 : mem a = dft 9) (h : ∀ m2 : Mm, okTx m2 a → (∀ b : Int, b < a → m2 b = mem b) → Q none (sh ++ tlTx) m2) : CG E mX9_init (k + 1) 8 900 sh mem [aR a] Q := by
  refine CG_of rfl (Nat.le_of_ble_eq_true rfl) (aNs_c (aNr_R _) (fun _ q => nomatch q)) ?_
  show VG E mX9_init (k + 1) 8 900 sh mem (0, 0) 0 [(0, aR a)] [] Q
  have hs0 : aSh sh (a : Int) 9 10 := ⟨a, rfl, hsh⟩
  have hl0 : sh.length = a + 1 := hL
  refine v_aload_n (pc := 0) dX9_init_0 0 rfl ?_
  refine v_objI (pc := 1) (a := (a : Int)) (by omega) dX9_init_1 loX9_3 (Nat.le_of_ble_eq_true rfl) ?_
  refine v_aload_n (pc := 4) dX9_init_4 0 rfl ?_
  refine v_bipush (pc := 5) dX9_init_5 (by decide) ?_
  refine w_newa13 (pc := 7) (L := a + 1) hph hl0 dX9_init_7 (by decide) (by decide) 12 1 12 rfl rfl rfl (Nat.le_of_ble_eq_true rfl) (Nat.le_of_ble_eq_true rfl) (fun sh1 m1 s1 hl1 z1 u1 a1 f1 => ?_)
  refine w_putf (pc := 9) 1 rfl hph dX9_init_9 flX9_9 ⟨_, _, rfl, Or.inr ⟨rfl, rfl, rfl, _, _, gd_tbl (ch1 (List.mem_of_getElem? (i := 202) rfl)) rfl, rfl, rfl⟩⟩ rfl (by decide) (fun q => nomatch q) (u1 _ _ _ hs0) (fun m2 p2 q2 f2 => ?_)
  refine v_aload_n (pc := 12) dX9_init_12 0 rfl ?_
  refine v_bipush (pc := 13) dX9_init_13 (by decide) ?_
  refine w_newa13 (pc := 15) (L := a + 2) hph hl1 dX9_init_15 (by decide) (by decide) 12 2 24 rfl rfl rfl (Nat.le_of_ble_eq_true rfl) (Nat.le_of_ble_eq_true rfl) (fun sh2 m3 s2 hl2 z2 u2 a3 f3 => ?_)
  refine w_putf (pc := 17) 2 rfl hph dX9_init_17 flX9_15 ⟨_, _, rfl, Or.inr ⟨rfl, rfl, rfl, _, _, gd_tbl (ch1 (List.mem_of_getElem? (i := 204) rfl)) rfl, rfl, rfl⟩⟩ rfl (by decide) (fun q => nomatch q) (u2 _ _ _ (u1 _ _ _ hs0)) (fun m4 p4 q4 f4 => ?_)
  refine v_aload_n (pc := 20) dX9_init_20 0 rfl ?_
  refine v_bipush (pc := 21) dX9_init_21 (by decide) ?_
  refine w_newa13 (pc := 23) (L := a + 3) hph hl2 dX9_init_23 (by decide) (by decide) 12 3 36 rfl rfl rfl (Nat.le_of_ble_eq_true rfl) (Nat.le_of_ble_eq_true rfl) (fun sh3 m5 s3 hl3 z3 u3 a5 f5 => ?_)
  refine w_putf (pc := 25) 3 rfl hph dX9_init_25 flX9_18 ⟨_, _, rfl, Or.inr ⟨rfl, rfl, rfl, _, _, gd_tbl (ch1 (List.mem_of_getElem? (i := 207) rfl)) rfl, rfl, rfl⟩⟩ rfl (by decide) (fun q => nomatch q) (u3 _ _ _ (u2 _ _ _ (u1 _ _ _ hs0))) (fun m6 p6 q6 f6 => ?_)
  refine v_aload_n (pc := 28) dX9_init_28 0 rfl ?_
  refine v_bipush (pc := 29) dX9_init_29 (by decide) ?_
  refine w_newa13 (pc := 31) (L := a + 4) hph hl3 dX9_init_31 (by decide) (by decide) 12 4 48 rfl rfl rfl (Nat.le_of_ble_eq_true rfl) (Nat.le_of_ble_eq_true rfl) (fun sh4 m7 s4 hl4 z4 u4 a7 f7 => ?_)
  refine w_putf (pc := 33) 4 rfl hph dX9_init_33 flX9_21 ⟨_, _, rfl, Or.inr ⟨rfl, rfl, rfl, _, _, gd_tbl (ch1 (List.mem_of_getElem? (i := 210) rfl)) rfl, rfl, rfl⟩⟩ rfl (by decide) (fun q => nomatch q) (u4 _ _ _ (u3 _ _ _ (u2 _ _ _ (u1 _ _ _ hs0)))) (fun m8 p8 q8 f8 => ?_)
  refine v_aload_n (pc := 36) dX9_init_36 0 rfl ?_
  refine v_bipush (pc := 37) dX9_init_37 (by decide) ?_
  refine w_newa13 (pc := 39) (L := a + 5) hph hl4 dX9_init_39 (by decide) (by decide) 12 5 60 rfl rfl rfl (Nat.le_of_ble_eq_true rfl) (Nat.le_of_ble_eq_true rfl) (fun sh5 m9 s5 hl5 z5 u5 a9 f9 => ?_)
  refine w_putf (pc := 41) 5 rfl hph dX9_init_41 flX9_24 ⟨_, _, rfl, Or.inr ⟨rfl, rfl, rfl, _, _, gd_tbl (ch1 (List.mem_of_getElem? (i := 213) rfl)) rfl, rfl, rfl⟩⟩ rfl (by decide) (fun q => nomatch q) (u5 _ _ _ (u4 _ _ _ (u3 _ _ _ (u2 _ _ _ (u1 _ _ _ hs0))))) (fun m10 p10 q10 f10 => ?_)
  refine v_aload_n (pc := 44) dX9_init_44 0 rfl ?_
  refine v_sipush (pc := 45) dX9_init_45 (by decide) ?_
  refine w_newa13 (pc := 48) (L := a + 6) hph hl5 dX9_init_48 (by decide) (by decide) 400 6 460 rfl rfl rfl (Nat.le_of_ble_eq_true rfl) (Nat.le_of_ble_eq_true rfl) (fun sh6 m11 s6 hl6 z6 u6 a11 f11 => ?_)
  refine w_putf (pc := 50) 6 rfl hph dX9_init_50 flX9_27 ⟨_, _, rfl, Or.inr ⟨rfl, rfl, rfl, _, _, gd_tbl (ch1 (List.mem_of_getElem? (i := 216) rfl)) rfl, rfl, rfl⟩⟩ rfl (by decide) (fun q => nomatch q) (u6 _ _ _ (u5 _ _ _ (u4 _ _ _ (u3 _ _ _ (u2 _ _ _ (u1 _ _ _ hs0)))))) (fun m12 p12 q12 f12 => ?_)
  refine v_aload_n (pc := 53) dX9_init_53 0 rfl ?_
  refine v_sipush (pc := 54) dX9_init_54 (by decide) ?_
  refine w_newa13 (pc := 57) (L := a + 7) hph hl6 dX9_init_57 (by decide) (by decide) 400 7 860 rfl rfl rfl (Nat.le_of_ble_eq_true rfl) (Nat.le_of_ble_eq_true rfl) (fun sh7 m13 s7 hl7 z7 u7 a13 f13 => ?_)
  refine w_putf (pc := 59) 7 rfl hph dX9_init_59 flX9_30 ⟨_, _, rfl, Or.inr ⟨rfl, rfl, rfl, _, _, gd_tbl (ch1 (List.mem_of_getElem? (i := 217) rfl)) rfl, rfl, rfl⟩⟩ rfl (by decide) (fun q => nomatch q) (u7 _ _ _ (u6 _ _ _ (u5 _ _ _ (u4 _ _ _ (u3 _ _ _ (u2 _ _ _ (u1 _ _ _ hs0))))))) (fun m14 p14 q14 f14 => ?_)
  refine v_aload_n (pc := 62) dX9_init_62 0 rfl ?_
  refine v_bipush (pc := 63) dX9_init_63 (by decide) ?_
  refine w_newa14 (pc := 65) (L := a + 8) hph hl7 dX9_init_65 (by decide) (by decide) 40 8 900 rfl rfl rfl (Nat.le_of_ble_eq_true rfl) (Nat.le_of_ble_eq_true rfl) (fun sh8 m15 s8 hl8 z8 u8 a15 f15 => ?_)
  refine w_putf (pc := 67) 9 rfl hph dX9_init_67 flX9_33 ⟨_, _, rfl, Or.inr ⟨rfl, rfl, rfl, _, _, gd_tbl (ch1 (List.mem_of_getElem? (i := 220) rfl)) rfl, rfl, rfl⟩⟩ rfl (by decide) (fun q => nomatch q) (u8 _ _ _ (u7 _ _ _ (u6 _ _ _ (u5 _ _ _ (u4 _ _ _ (u3 _ _ _ (u2 _ _ _ (u1 _ _ _ hs0)))))))) (fun m16 p16 q16 f16 => ?_)
  have e9 : sh8 = sh ++ tlTx := by
    rw [s8, s7, s6, s5, s4, s3, s2, s1]
    simp only [List.append_assoc]
    rfl
  rw [e9]
  refine v_vret (pc := 70) (st := []) dX9_init_70 rfl rfl (Nat.le_of_ble_eq_true rfl) (h m16 ?_ ?_)
  · refine ⟨(by rw [q16 _ (by decide), f15 _ (nA (k := 8) (by decide)), q14 _ (by decide), f13 _ (nA (k := 7) (by decide)), q12 _ (by decide), f11 _ (nA (k := 6) (by decide)), q10 _ (by decide), f9 _ (nA (k := 5) (by decide)), q8 _ (by decide), f7 _ (nA (k := 4) (by decide)), q6 _ (by decide), f5 _ (nA (k := 3) (by decide)), q4 _ (by decide), f3 _ (nA (k := 2) (by decide)), q2 _ (by decide), f1 _ (nA (k := 1) (by decide)), hd0]; rfl), (by rw [q16 _ (by decide), f15 _ (nA (k := 8) (by decide)), q14 _ (by decide), f13 _ (nA (k := 7) (by decide)), q12 _ (by decide), f11 _ (nA (k := 6) (by decide)), q10 _ (by decide), f9 _ (nA (k := 5) (by decide)), q8 _ (by decide), f7 _ (nA (k := 4) (by decide)), q6 _ (by decide), f5 _ (nA (k := 3) (by decide)), q4 _ (by decide), f3 _ (nA (k := 2) (by decide)), q2 _ (by decide), f1 _ (nA (k := 1) (by decide)), hd0]; rfl), ?_, ((show m16 (a : Int) 9 = ((a + 8 : Nat) : Int) from (by rw [p16])).trans (cA a 8)), ?_⟩
    · intro i h1 h2
      rcases seven h1 h2 with rfl | rfl | rfl | rfl | rfl | rfl | rfl
      · exact ((show m16 (a : Int) 1 = ((a + 1 : Nat) : Int) from (by rw [q16 _ (by decide), f15 _ (nA (k := 8) (by decide)), q14 _ (by decide), f13 _ (nA (k := 7) (by decide)), q12 _ (by decide), f11 _ (nA (k := 6) (by decide)), q10 _ (by decide), f9 _ (nA (k := 5) (by decide)), q8 _ (by decide), f7 _ (nA (k := 4) (by decide)), q6 _ (by decide), f5 _ (nA (k := 3) (by decide)), q4 _ (by decide), f3 _ (nA (k := 2) (by decide)), p2])).trans (cA a 1))
      · exact ((show m16 (a : Int) 2 = ((a + 2 : Nat) : Int) from (by rw [q16 _ (by decide), f15 _ (nA (k := 8) (by decide)), q14 _ (by decide), f13 _ (nA (k := 7) (by decide)), q12 _ (by decide), f11 _ (nA (k := 6) (by decide)), q10 _ (by decide), f9 _ (nA (k := 5) (by decide)), q8 _ (by decide), f7 _ (nA (k := 4) (by decide)), q6 _ (by decide), f5 _ (nA (k := 3) (by decide)), p4])).trans (cA a 2))
      · exact ((show m16 (a : Int) 3 = ((a + 3 : Nat) : Int) from (by rw [q16 _ (by decide), f15 _ (nA (k := 8) (by decide)), q14 _ (by decide), f13 _ (nA (k := 7) (by decide)), q12 _ (by decide), f11 _ (nA (k := 6) (by decide)), q10 _ (by decide), f9 _ (nA (k := 5) (by decide)), q8 _ (by decide), f7 _ (nA (k := 4) (by decide)), p6])).trans (cA a 3))
      · exact ((show m16 (a : Int) 4 = ((a + 4 : Nat) : Int) from (by rw [q16 _ (by decide), f15 _ (nA (k := 8) (by decide)), q14 _ (by decide), f13 _ (nA (k := 7) (by decide)), q12 _ (by decide), f11 _ (nA (k := 6) (by decide)), q10 _ (by decide), f9 _ (nA (k := 5) (by decide)), p8])).trans (cA a 4))
      · exact ((show m16 (a : Int) 5 = ((a + 5 : Nat) : Int) from (by rw [q16 _ (by decide), f15 _ (nA (k := 8) (by decide)), q14 _ (by decide), f13 _ (nA (k := 7) (by decide)), q12 _ (by decide), f11 _ (nA (k := 6) (by decide)), p10])).trans (cA a 5))
      · exact ((show m16 (a : Int) 6 = ((a + 6 : Nat) : Int) from (by rw [q16 _ (by decide), f15 _ (nA (k := 8) (by decide)), q14 _ (by decide), f13 _ (nA (k := 7) (by decide)), p12])).trans (cA a 6))
      · exact ((show m16 (a : Int) 7 = ((a + 7 : Nat) : Int) from (by rw [q16 _ (by decide), f15 _ (nA (k := 8) (by decide)), p14])).trans (cA a 7))
    · intro i h1 h2
      rcases eight1 h1 h2 with rfl | rfl | rfl | rfl | rfl | rfl | rfl | rfl
      · exact ((cA a 1) ▸ okA_c (by rw [f16 _ (nA2 (k := 1) (by decide)), f15 _ (nB (j := 1) (k := 8) (by decide)), f14 _ (nA2 (k := 1) (by decide)), f13 _ (nB (j := 1) (k := 7) (by decide)), f12 _ (nA2 (k := 1) (by decide)), f11 _ (nB (j := 1) (k := 6) (by decide)), f10 _ (nA2 (k := 1) (by decide)), f9 _ (nB (j := 1) (k := 5) (by decide)), f8 _ (nA2 (k := 1) (by decide)), f7 _ (nB (j := 1) (k := 4) (by decide)), f6 _ (nA2 (k := 1) (by decide)), f5 _ (nB (j := 1) (k := 3) (by decide)), f4 _ (nA2 (k := 1) (by decide)), f3 _ (nB (j := 1) (k := 2) (by decide)), f2 _ (nA2 (k := 1) (by decide))]) a1)
      · exact ((cA a 2) ▸ okA_c (by rw [f16 _ (nA2 (k := 2) (by decide)), f15 _ (nB (j := 2) (k := 8) (by decide)), f14 _ (nA2 (k := 2) (by decide)), f13 _ (nB (j := 2) (k := 7) (by decide)), f12 _ (nA2 (k := 2) (by decide)), f11 _ (nB (j := 2) (k := 6) (by decide)), f10 _ (nA2 (k := 2) (by decide)), f9 _ (nB (j := 2) (k := 5) (by decide)), f8 _ (nA2 (k := 2) (by decide)), f7 _ (nB (j := 2) (k := 4) (by decide)), f6 _ (nA2 (k := 2) (by decide)), f5 _ (nB (j := 2) (k := 3) (by decide)), f4 _ (nA2 (k := 2) (by decide))]) a3)
      · exact ((cA a 3) ▸ okA_c (by rw [f16 _ (nA2 (k := 3) (by decide)), f15 _ (nB (j := 3) (k := 8) (by decide)), f14 _ (nA2 (k := 3) (by decide)), f13 _ (nB (j := 3) (k := 7) (by decide)), f12 _ (nA2 (k := 3) (by decide)), f11 _ (nB (j := 3) (k := 6) (by decide)), f10 _ (nA2 (k := 3) (by decide)), f9 _ (nB (j := 3) (k := 5) (by decide)), f8 _ (nA2 (k := 3) (by decide)), f7 _ (nB (j := 3) (k := 4) (by decide)), f6 _ (nA2 (k := 3) (by decide))]) a5)
      · exact ((cA a 4) ▸ okA_c (by rw [f16 _ (nA2 (k := 4) (by decide)), f15 _ (nB (j := 4) (k := 8) (by decide)), f14 _ (nA2 (k := 4) (by decide)), f13 _ (nB (j := 4) (k := 7) (by decide)), f12 _ (nA2 (k := 4) (by decide)), f11 _ (nB (j := 4) (k := 6) (by decide)), f10 _ (nA2 (k := 4) (by decide)), f9 _ (nB (j := 4) (k := 5) (by decide)), f8 _ (nA2 (k := 4) (by decide))]) a7)
      · exact ((cA a 5) ▸ okA_c (by rw [f16 _ (nA2 (k := 5) (by decide)), f15 _ (nB (j := 5) (k := 8) (by decide)), f14 _ (nA2 (k := 5) (by decide)), f13 _ (nB (j := 5) (k := 7) (by decide)), f12 _ (nA2 (k := 5) (by decide)), f11 _ (nB (j := 5) (k := 6) (by decide)), f10 _ (nA2 (k := 5) (by decide))]) a9)
      · exact ((cA a 6) ▸ okA_c (by rw [f16 _ (nA2 (k := 6) (by decide)), f15 _ (nB (j := 6) (k := 8) (by decide)), f14 _ (nA2 (k := 6) (by decide)), f13 _ (nB (j := 6) (k := 7) (by decide)), f12 _ (nA2 (k := 6) (by decide))]) a11)
      · exact ((cA a 7) ▸ okA_c (by rw [f16 _ (nA2 (k := 7) (by decide)), f15 _ (nB (j := 7) (k := 8) (by decide)), f14 _ (nA2 (k := 7) (by decide))]) a13)
      · exact ((cA a 8) ▸ okA_c (by rw [f16 _ (nA2 (k := 8) (by decide))]) a15)
  · intro b hb
    rw [f16 b (fr0 hb), f15 b (fr hb), f14 b (fr0 hb), f13 b (fr hb), f12 b (fr0 hb), f11 b (fr hb), f10 b (fr0 hb), f9 b (fr hb), f8 b (fr0 hb), f7 b (fr hb), f6 b (fr0 hb), f5 b (fr hb), f4 b (fr0 hb), f3 b (fr hb), f2 b (fr0 hb), f1 b (fr hb)]
theorem dX1_init_0 : decode cX1_init 0 = .ok (.aload_n 0, 1) := by decide +kernel
theorem dX1_init_1 : decode cX1_init 1 = .ok (.invokespecial 3, 3) := by decide +kernel
theorem dX1_init_4 : decode cX1_init 4 = .ok (.aload_n 0, 1) := by decide +kernel
theorem dX1_init_5 : decode cX1_init 5 = .ok (.bipush 8, 2) := by decide +kernel
theorem dX1_init_7 : decode cX1_init 7 = .ok (.newarray .int, 2) := by decide +kernel
theorem dX1_init_9 : decode cX1_init 9 = .ok (.putfield 9, 3) := by decide +kernel
theorem dX1_init_12 : decode cX1_init 12 = .ok (.aload_n 0, 1) := by decide +kernel
theorem dX1_init_13 : decode cX1_init 13 = .ok (.bipush 8, 2) := by decide +kernel
theorem dX1_init_15 : decode cX1_init 15 = .ok (.newarray .int, 2) := by decide +kernel
theorem dX1_init_17 : decode cX1_init 17 = .ok (.putfield 15, 3) := by decide +kernel
theorem dX1_init_20 : decode cX1_init 20 = .ok (.aload_n 0, 1) := by decide +kernel
theorem dX1_init_21 : decode cX1_init 21 = .ok (.bipush 8, 2) := by decide +kernel
theorem dX1_init_23 : decode cX1_init 23 = .ok (.newarray .int, 2) := by decide +kernel
theorem dX1_init_25 : decode cX1_init 25 = .ok (.putfield 18, 3) := by decide +kernel
theorem dX1_init_28 : decode cX1_init 28 = .ok (.return_, 1) := by decide +kernel
set_option maxRecDepth 20000 in
set_option maxHeartbeats 4000000 in
theorem iX1_init {E : EN} {k a : Nat} {sh : Sp} {mem : Mm} {Q : PQ} (hph : E.2.2.2.2.2.1 = false) (hL : sh.length = a + 1) (hsh : sh[a]? = some (1, 4)) (hd0 : mem a = dft 1) (h : ∀ m2 : Mm, okFd m2 a → (∀ b : Int, b < a → m2 b = mem b) → Q none (sh ++ tlFd) m2) : CG E mX1_init (k + 1) 3 24 sh mem [aR a] Q := by
  refine CG_of rfl (Nat.le_of_ble_eq_true rfl) (aNs_c (aNr_R _) (fun _ q => nomatch q)) ?_
  show VG E mX1_init (k + 1) 3 24 sh mem (0, 0) 0 [(0, aR a)] [] Q
  have hs0 : aSh sh (a : Int) 1 4 := ⟨a, rfl, hsh⟩
  have hl0 : sh.length = a + 1 := hL
  refine v_aload_n (pc := 0) dX1_init_0 0 rfl ?_
  refine v_objI (pc := 1) (a := (a : Int)) (by omega) dX1_init_1 loX1_3 (Nat.le_of_ble_eq_true rfl) ?_
  refine v_aload_n (pc := 4) dX1_init_4 0 rfl ?_
  refine v_bipush (pc := 5) dX1_init_5 (by decide) ?_
  refine w_newa13 (pc := 7) (L := a + 1) hph hl0 dX1_init_7 (by decide) (by decide) 8 1 8 rfl rfl rfl (Nat.le_of_ble_eq_true rfl) (Nat.le_of_ble_eq_true rfl) (fun sh1 m1 s1 hl1 z1 u1 a1 f1 => ?_)
  refine w_putf (pc := 9) 1 rfl hph dX1_init_9 flX1_9 ⟨_, _, rfl, Or.inr ⟨rfl, rfl, rfl, _, _, gd_tbl (ch1 (List.mem_of_getElem? (i := 174) rfl)) rfl, rfl, rfl⟩⟩ rfl (by decide) (fun q => nomatch q) (u1 _ _ _ hs0) (fun m2 p2 q2 f2 => ?_)
  refine v_aload_n (pc := 12) dX1_init_12 0 rfl ?_
  refine v_bipush (pc := 13) dX1_init_13 (by decide) ?_
  refine w_newa13 (pc := 15) (L := a + 2) hph hl1 dX1_init_15 (by decide) (by decide) 8 2 16 rfl rfl rfl (Nat.le_of_ble_eq_true rfl) (Nat.le_of_ble_eq_true rfl) (fun sh2 m3 s2 hl2 z2 u2 a3 f3 => ?_)
  refine w_putf (pc := 17) 2 rfl hph dX1_init_17 flX1_15 ⟨_, _, rfl, Or.inr ⟨rfl, rfl, rfl, _, _, gd_tbl (ch1 (List.mem_of_getElem? (i := 175) rfl)) rfl, rfl, rfl⟩⟩ rfl (by decide) (fun q => nomatch q) (u2 _ _ _ (u1 _ _ _ hs0)) (fun m4 p4 q4 f4 => ?_)
  refine v_aload_n (pc := 20) dX1_init_20 0 rfl ?_
  refine v_bipush (pc := 21) dX1_init_21 (by decide) ?_
  refine w_newa13 (pc := 23) (L := a + 3) hph hl2 dX1_init_23 (by decide) (by decide) 8 3 24 rfl rfl rfl (Nat.le_of_ble_eq_true rfl) (Nat.le_of_ble_eq_true rfl) (fun sh3 m5 s3 hl3 z3 u3 a5 f5 => ?_)
  refine w_putf (pc := 25) 3 rfl hph dX1_init_25 flX1_18 ⟨_, _, rfl, Or.inr ⟨rfl, rfl, rfl, _, _, gd_tbl (ch1 (List.mem_of_getElem? (i := 176) rfl)) rfl, rfl, rfl⟩⟩ rfl (by decide) (fun q => nomatch q) (u3 _ _ _ (u2 _ _ _ (u1 _ _ _ hs0))) (fun m6 p6 q6 f6 => ?_)
  have e9 : sh3 = sh ++ tlFd := by
    rw [s3, s2, s1]
    simp only [List.append_assoc]
    rfl
  rw [e9]
  refine v_vret (pc := 28) (st := []) dX1_init_28 rfl rfl (Nat.le_of_ble_eq_true rfl) (h m6 ?_ ?_)
  · refine ⟨(by rw [q6 _ (by decide), f5 _ (nA (k := 3) (by decide)), q4 _ (by decide), f3 _ (nA (k := 2) (by decide)), q2 _ (by decide), f1 _ (nA (k := 1) (by decide)), hd0]; rfl), ?_, ?_⟩
    · intro i h1 h2
      rcases three h1 h2 with rfl | rfl | rfl
      · exact ((show m6 (a : Int) 1 = ((a + 1 : Nat) : Int) from (by rw [q6 _ (by decide), f5 _ (nA (k := 3) (by decide)), q4 _ (by decide), f3 _ (nA (k := 2) (by decide)), p2])).trans (cA a 1))
      · exact ((show m6 (a : Int) 2 = ((a + 2 : Nat) : Int) from (by rw [q6 _ (by decide), f5 _ (nA (k := 3) (by decide)), p4])).trans (cA a 2))
      · exact ((show m6 (a : Int) 3 = ((a + 3 : Nat) : Int) from (by rw [p6])).trans (cA a 3))
    · intro i h1 h2
      rcases three h1 h2 with rfl | rfl | rfl
      · exact ((cA a 1) ▸ okA_c (by rw [f6 _ (nA2 (k := 1) (by decide)), f5 _ (nB (j := 1) (k := 3) (by decide)), f4 _ (nA2 (k := 1) (by decide)), f3 _ (nB (j := 1) (k := 2) (by decide)), f2 _ (nA2 (k := 1) (by decide))]) a1)
      · exact ((cA a 2) ▸ okA_c (by rw [f6 _ (nA2 (k := 2) (by decide)), f5 _ (nB (j := 2) (k := 3) (by decide)), f4 _ (nA2 (k := 2) (by decide))]) a3)
      · exact ((cA a 3) ▸ okA_c (by rw [f6 _ (nA2 (k := 3) (by decide))]) a5)
  · intro b hb
    rw [f6 b (fr0 hb), f5 b (fr hb), f4 b (fr0 hb), f3 b (fr hb), f2 b (fr0 hb), f1 b (fr hb)]
theorem dX4_init_0 : decode cX4_init 0 = .ok (.aload_n 0, 1) := by decide +kernel
theorem dX4_init_1 : decode cX4_init 1 = .ok (.invokespecial 3, 3) := by decide +kernel
theorem dX4_init_4 : decode cX4_init 4 = .ok (.aload_n 0, 1) := by decide +kernel
theorem dX4_init_5 : decode cX4_init 5 = .ok (.bipush 10, 2) := by decide +kernel
theorem dX4_init_7 : decode cX4_init 7 = .ok (.newarray .int, 2) := by decide +kernel
theorem dX4_init_9 : decode cX4_init 9 = .ok (.putfield 9, 3) := by decide +kernel
theorem dX4_init_12 : decode cX4_init 12 = .ok (.aload_n 0, 1) := by decide +kernel
theorem dX4_init_13 : decode cX4_init 13 = .ok (.bipush 10, 2) := by decide +kernel
theorem dX4_init_15 : decode cX4_init 15 = .ok (.newarray .int, 2) := by decide +kernel
theorem dX4_init_17 : decode cX4_init 17 = .ok (.putfield 15, 3) := by decide +kernel
theorem dX4_init_20 : decode cX4_init 20 = .ok (.aload_n 0, 1) := by decide +kernel
theorem dX4_init_21 : decode cX4_init 21 = .ok (.bipush 10, 2) := by decide +kernel
theorem dX4_init_23 : decode cX4_init 23 = .ok (.newarray .int, 2) := by decide +kernel
theorem dX4_init_25 : decode cX4_init 25 = .ok (.putfield 18, 3) := by decide +kernel
theorem dX4_init_28 : decode cX4_init 28 = .ok (.return_, 1) := by decide +kernel
set_option maxRecDepth 20000 in
set_option maxHeartbeats 4000000 in
theorem iX4_init {E : EN} {k a : Nat} {sh : Sp} {mem : Mm} {Q : PQ} (hph : E.2.2.2.2.2.1 = false) (hL : sh.length = a + 1) (hsh : sh[a]? = some (4, 5)) (hd0 : mem a = dft 4) (h : ∀ m2 : Mm, okPk m2 a → (∀ b : Int, b < a → m2 b = mem b) → Q none (sh ++ tlPk) m2) : CG E mX4_init (k + 1) 3 30 sh mem [aR a] Q := by
  refine CG_of rfl (Nat.le_of_ble_eq_true rfl) (aNs_c (aNr_R _) (fun _ q => nomatch q)) ?_
  show VG E mX4_init (k + 1) 3 30 sh mem (0, 0) 0 [(0, aR a)] [] Q
  have hs0 : aSh sh (a : Int) 4 5 := ⟨a, rfl, hsh⟩
  have hl0 : sh.length = a + 1 := hL
  refine v_aload_n (pc := 0) dX4_init_0 0 rfl ?_
  refine v_objI (pc := 1) (a := (a : Int)) (by omega) dX4_init_1 loX4_3 (Nat.le_of_ble_eq_true rfl) ?_
  refine v_aload_n (pc := 4) dX4_init_4 0 rfl ?_
  refine v_bipush (pc := 5) dX4_init_5 (by decide) ?_
  refine w_newa13 (pc := 7) (L := a + 1) hph hl0 dX4_init_7 (by decide) (by decide) 10 1 10 rfl rfl rfl (Nat.le_of_ble_eq_true rfl) (Nat.le_of_ble_eq_true rfl) (fun sh1 m1 s1 hl1 z1 u1 a1 f1 => ?_)
  refine w_putf (pc := 9) 0 rfl hph dX4_init_9 flX4_9 ⟨_, _, rfl, Or.inr ⟨rfl, rfl, rfl, _, _, gd_tbl (ch2 (List.mem_of_getElem? (i := 88) rfl)) rfl, rfl, rfl⟩⟩ rfl (by decide) (fun q => nomatch q) (u1 _ _ _ hs0) (fun m2 p2 q2 f2 => ?_)
  refine v_aload_n (pc := 12) dX4_init_12 0 rfl ?_
  refine v_bipush (pc := 13) dX4_init_13 (by decide) ?_
  refine w_newa13 (pc := 15) (L := a + 2) hph hl1 dX4_init_15 (by decide) (by decide) 10 2 20 rfl rfl rfl (Nat.le_of_ble_eq_true rfl) (Nat.le_of_ble_eq_true rfl) (fun sh2 m3 s2 hl2 z2 u2 a3 f3 => ?_)
  refine w_putf (pc := 17) 1 rfl hph dX4_init_17 flX4_15 ⟨_, _, rfl, Or.inr ⟨rfl, rfl, rfl, _, _, gd_tbl (ch2 (List.mem_of_getElem? (i := 89) rfl)) rfl, rfl, rfl⟩⟩ rfl (by decide) (fun q => nomatch q) (u2 _ _ _ (u1 _ _ _ hs0)) (fun m4 p4 q4 f4 => ?_)
  refine v_aload_n (pc := 20) dX4_init_20 0 rfl ?_
  refine v_bipush (pc := 21) dX4_init_21 (by decide) ?_
  refine w_newa13 (pc := 23) (L := a + 3) hph hl2 dX4_init_23 (by decide) (by decide) 10 3 30 rfl rfl rfl (Nat.le_of_ble_eq_true rfl) (Nat.le_of_ble_eq_true rfl) (fun sh3 m5 s3 hl3 z3 u3 a5 f5 => ?_)
  refine w_putf (pc := 25) 2 rfl hph dX4_init_25 flX4_18 ⟨_, _, rfl, Or.inr ⟨rfl, rfl, rfl, _, _, gd_tbl (ch2 (List.mem_of_getElem? (i := 90) rfl)) rfl, rfl, rfl⟩⟩ rfl (by decide) (fun q => nomatch q) (u3 _ _ _ (u2 _ _ _ (u1 _ _ _ hs0))) (fun m6 p6 q6 f6 => ?_)
  have e9 : sh3 = sh ++ tlPk := by
    rw [s3, s2, s1]
    simp only [List.append_assoc]
    rfl
  rw [e9]
  refine v_vret (pc := 28) (st := []) dX4_init_28 rfl rfl (Nat.le_of_ble_eq_true rfl) (h m6 ?_ ?_)
  · refine ⟨?_, (by rw [q6 _ (by decide), f5 _ (nA (k := 3) (by decide)), q4 _ (by decide), f3 _ (nA (k := 2) (by decide)), q2 _ (by decide), f1 _ (nA (k := 1) (by decide)), hd0]; rfl), (by rw [q6 _ (by decide), f5 _ (nA (k := 3) (by decide)), q4 _ (by decide), f3 _ (nA (k := 2) (by decide)), q2 _ (by decide), f1 _ (nA (k := 1) (by decide)), hd0]; rfl), ?_⟩
    · intro i h1 h2
      rcases three0 h1 h2 with rfl | rfl | rfl
      · exact ((show m6 (a : Int) 0 = ((a + 1 : Nat) : Int) from (by rw [q6 _ (by decide), f5 _ (nA (k := 3) (by decide)), q4 _ (by decide), f3 _ (nA (k := 2) (by decide)), p2])).trans (cA a 1)).trans (c9 a 0)
      · exact ((show m6 (a : Int) 1 = ((a + 2 : Nat) : Int) from (by rw [q6 _ (by decide), f5 _ (nA (k := 3) (by decide)), p4])).trans (cA a 2)).trans (c9 a 1)
      · exact ((show m6 (a : Int) 2 = ((a + 3 : Nat) : Int) from (by rw [p6])).trans (cA a 3)).trans (c9 a 2)
    · intro i h1 h2
      rcases three h1 h2 with rfl | rfl | rfl
      · exact ((cA a 1) ▸ okA_c (by rw [f6 _ (nA2 (k := 1) (by decide)), f5 _ (nB (j := 1) (k := 3) (by decide)), f4 _ (nA2 (k := 1) (by decide)), f3 _ (nB (j := 1) (k := 2) (by decide)), f2 _ (nA2 (k := 1) (by decide))]) a1)
      · exact ((cA a 2) ▸ okA_c (by rw [f6 _ (nA2 (k := 2) (by decide)), f5 _ (nB (j := 2) (k := 3) (by decide)), f4 _ (nA2 (k := 2) (by decide))]) a3)
      · exact ((cA a 3) ▸ okA_c (by rw [f6 _ (nA2 (k := 3) (by decide))]) a5)
  · intro b hb
    rw [f6 b (fr0 hb), f5 b (fr hb), f4 b (fr0 hb), f3 b (fr hb), f2 b (fr0 hb), f1 b (fr hb)]
theorem dX0_init_0 : decode cX0_init 0 = .ok (.aload_n 0, 1) := by decide +kernel
theorem dX0_init_1 : decode cX0_init 1 = .ok (.invokespecial 3, 3) := by decide +kernel
theorem dX0_init_4 : decode cX0_init 4 = .ok (.aload_n 0, 1) := by decide +kernel
theorem dX0_init_5 : decode cX0_init 5 = .ok (.new 9, 3) := by decide +kernel
theorem dX0_init_8 : decode cX0_init 8 = .ok (.dup, 1) := by decide +kernel
theorem dX0_init_9 : decode cX0_init 9 = .ok (.invokespecial 11, 3) := by decide +kernel
theorem dX0_init_12 : decode cX0_init 12 = .ok (.putfield 12, 3) := by decide +kernel
theorem dX0_init_15 : decode cX0_init 15 = .ok (.return_, 1) := by decide +kernel
set_option maxRecDepth 20000 in
set_option maxHeartbeats 4000000 in
theorem iX0_init {E : EN} {k a : Nat} {sh : Sp} {mem : Mm} {Q : PQ} (hph : E.2.2.2.2.2.1 = false) (hL : sh.length = a + 1) (hsh : sh[a]? = some (0, 2)) (hd0 : mem a = dft 0) (h : ∀ m2 : Mm, okDr m2 a → (∀ b : Int, b < a → m2 b = mem b) → Q none (sh ++ tlDr) m2) : CG E mX0_init (k + 2) 10 163 sh mem [aR a] Q := by
  refine CG_of rfl (Nat.le_of_ble_eq_true rfl) (aNs_c (aNr_R _) (fun _ q => nomatch q)) ?_
  show VG E mX0_init (k + 2) 10 163 sh mem (0, 0) 0 [(0, aR a)] [] Q
  have hs0 : aSh sh (a : Int) 0 2 := ⟨a, rfl, hsh⟩
  have hl0 : sh.length = a + 1 := hL
  refine v_aload_n (pc := 0) dX0_init_0 0 rfl ?_
  refine v_objI (pc := 1) (a := (a : Int)) (by omega) dX0_init_1 loX0_3 (Nat.le_of_ble_eq_true rfl) ?_
  refine v_aload_n (pc := 4) dX0_init_4 0 rfl ?_
  refine w_new (pc := 5) (L := a + 1) hph hl0 dX0_init_5 clX0_9 ck10 in10 nz10 at2_10 1 13 rfl rfl (Nat.le_of_ble_eq_true rfl) (Nat.le_of_ble_eq_true rfl) (fun sh1 m1 s1 hl1 z1 u1 e1 f1 => ?_)
  refine v_dup (pc := 8) dX0_init_8 rfl ?_
  refine w_init (pc := 9) (mi' := mX10_init) (L := a + 1) (t := tlY) (ok := okY) dX0_init_9 (fun Q2 hq => iX10_init hph hl1 (getE s1 hl0) e1 hq) msX10_init iiX10_init rfl rfl lkX0_11 10 163 rfl rfl ⟨(Nat.le_of_ble_eq_true rfl), (Nat.le_of_ble_eq_true rfl)⟩ (Nat.le_of_ble_eq_true rfl) hl1 lnY (fun sh2 m2 s2 hl2 u2 k2 f2 => ?_)
  refine w_putf (pc := 12) 0 rfl hph dX0_init_12 flX0_12 ⟨_, _, rfl, Or.inr ⟨rfl, rfl, rfl, _, _, gd_tbl (ch2 (List.mem_of_getElem? (i := 113) rfl)) rfl, rfl, rfl⟩⟩ rfl (by decide) (fun q => nomatch q) (u2 _ _ _ (u1 _ _ _ hs0)) (fun m3 p3 q3 f3 => ?_)
  have e9 : sh2 = sh ++ tlDr := by
    rw [s2, s1]
    simp only [List.append_assoc]
    rfl
  rw [e9]
  refine v_vret (pc := 15) (st := []) dX0_init_15 rfl rfl (Nat.le_of_ble_eq_true rfl) (h m3 ?_ ?_)
  · exact ⟨((show m3 (a : Int) 0 = ((a + 1 : Nat) : Int) from (by rw [p3])).trans (cA a 1)), (by rw [q3 _ (by decide), f2 _ (lA 0), f1 _ (nA (k := 1) (by decide)), hd0]; rfl), ((cA a 1) ▸ okY_c (fun b hb1 hb2 => by rw [f3 b (b0 (j := 1) hb1 (by decide))]) k2)⟩
  · intro b hb
    rw [f3 b (fr0 hb), f2 b (frl hb), f1 b (fr hb)]
theorem dX5_init_0 : decode cX5_init 0 = .ok (.aload_n 0, 1) := by decide +kernel
theorem dX5_init_1 : decode cX5_init 1 = .ok (.invokespecial 3, 3) := by decide +kernel
theorem dX5_init_4 : decode cX5_init 4 = .ok (.aload_n 0, 1) := by decide +kernel
theorem dX5_init_5 : decode cX5_init 5 = .ok (.new 9, 3) := by decide +kernel
theorem dX5_init_8 : decode cX5_init 8 = .ok (.dup, 1) := by decide +kernel
theorem dX5_init_9 : decode cX5_init 9 = .ok (.invokespecial 11, 3) := by decide +kernel
theorem dX5_init_12 : decode cX5_init 12 = .ok (.putfield 12, 3) := by decide +kernel
theorem dX5_init_15 : decode cX5_init 15 = .ok (.aload_n 0, 1) := by decide +kernel
theorem dX5_init_16 : decode cX5_init 16 = .ok (.new 9, 3) := by decide +kernel
theorem dX5_init_19 : decode cX5_init 19 = .ok (.dup, 1) := by decide +kernel
theorem dX5_init_20 : decode cX5_init 20 = .ok (.invokespecial 11, 3) := by decide +kernel
theorem dX5_init_23 : decode cX5_init 23 = .ok (.putfield 18, 3) := by decide +kernel
theorem dX5_init_26 : decode cX5_init 26 = .ok (.aload_n 0, 1) := by decide +kernel
theorem dX5_init_27 : decode cX5_init 27 = .ok (.bipush 8, 2) := by decide +kernel
theorem dX5_init_29 : decode cX5_init 29 = .ok (.newarray .int, 2) := by decide +kernel
theorem dX5_init_31 : decode cX5_init 31 = .ok (.putfield 21, 3) := by decide +kernel
theorem dX5_init_34 : decode cX5_init 34 = .ok (.aload_n 0, 1) := by decide +kernel
theorem dX5_init_35 : decode cX5_init 35 = .ok (.bipush 32, 2) := by decide +kernel
theorem dX5_init_37 : decode cX5_init 37 = .ok (.newarray .int, 2) := by decide +kernel
theorem dX5_init_39 : decode cX5_init 39 = .ok (.putfield 25, 3) := by decide +kernel
theorem dX5_init_42 : decode cX5_init 42 = .ok (.aload_n 0, 1) := by decide +kernel
theorem dX5_init_43 : decode cX5_init 43 = .ok (.bipush 41, 2) := by decide +kernel
theorem dX5_init_45 : decode cX5_init 45 = .ok (.newarray .long, 2) := by decide +kernel
theorem dX5_init_47 : decode cX5_init 47 = .ok (.putfield 28, 3) := by decide +kernel
theorem dX5_init_50 : decode cX5_init 50 = .ok (.return_, 1) := by decide +kernel
set_option maxRecDepth 20000 in
set_option maxHeartbeats 4000000 in
theorem iX5_init {E : EN} {k a : Nat} {sh : Sp} {mem : Mm} {Q : PQ} (hph : E.2.2.2.2.2.1 = false) (hL : sh.length = a + 1) (hsh : sh[a]? = some (5, 9)) (hd0 : mem a = dft 5) (h : ∀ m2 : Mm, okPp m2 a → (∀ b : Int, b < a → m2 b = mem b) → Q none (sh ++ tlPp) m2) : CG E mX5_init (k + 2) 23 407 sh mem [aR a] Q := by
  refine CG_of rfl (Nat.le_of_ble_eq_true rfl) (aNs_c (aNr_R _) (fun _ q => nomatch q)) ?_
  show VG E mX5_init (k + 2) 23 407 sh mem (0, 0) 0 [(0, aR a)] [] Q
  have hs0 : aSh sh (a : Int) 5 9 := ⟨a, rfl, hsh⟩
  have hl0 : sh.length = a + 1 := hL
  refine v_aload_n (pc := 0) dX5_init_0 0 rfl ?_
  refine v_objI (pc := 1) (a := (a : Int)) (by omega) dX5_init_1 loX5_3 (Nat.le_of_ble_eq_true rfl) ?_
  refine v_aload_n (pc := 4) dX5_init_4 0 rfl ?_
  refine w_new (pc := 5) (L := a + 1) hph hl0 dX5_init_5 clX5_9 ck10 in10 nz10 at2_10 1 13 rfl rfl (Nat.le_of_ble_eq_true rfl) (Nat.le_of_ble_eq_true rfl) (fun sh1 m1 s1 hl1 z1 u1 e1 f1 => ?_)
  refine v_dup (pc := 8) dX5_init_8 rfl ?_
  refine w_init (pc := 9) (mi' := mX10_init) (L := a + 1) (t := tlY) (ok := okY) dX5_init_9 (fun Q2 hq => iX10_init hph hl1 (getE s1 hl0) e1 hq) msX10_init iiX10_init rfl rfl lkX5_11 10 163 rfl rfl ⟨(Nat.le_of_ble_eq_true rfl), (Nat.le_of_ble_eq_true rfl)⟩ (Nat.le_of_ble_eq_true rfl) hl1 lnY (fun sh2 m2 s2 hl2 u2 k2 f2 => ?_)
  refine w_putf (pc := 12) 0 rfl hph dX5_init_12 flX5_12 ⟨_, _, rfl, Or.inr ⟨rfl, rfl, rfl, _, _, gd_tbl (ch2 (List.mem_of_getElem? (i := 50) rfl)) rfl, rfl, rfl⟩⟩ rfl (by decide) (fun q => nomatch q) (u2 _ _ _ (u1 _ _ _ hs0)) (fun m3 p3 q3 f3 => ?_)
  refine v_aload_n (pc := 15) dX5_init_15 0 rfl ?_
  refine w_new (pc := 16) (L := a + 11) hph hl2 dX5_init_16 clX5_9 ck10 in10 nz10 at2_10 11 176 rfl rfl (Nat.le_of_ble_eq_true rfl) (Nat.le_of_ble_eq_true rfl) (fun sh3 m4 s3 hl3 z3 u3 e4 f4 => ?_)
  refine v_dup (pc := 19) dX5_init_19 rfl ?_
  refine w_init (pc := 20) (mi' := mX10_init) (L := a + 11) (t := tlY) (ok := okY) dX5_init_20 (fun Q2 hq => iX10_init hph hl3 (getE s3 hl2) e4 hq) msX10_init iiX10_init rfl rfl lkX5_11 20 326 rfl rfl ⟨(Nat.le_of_ble_eq_true rfl), (Nat.le_of_ble_eq_true rfl)⟩ (Nat.le_of_ble_eq_true rfl) hl3 lnY (fun sh4 m5 s4 hl4 u4 k5 f5 => ?_)
  refine w_putf (pc := 23) 1 rfl hph dX5_init_23 flX5_18 ⟨_, _, rfl, Or.inr ⟨rfl, rfl, rfl, _, _, gd_tbl (ch2 (List.mem_of_getElem? (i := 51) rfl)) rfl, rfl, rfl⟩⟩ rfl (by decide) (fun q => nomatch q) (u4 _ _ _ (u3 _ _ _ (u2 _ _ _ (u1 _ _ _ hs0)))) (fun m6 p6 q6 f6 => ?_)
  refine v_aload_n (pc := 26) dX5_init_26 0 rfl ?_
  refine v_bipush (pc := 27) dX5_init_27 (by decide) ?_
  refine w_newa13 (pc := 29) (L := a + 21) hph hl4 dX5_init_29 (by decide) (by decide) 8 21 334 rfl rfl rfl (Nat.le_of_ble_eq_true rfl) (Nat.le_of_ble_eq_true rfl) (fun sh5 m7 s5 hl5 z5 u5 a7 f7 => ?_)
  refine w_putf (pc := 31) 2 rfl hph dX5_init_31 flX5_21 ⟨_, _, rfl, Or.inr ⟨rfl, rfl, rfl, _, _, gd_tbl (ch2 (List.mem_of_getElem? (i := 52) rfl)) rfl, rfl, rfl⟩⟩ rfl (by decide) (fun q => nomatch q) (u5 _ _ _ (u4 _ _ _ (u3 _ _ _ (u2 _ _ _ (u1 _ _ _ hs0))))) (fun m8 p8 q8 f8 => ?_)
  refine v_aload_n (pc := 34) dX5_init_34 0 rfl ?_
  refine v_bipush (pc := 35) dX5_init_35 (by decide) ?_
  refine w_newa13 (pc := 37) (L := a + 22) hph hl5 dX5_init_37 (by decide) (by decide) 32 22 366 rfl rfl rfl (Nat.le_of_ble_eq_true rfl) (Nat.le_of_ble_eq_true rfl) (fun sh6 m9 s6 hl6 z6 u6 a9 f9 => ?_)
  refine w_putf (pc := 39) 3 rfl hph dX5_init_39 flX5_25 ⟨_, _, rfl, Or.inr ⟨rfl, rfl, rfl, _, _, gd_tbl (ch2 (List.mem_of_getElem? (i := 53) rfl)) rfl, rfl, rfl⟩⟩ rfl (by decide) (fun q => nomatch q) (u6 _ _ _ (u5 _ _ _ (u4 _ _ _ (u3 _ _ _ (u2 _ _ _ (u1 _ _ _ hs0)))))) (fun m10 p10 q10 f10 => ?_)
  refine v_aload_n (pc := 42) dX5_init_42 0 rfl ?_
  refine v_bipush (pc := 43) dX5_init_43 (by decide) ?_
  refine w_newa14 (pc := 45) (L := a + 23) hph hl6 dX5_init_45 (by decide) (by decide) 41 23 407 rfl rfl rfl (Nat.le_of_ble_eq_true rfl) (Nat.le_of_ble_eq_true rfl) (fun sh7 m11 s7 hl7 z7 u7 a11 f11 => ?_)
  refine w_putf (pc := 47) 4 rfl hph dX5_init_47 flX5_28 ⟨_, _, rfl, Or.inr ⟨rfl, rfl, rfl, _, _, gd_tbl (ch2 (List.mem_of_getElem? (i := 54) rfl)) rfl, rfl, rfl⟩⟩ rfl (by decide) (fun q => nomatch q) (u7 _ _ _ (u6 _ _ _ (u5 _ _ _ (u4 _ _ _ (u3 _ _ _ (u2 _ _ _ (u1 _ _ _ hs0))))))) (fun m12 p12 q12 f12 => ?_)
  have e9 : sh7 = sh ++ tlPp := by
    rw [s7, s6, s5, s4, s3, s2, s1]
    simp only [List.append_assoc]
    rfl
  rw [e9]
  refine v_vret (pc := 50) (st := []) dX5_init_50 rfl rfl (Nat.le_of_ble_eq_true rfl) (h m12 ?_ ?_)
  · refine ⟨((show m12 (a : Int) 0 = ((a + 1 : Nat) : Int) from (by rw [q12 _ (by decide), f11 _ (nA (k := 23) (by decide)), q10 _ (by decide), f9 _ (nA (k := 22) (by decide)), q8 _ (by decide), f7 _ (nA (k := 21) (by decide)), q6 _ (by decide), f5 _ (lA 10), f4 _ (nA (k := 11) (by decide)), p3])).trans (cA a 1)), ((show m12 (a : Int) 1 = ((a + 11 : Nat) : Int) from (by rw [q12 _ (by decide), f11 _ (nA (k := 23) (by decide)), q10 _ (by decide), f9 _ (nA (k := 22) (by decide)), q8 _ (by decide), f7 _ (nA (k := 21) (by decide)), p6])).trans (cA a 11)), ((show m12 (a : Int) 2 = ((a + 21 : Nat) : Int) from (by rw [q12 _ (by decide), f11 _ (nA (k := 23) (by decide)), q10 _ (by decide), f9 _ (nA (k := 22) (by decide)), p8])).trans (cA a 21)), ((show m12 (a : Int) 3 = ((a + 22 : Nat) : Int) from (by rw [q12 _ (by decide), f11 _ (nA (k := 23) (by decide)), p10])).trans (cA a 22)), ((show m12 (a : Int) 4 = ((a + 23 : Nat) : Int) from (by rw [p12])).trans (cA a 23)), ?_, ((cA a 1) ▸ okY_c (fun b hb1 hb2 => by rw [f12 b (b0 (j := 1) hb1 (by decide)), f11 b (bN (j := 1) (s := 10) (k := 23) hb1 hb2 (by decide)), f10 b (b0 (j := 1) hb1 (by decide)), f9 b (bN (j := 1) (s := 10) (k := 22) hb1 hb2 (by decide)), f8 b (b0 (j := 1) hb1 (by decide)), f7 b (bN (j := 1) (s := 10) (k := 21) hb1 hb2 (by decide)), f6 b (b0 (j := 1) hb1 (by decide)), f5 b (bL (j := 1) (s := 10) (k := 11) hb1 hb2 (by decide)), f4 b (bN (j := 1) (s := 10) (k := 11) hb1 hb2 (by decide)), f3 b (b0 (j := 1) hb1 (by decide))]) k2), ((cA a 11) ▸ okY_c (fun b hb1 hb2 => by rw [f12 b (b0 (j := 11) hb1 (by decide)), f11 b (bN (j := 11) (s := 10) (k := 23) hb1 hb2 (by decide)), f10 b (b0 (j := 11) hb1 (by decide)), f9 b (bN (j := 11) (s := 10) (k := 22) hb1 hb2 (by decide)), f8 b (b0 (j := 11) hb1 (by decide)), f7 b (bN (j := 11) (s := 10) (k := 21) hb1 hb2 (by decide)), f6 b (b0 (j := 11) hb1 (by decide))]) k5), ((cA a 21) ▸ okA_c (by rw [f12 _ (nA2 (k := 21) (by decide)), f11 _ (nB (j := 21) (k := 23) (by decide)), f10 _ (nA2 (k := 21) (by decide)), f9 _ (nB (j := 21) (k := 22) (by decide)), f8 _ (nA2 (k := 21) (by decide))]) a7), ((cA a 22) ▸ okA_c (by rw [f12 _ (nA2 (k := 22) (by decide)), f11 _ (nB (j := 22) (k := 23) (by decide)), f10 _ (nA2 (k := 22) (by decide))]) a9), ((cA a 23) ▸ okA_c (by rw [f12 _ (nA2 (k := 23) (by decide))]) a11)⟩
    intro i h1 h2
    rcases four5 h1 h2 with rfl | rfl | rfl | rfl
    · exact (by rw [q12 _ (by decide), f11 _ (nA (k := 23) (by decide)), q10 _ (by decide), f9 _ (nA (k := 22) (by decide)), q8 _ (by decide), f7 _ (nA (k := 21) (by decide)), q6 _ (by decide), f5 _ (lA 10), f4 _ (nA (k := 11) (by decide)), q3 _ (by decide), f2 _ (lA 0), f1 _ (nA (k := 1) (by decide)), hd0]; rfl)
    · exact (by rw [q12 _ (by decide), f11 _ (nA (k := 23) (by decide)), q10 _ (by decide), f9 _ (nA (k := 22) (by decide)), q8 _ (by decide), f7 _ (nA (k := 21) (by decide)), q6 _ (by decide), f5 _ (lA 10), f4 _ (nA (k := 11) (by decide)), q3 _ (by decide), f2 _ (lA 0), f1 _ (nA (k := 1) (by decide)), hd0]; rfl)
    · exact (by rw [q12 _ (by decide), f11 _ (nA (k := 23) (by decide)), q10 _ (by decide), f9 _ (nA (k := 22) (by decide)), q8 _ (by decide), f7 _ (nA (k := 21) (by decide)), q6 _ (by decide), f5 _ (lA 10), f4 _ (nA (k := 11) (by decide)), q3 _ (by decide), f2 _ (lA 0), f1 _ (nA (k := 1) (by decide)), hd0]; rfl)
    · exact (by rw [q12 _ (by decide), f11 _ (nA (k := 23) (by decide)), q10 _ (by decide), f9 _ (nA (k := 22) (by decide)), q8 _ (by decide), f7 _ (nA (k := 21) (by decide)), q6 _ (by decide), f5 _ (lA 10), f4 _ (nA (k := 11) (by decide)), q3 _ (by decide), f2 _ (lA 0), f1 _ (nA (k := 1) (by decide)), hd0]; rfl)
  · intro b hb
    rw [f12 b (fr0 hb), f11 b (fr hb), f10 b (fr0 hb), f9 b (fr hb), f8 b (fr0 hb), f7 b (fr hb), f6 b (fr0 hb), f5 b (frl hb), f4 b (fr hb), f3 b (fr0 hb), f2 b (frl hb), f1 b (fr hb)]
theorem dX7_init_0 : decode cX7_init 0 = .ok (.aload_n 0, 1) := by decide +kernel
theorem dX7_init_1 : decode cX7_init 1 = .ok (.invokespecial 3, 3) := by decide +kernel
theorem dX7_init_4 : decode cX7_init 4 = .ok (.aload_n 0, 1) := by decide +kernel
theorem dX7_init_5 : decode cX7_init 5 = .ok (.sipush 400, 3) := by decide +kernel
theorem dX7_init_8 : decode cX7_init 8 = .ok (.newarray .int, 2) := by decide +kernel
theorem dX7_init_10 : decode cX7_init 10 = .ok (.putfield 9, 3) := by decide +kernel
theorem dX7_init_13 : decode cX7_init 13 = .ok (.aload_n 0, 1) := by decide +kernel
theorem dX7_init_14 : decode cX7_init 14 = .ok (.new 15, 3) := by decide +kernel
theorem dX7_init_17 : decode cX7_init 17 = .ok (.dup, 1) := by decide +kernel
theorem dX7_init_18 : decode cX7_init 18 = .ok (.invokespecial 17, 3) := by decide +kernel
theorem dX7_init_21 : decode cX7_init 21 = .ok (.putfield 18, 3) := by decide +kernel
theorem dX7_init_24 : decode cX7_init 24 = .ok (.aload_n 0, 1) := by decide +kernel
theorem dX7_init_25 : decode cX7_init 25 = .ok (.aload_n 0, 1) := by decide +kernel
theorem dX7_init_26 : decode cX7_init 26 = .ok (.getfield 18, 3) := by decide +kernel
theorem dX7_init_29 : decode cX7_init 29 = .ok (.putfield 22, 3) := by decide +kernel
theorem dX7_init_32 : decode cX7_init 32 = .ok (.return_, 1) := by decide +kernel
set_option maxRecDepth 20000 in
set_option maxHeartbeats 4000000 in
theorem iX7_init {E : EN} {k a : Nat} {sh : Sp} {mem : Mm} {Q : PQ} (hph : E.2.2.2.2.2.1 = false) (hL : sh.length = a + 1) (hsh : sh[a]? = some (7, 11)) (hd0 : mem a = dft 7) (h : ∀ m2 : Mm, okRd m2 a → (∀ b : Int, b < a → m2 b = mem b) → Q none (sh ++ tlRd) m2) : CG E mX7_init (k + 2) 10 1310 sh mem [aR a] Q := by
  refine CG_of rfl (Nat.le_of_ble_eq_true rfl) (aNs_c (aNr_R _) (fun _ q => nomatch q)) ?_
  show VG E mX7_init (k + 2) 10 1310 sh mem (0, 0) 0 [(0, aR a)] [] Q
  have hs0 : aSh sh (a : Int) 7 11 := ⟨a, rfl, hsh⟩
  have hl0 : sh.length = a + 1 := hL
  refine v_aload_n (pc := 0) dX7_init_0 0 rfl ?_
  refine v_objI (pc := 1) (a := (a : Int)) (by omega) dX7_init_1 loX7_3 (Nat.le_of_ble_eq_true rfl) ?_
  refine v_aload_n (pc := 4) dX7_init_4 0 rfl ?_
  refine v_sipush (pc := 5) dX7_init_5 (by decide) ?_
  refine w_newa13 (pc := 8) (L := a + 1) hph hl0 dX7_init_8 (by decide) (by decide) 400 1 400 rfl rfl rfl (Nat.le_of_ble_eq_true rfl) (Nat.le_of_ble_eq_true rfl) (fun sh1 m1 s1 hl1 z1 u1 a1 f1 => ?_)
  refine w_putf (pc := 10) 0 rfl hph dX7_init_10 flX7_9 ⟨_, _, rfl, Or.inr ⟨rfl, rfl, rfl, _, _, gd_tbl (ch2 (List.mem_of_getElem? (i := 129) rfl)) rfl, rfl, rfl⟩⟩ rfl (by decide) (fun q => nomatch q) (u1 _ _ _ hs0) (fun m2 p2 q2 f2 => ?_)
  refine v_aload_n (pc := 13) dX7_init_13 0 rfl ?_
  refine w_new (pc := 14) (L := a + 2) hph hl1 dX7_init_14 clX7_15 ck9 in9 nz9 at2_9 2 410 rfl rfl (Nat.le_of_ble_eq_true rfl) (Nat.le_of_ble_eq_true rfl) (fun sh2 m3 s2 hl2 z2 u2 e3 f3 => ?_)
  refine v_dup (pc := 17) dX7_init_17 rfl ?_
  refine w_init (pc := 18) (mi' := mX9_init) (L := a + 2) (t := tlTx) (ok := okTx) dX7_init_18 (fun Q2 hq => iX9_init hph hl2 (getE s2 hl1) e3 hq) msX9_init iiX9_init rfl rfl lkX7_17 10 1310 rfl rfl ⟨(Nat.le_of_ble_eq_true rfl), (Nat.le_of_ble_eq_true rfl)⟩ (Nat.le_of_ble_eq_true rfl) hl2 lnTx (fun sh3 m4 s3 hl3 u3 k4 f4 => ?_)
  refine w_putf (pc := 21) 1 rfl hph dX7_init_21 flX7_18 ⟨_, _, rfl, Or.inr ⟨rfl, rfl, rfl, _, _, gd_tbl (ch2 (List.mem_of_getElem? (i := 131) rfl)) rfl, rfl, rfl⟩⟩ rfl (by decide) (fun q => nomatch q) (u3 _ _ _ (u2 _ _ _ (u1 _ _ _ hs0))) (fun m5 p5 q5 f5 => ?_)
  refine v_aload_n (pc := 24) dX7_init_24 0 rfl ?_
  refine v_aload_n (pc := 25) dX7_init_25 0 rfl ?_
  refine v_getf9 (pc := 26) (t := 2) (v := ((a + 2 : Nat) : Int)) dX7_init_26 flX7_18 rfl (u3 _ _ _ (u2 _ _ _ (u1 _ _ _ hs0))) (show m5 (a : Int) 1 = ((a + 2 : Nat) : Int) from (by rw [p5])) ?_
  refine w_putf (pc := 29) 4 rfl hph dX7_init_29 flX7_22 ⟨_, _, rfl, Or.inl rfl⟩ rfl (by decide) (fun q => nomatch q) (u3 _ _ _ (u2 _ _ _ (u1 _ _ _ hs0))) (fun m6 p6 q6 f6 => ?_)
  have e9 : sh3 = sh ++ tlRd := by
    rw [s3, s2, s1]
    simp only [List.append_assoc]
    rfl
  rw [e9]
  refine v_vret (pc := 32) (st := []) dX7_init_32 rfl rfl (Nat.le_of_ble_eq_true rfl) (h m6 ?_ ?_)
  · refine ⟨((show m6 (a : Int) 0 = ((a + 1 : Nat) : Int) from (by rw [q6 _ (by decide), q5 _ (by decide), f4 _ (lA 1), f3 _ (nA (k := 2) (by decide)), p2])).trans (cA a 1)), ((show m6 (a : Int) 1 = ((a + 2 : Nat) : Int) from (by rw [q6 _ (by decide), p5])).trans (cA a 2)), ((show m6 (a : Int) 4 = ((a + 2 : Nat) : Int) from (by rw [p6])).trans (cA a 2)), ?_, ((cA a 1) ▸ okA_c (by rw [f6 _ (nA2 (k := 1) (by decide)), f5 _ (nA2 (k := 1) (by decide)), f4 _ (lB (j := 1) (k := 2) (by decide)), f3 _ (nB (j := 1) (k := 2) (by decide)), f2 _ (nA2 (k := 1) (by decide))]) a1), ((cA a 2) ▸ okTx_c (fun b hb1 hb2 => by rw [f6 b (b0 (j := 2) hb1 (by decide)), f5 b (b0 (j := 2) hb1 (by decide))]) k4)⟩
    intro i h1 h2 h3
    rcases eight4 h1 h2 h3 with rfl | rfl | rfl | rfl | rfl | rfl | rfl | rfl
    · exact (by rw [q6 _ (by decide), q5 _ (by decide), f4 _ (lA 1), f3 _ (nA (k := 2) (by decide)), q2 _ (by decide), f1 _ (nA (k := 1) (by decide)), hd0]; rfl)
    · exact (by rw [q6 _ (by decide), q5 _ (by decide), f4 _ (lA 1), f3 _ (nA (k := 2) (by decide)), q2 _ (by decide), f1 _ (nA (k := 1) (by decide)), hd0]; rfl)
    · exact (by rw [q6 _ (by decide), q5 _ (by decide), f4 _ (lA 1), f3 _ (nA (k := 2) (by decide)), q2 _ (by decide), f1 _ (nA (k := 1) (by decide)), hd0]; rfl)
    · exact (by rw [q6 _ (by decide), q5 _ (by decide), f4 _ (lA 1), f3 _ (nA (k := 2) (by decide)), q2 _ (by decide), f1 _ (nA (k := 1) (by decide)), hd0]; rfl)
    · exact (by rw [q6 _ (by decide), q5 _ (by decide), f4 _ (lA 1), f3 _ (nA (k := 2) (by decide)), q2 _ (by decide), f1 _ (nA (k := 1) (by decide)), hd0]; rfl)
    · exact (by rw [q6 _ (by decide), q5 _ (by decide), f4 _ (lA 1), f3 _ (nA (k := 2) (by decide)), q2 _ (by decide), f1 _ (nA (k := 1) (by decide)), hd0]; rfl)
    · exact (by rw [q6 _ (by decide), q5 _ (by decide), f4 _ (lA 1), f3 _ (nA (k := 2) (by decide)), q2 _ (by decide), f1 _ (nA (k := 1) (by decide)), hd0]; rfl)
    · exact (by rw [q6 _ (by decide), q5 _ (by decide), f4 _ (lA 1), f3 _ (nA (k := 2) (by decide)), q2 _ (by decide), f1 _ (nA (k := 1) (by decide)), hd0]; rfl)
  · intro b hb
    rw [f6 b (fr0 hb), f5 b (fr0 hb), f4 b (frl hb), f3 b (fr hb), f2 b (fr0 hb), f1 b (fr hb)]
theorem dX6_init_0 : decode cX6_init 0 = .ok (.aload_n 0, 1) := by decide +kernel
theorem dX6_init_1 : decode cX6_init 1 = .ok (.invokespecial 3, 3) := by decide +kernel
theorem dX6_init_4 : decode cX6_init 4 = .ok (.aload_n 0, 1) := by decide +kernel
theorem dX6_init_5 : decode cX6_init 5 = .ok (.bipush 16, 2) := by decide +kernel
theorem dX6_init_7 : decode cX6_init 7 = .ok (.anewarray 9, 3) := by decide +kernel
theorem dX6_init_10 : decode cX6_init 10 = .ok (.putfield 11, 3) := by decide +kernel
theorem dX6_init_13 : decode cX6_init 13 = .ok (.aload_n 0, 1) := by decide +kernel
theorem dX6_init_14 : decode cX6_init 14 = .ok (.bipush 16, 2) := by decide +kernel
theorem dX6_init_16 : decode cX6_init 16 = .ok (.newarray .int, 2) := by decide +kernel
theorem dX6_init_18 : decode cX6_init 18 = .ok (.putfield 17, 3) := by decide +kernel
theorem dX6_init_21 : decode cX6_init 21 = .ok (.iconst 0, 1) := by decide +kernel
theorem dX6_init_22 : decode cX6_init 22 = .ok (.istore_n 1, 1) := by decide +kernel
theorem dX6_init_23 : decode cX6_init 23 = .ok (.iload_n 1, 1) := by decide +kernel
theorem dX6_init_24 : decode cX6_init 24 = .ok (.bipush 16, 2) := by decide +kernel
theorem dX6_init_26 : decode cX6_init 26 = .ok (.if_icmp .ge 22, 3) := by decide +kernel
theorem dX6_init_29 : decode cX6_init 29 = .ok (.aload_n 0, 1) := by decide +kernel
theorem dX6_init_30 : decode cX6_init 30 = .ok (.getfield 11, 3) := by decide +kernel
theorem dX6_init_33 : decode cX6_init 33 = .ok (.iload_n 1, 1) := by decide +kernel
theorem dX6_init_34 : decode cX6_init 34 = .ok (.new 9, 3) := by decide +kernel
theorem dX6_init_37 : decode cX6_init 37 = .ok (.dup, 1) := by decide +kernel
theorem dX6_init_38 : decode cX6_init 38 = .ok (.invokespecial 21, 3) := by decide +kernel
theorem dX6_init_41 : decode cX6_init 41 = .ok (.aastore, 1) := by decide +kernel
theorem dX6_init_42 : decode cX6_init 42 = .ok (.iinc 1 1, 3) := by decide +kernel
theorem dX6_init_45 : decode cX6_init 45 = .ok (.goto (-22), 3) := by decide +kernel
theorem dX6_init_48 : decode cX6_init 48 = .ok (.return_, 1) := by decide +kernel
def rpY (n : Nat) : Sp := (List.range n).flatMap fun _ => (10, 13) :: tlY
theorem rpY_s (n : Nat) : rpY (n + 1) = rpY n ++ ((10, 13) :: tlY) := by
  unfold rpY
  rw [List.range_succ, List.flatMap_append]
  rfl
set_option maxHeartbeats 4000000 in
theorem iX6_init_loop {E : EN} {k a : Nat} {sh : Sp} {mem : Mm} {Q : PQ} (hph : E.2.2.2.2.2.1 = false) (h : ∀ m2 : Mm, okPt m2 a → (∀ b : Int, b < a → m2 b = mem b) → Q none (sh ++ tlPt) m2) : ∀ (n i : Nat) (shi : Sp) (mi : Mm), i + n = 16 → shi = sh ++ ((18, 16) :: (13, 16) :: rpY i) → shi.length = a + (3 + 10 * i) → aSh shi a 6 3 → aSh shi ((a + 1 : Nat) : Int) 18 16 → mi a 0 = a + 1 → mi a 1 = a + 2 → mi a 2 = 0 → okA mi ((a + 2 : Nat) : Int) → (∀ j : Nat, j < i → mi ((a + 1 : Nat) : Int) j = ((a + (3 + 10 * j) : Nat) : Int) ∧ okY mi ((a + (3 + 10 * j) : Nat) : Int)) → (∀ b : Int, b < a → mi b = mem b) → VG E mX6_init (k + 2) 162 2640 shi mi (2 + 10 * i, 32 + 163 * i) 23 [(1, aI i), (0, aR a)] [] Q := by
  intro n
  induction n with
  | zero =>
    intro i shi mi hi hsh hlen hs1 hs2 g0 g1 g2 g3 hel hfr
    have hi : i = 16 := by omega
    subst hi
    refine v_iload_n (pc := 23) dX6_init_23 0 rfl ?_
    refine v_bipush (pc := 24) dX6_init_24 (by decide) ?_
    refine v_icmpge (pc := 26) (tgt := 48) dX6_init_26 (by decide) (fun c1 => ?_) (fun c1 => absurd c1 (by decide))
    refine v_vret (pc := 48) (st := []) dX6_init_48 rfl rfl (Nat.le_of_ble_eq_true rfl) ?_
    rw [hsh]
    refine h mi ⟨g0, g1, g2, (cA a 2) ▸ g3, fun i h1 h2 => ?_⟩ hfr
    obtain ⟨e1, e2⟩ := hel i.toNat (by omega)
    rw [show ((a + (3 + 10 * i.toNat) : Nat) : Int) = (a : Int) + 3 + 10 * i by omega] at e1 e2
    rw [show (i.toNat : Int) = i by omega] at e1
    exact ⟨(cA a 1) ▸ e1, e2⟩
  | succ n ih =>
    intro i shi mi hi hsh hlen hs1 hs2 g0 g1 g2 g3 hel hfr
    have hlen0 : shi.length = a + (3 + 10 * i) := hlen
    refine v_iload_n (pc := 23) dX6_init_23 0 rfl ?_
    refine v_bipush (pc := 24) dX6_init_24 (by decide) ?_
    refine v_icmpge (pc := 26) (tgt := 48) dX6_init_26 (by decide) (fun c1 => absurd c1 (by omega)) (fun c1 => ?_)
    refine v_aload_n (pc := 29) dX6_init_29 1 rfl ?_
    refine v_getf9 (pc := 30) (t := 2) (v := ((a + 1 : Nat) : Int)) dX6_init_30 flX6_11 rfl hs1 (g0.trans (cA a 1).symm) ?_
    refine v_iload_n (pc := 33) dX6_init_33 0 rfl ?_
    refine w_new (pc := 34) (L := a + (3 + 10 * i)) hph hlen0 dX6_init_34 clX6_9 ck10 in10 nz10 at2_10 (2 + 10 * i + 1) (32 + 163 * i + 13) rfl rfl (by omega) (by omega) (fun sh1 m1 s1 hl1 z1 u1 e1 f1 => ?_)
    refine v_dup (pc := 37) dX6_init_37 rfl ?_
    refine w_init (pc := 38) (mi' := mX10_init) (L := a + (3 + 10 * i)) (t := tlY) (ok := okY) dX6_init_38 (fun Q2 hq => iX10_init hph hl1 (getE s1 hlen0) e1 hq) msX10_init iiX10_init rfl rfl lkX6_21 (2 + 10 * (i + 1)) (32 + 163 * (i + 1)) (by dsimp only; omega) (by dsimp only; omega) ⟨by omega, by omega⟩ (Nat.le_of_ble_eq_true rfl) hl1 lnY (fun sh2 m2 s2 hl2 u2 k2 f2 => ?_)
    refine v_aast18 (pc := 41) (x := ((a + (3 + 10 * i) : Nat) : Int)) (N := 13) dX6_init_41 (u2 _ _ _ (u1 _ _ _ hs2)) (u2 _ _ _ z1) (by omega) c1 (Or.inr hph) ?_
    obtain ⟨m3, hm3⟩ : ∃ m9, m9 = aUp m2 ((a + 1 : Nat) : Int) i ((a + (3 + 10 * i) : Nat) : Int) := ⟨_, rfl⟩
    rw [← hm3]
    have f3 : ∀ b : Int, b ≠ ((a + 1 : Nat) : Int) → m3 b = m2 b := fun b hb => by rw [hm3]; exact aUp_ne hb
    have fa : m3 a = mi a := by rw [f3 _ (by omega), f2 _ (by omega), f1 _ (by omega)]
    refine v_iinc (pc := 42) (al2 := [(1, aI ((i + 1 : Nat) : Int)), (0, aR a)]) dX6_init_42 0 rfl (by decide) ?_ ?_
    · show [(1, aI (w32 ((i : Int) + 1))), (0, aR (a : Int))] = _
      rw [w32_id (by omega) (by omega)]
      rfl
    refine v_goto (pc := 45) (tgt := 23) dX6_init_45 (by decide) ?_
    refine ih (i + 1) sh2 m3 (by omega) ?_ ?_ (u2 _ _ _ (u1 _ _ _ hs1)) (u2 _ _ _ (u1 _ _ _ hs2)) (by rw [fa]; exact g0) (by rw [fa]; exact g1) (by rw [fa]; exact g2) (okA_c (by rw [f3 _ (by omega), f2 _ (by omega), f1 _ (by omega)]) g3) ?_ ?_
    · rw [s2, s1, hsh, rpY_s]
      simp only [List.append_assoc, List.cons_append]
      rfl
    · rw [hl2]; omega
    · intro j hj
      rcases (show j < i ∨ j = i by omega) with hj2 | hj2
      · obtain ⟨e3, e4⟩ := hel j hj2
        refine ⟨?_, okY_c (fun b hb1 hb2 => by rw [f3 _ (by omega), f2 _ (by omega), f1 _ (by omega)]) e4⟩
        rw [hm3, aUp_ri (by omega), f2 _ (by omega), f1 _ (by omega)]
        exact e3
      · subst hj2
        refine ⟨by rw [hm3]; exact aUp_re, okY_c (fun b hb1 hb2 => by rw [f3 _ (by omega)]) k2⟩
    · intro b hb
      rw [f3 _ (by omega), f2 _ (by omega), f1 _ (by omega)]
      exact hfr b hb
theorem dX3_init_0 : decode cX3_init 0 = .ok (.aload_n 0, 1) := by decide +kernel
theorem dX3_init_1 : decode cX3_init 1 = .ok (.invokespecial 3, 3) := by decide +kernel
theorem dX3_init_4 : decode cX3_init 4 = .ok (.aload_n 0, 1) := by decide +kernel
theorem dX3_init_5 : decode cX3_init 5 = .ok (.bipush 6, 2) := by decide +kernel
theorem dX3_init_7 : decode cX3_init 7 = .ok (.anewarray 9, 3) := by decide +kernel
theorem dX3_init_10 : decode cX3_init 10 = .ok (.putfield 11, 3) := by decide +kernel
theorem dX3_init_13 : decode cX3_init 13 = .ok (.aload_n 0, 1) := by decide +kernel
theorem dX3_init_14 : decode cX3_init 14 = .ok (.iconst (-1), 1) := by decide +kernel
theorem dX3_init_15 : decode cX3_init 15 = .ok (.putfield 17, 3) := by decide +kernel
theorem dX3_init_18 : decode cX3_init 18 = .ok (.iconst 0, 1) := by decide +kernel
theorem dX3_init_19 : decode cX3_init 19 = .ok (.istore_n 1, 1) := by decide +kernel
theorem dX3_init_20 : decode cX3_init 20 = .ok (.iload_n 1, 1) := by decide +kernel
theorem dX3_init_21 : decode cX3_init 21 = .ok (.bipush 6, 2) := by decide +kernel
theorem dX3_init_23 : decode cX3_init 23 = .ok (.if_icmp .ge 22, 3) := by decide +kernel
theorem dX3_init_26 : decode cX3_init 26 = .ok (.aload_n 0, 1) := by decide +kernel
theorem dX3_init_27 : decode cX3_init 27 = .ok (.getfield 11, 3) := by decide +kernel
theorem dX3_init_30 : decode cX3_init 30 = .ok (.iload_n 1, 1) := by decide +kernel
theorem dX3_init_31 : decode cX3_init 31 = .ok (.new 9, 3) := by decide +kernel
theorem dX3_init_34 : decode cX3_init 34 = .ok (.dup, 1) := by decide +kernel
theorem dX3_init_35 : decode cX3_init 35 = .ok (.invokespecial 21, 3) := by decide +kernel
theorem dX3_init_38 : decode cX3_init 38 = .ok (.aastore, 1) := by decide +kernel
theorem dX3_init_39 : decode cX3_init 39 = .ok (.iinc 1 1, 3) := by decide +kernel
theorem dX3_init_42 : decode cX3_init 42 = .ok (.goto (-22), 3) := by decide +kernel
theorem dX3_init_45 : decode cX3_init 45 = .ok (.return_, 1) := by decide +kernel
def rpTx (n : Nat) : Sp := (List.range n).flatMap fun _ => (9, 10) :: tlTx
theorem rpTx_s (n : Nat) : rpTx (n + 1) = rpTx n ++ ((9, 10) :: tlTx) := by
  unfold rpTx
  rw [List.range_succ, List.flatMap_append]
  rfl
set_option maxHeartbeats 4000000 in
theorem iX3_init_loop {E : EN} {k a : Nat} {sh : Sp} {mem : Mm} {Q : PQ} (hph : E.2.2.2.2.2.1 = false) (h : ∀ m2 : Mm, okLw m2 a → (∀ b : Int, b < a → m2 b = mem b) → Q none (sh ++ tlLw) m2) : ∀ (n i : Nat) (shi : Sp) (mi : Mm), i + n = 6 → shi = sh ++ ((17, 6) :: rpTx i) → shi.length = a + (2 + 9 * i) → aSh shi a 3 3 → aSh shi ((a + 1 : Nat) : Int) 17 6 → mi a 0 = a + 1 → mi a 1 = 0 → mi a 2 = -1 → (∀ j : Nat, j < i → mi ((a + 1 : Nat) : Int) j = ((a + (2 + 9 * j) : Nat) : Int) ∧ okTx mi ((a + (2 + 9 * j) : Nat) : Int)) → (∀ b : Int, b < a → mi b = mem b) → VG E mX3_init (k + 2) 55 5466 shi mi (1 + 9 * i, 6 + 910 * i) 20 [(1, aI i), (0, aR a)] [] Q := by
  intro n
  induction n with
  | zero =>
    intro i shi mi hi hsh hlen hs1 hs2 g0 g1 g2 hel hfr
    have hi : i = 6 := by omega
    subst hi
    refine v_iload_n (pc := 20) dX3_init_20 0 rfl ?_
    refine v_bipush (pc := 21) dX3_init_21 (by decide) ?_
    refine v_icmpge (pc := 23) (tgt := 45) dX3_init_23 (by decide) (fun c1 => ?_) (fun c1 => absurd c1 (by decide))
    refine v_vret (pc := 45) (st := []) dX3_init_45 rfl rfl (Nat.le_of_ble_eq_true rfl) ?_
    rw [hsh]
    refine h mi ⟨g0, g1, g2, fun i h1 h2 => ?_⟩ hfr
    obtain ⟨e1, e2⟩ := hel i.toNat (by omega)
    rw [show ((a + (2 + 9 * i.toNat) : Nat) : Int) = (a : Int) + 2 + 9 * i by omega] at e1 e2
    rw [show (i.toNat : Int) = i by omega] at e1
    exact ⟨(cA a 1) ▸ e1, e2⟩
  | succ n ih =>
    intro i shi mi hi hsh hlen hs1 hs2 g0 g1 g2 hel hfr
    have hlen0 : shi.length = a + (2 + 9 * i) := hlen
    refine v_iload_n (pc := 20) dX3_init_20 0 rfl ?_
    refine v_bipush (pc := 21) dX3_init_21 (by decide) ?_
    refine v_icmpge (pc := 23) (tgt := 45) dX3_init_23 (by decide) (fun c1 => absurd c1 (by omega)) (fun c1 => ?_)
    refine v_aload_n (pc := 26) dX3_init_26 1 rfl ?_
    refine v_getf9 (pc := 27) (t := 2) (v := ((a + 1 : Nat) : Int)) dX3_init_27 flX3_11 rfl hs1 (g0.trans (cA a 1).symm) ?_
    refine v_iload_n (pc := 30) dX3_init_30 0 rfl ?_
    refine w_new (pc := 31) (L := a + (2 + 9 * i)) hph hlen0 dX3_init_31 clX3_9 ck9 in9 nz9 at2_9 (1 + 9 * i + 1) (6 + 910 * i + 10) rfl rfl (by omega) (by omega) (fun sh1 m1 s1 hl1 z1 u1 e1 f1 => ?_)
    refine v_dup (pc := 34) dX3_init_34 rfl ?_
    refine w_init (pc := 35) (mi' := mX9_init) (L := a + (2 + 9 * i)) (t := tlTx) (ok := okTx) dX3_init_35 (fun Q2 hq => iX9_init hph hl1 (getE s1 hlen0) e1 hq) msX9_init iiX9_init rfl rfl lkX3_21 (1 + 9 * (i + 1)) (6 + 910 * (i + 1)) (by dsimp only; omega) (by dsimp only; omega) ⟨by omega, by omega⟩ (Nat.le_of_ble_eq_true rfl) hl1 lnTx (fun sh2 m2 s2 hl2 u2 k2 f2 => ?_)
    refine v_aast17 (pc := 38) (x := ((a + (2 + 9 * i) : Nat) : Int)) (N := 10) dX3_init_38 (u2 _ _ _ (u1 _ _ _ hs2)) (u2 _ _ _ z1) (by omega) c1 (Or.inr hph) ?_
    obtain ⟨m3, hm3⟩ : ∃ m9, m9 = aUp m2 ((a + 1 : Nat) : Int) i ((a + (2 + 9 * i) : Nat) : Int) := ⟨_, rfl⟩
    rw [← hm3]
    have f3 : ∀ b : Int, b ≠ ((a + 1 : Nat) : Int) → m3 b = m2 b := fun b hb => by rw [hm3]; exact aUp_ne hb
    have fa : m3 a = mi a := by rw [f3 _ (by omega), f2 _ (by omega), f1 _ (by omega)]
    refine v_iinc (pc := 39) (al2 := [(1, aI ((i + 1 : Nat) : Int)), (0, aR a)]) dX3_init_39 0 rfl (by decide) ?_ ?_
    · show [(1, aI (w32 ((i : Int) + 1))), (0, aR (a : Int))] = _
      rw [w32_id (by omega) (by omega)]
      rfl
    refine v_goto (pc := 42) (tgt := 20) dX3_init_42 (by decide) ?_
    refine ih (i + 1) sh2 m3 (by omega) ?_ ?_ (u2 _ _ _ (u1 _ _ _ hs1)) (u2 _ _ _ (u1 _ _ _ hs2)) (by rw [fa]; exact g0) (by rw [fa]; exact g1) (by rw [fa]; exact g2) ?_ ?_
    · rw [s2, s1, hsh, rpTx_s]
      simp only [List.append_assoc, List.cons_append]
      rfl
    · rw [hl2]; omega
    · intro j hj
      rcases (show j < i ∨ j = i by omega) with hj2 | hj2
      · obtain ⟨e3, e4⟩ := hel j hj2
        refine ⟨?_, okTx_c (fun b hb1 hb2 => by rw [f3 _ (by omega), f2 _ (by omega), f1 _ (by omega)]) e4⟩
        rw [hm3, aUp_ri (by omega), f2 _ (by omega), f1 _ (by omega)]
        exact e3
      · subst hj2
        refine ⟨by rw [hm3]; exact aUp_re, okTx_c (fun b hb1 hb2 => by rw [f3 _ (by omega)]) k2⟩
    · intro b hb
      rw [f3 _ (by omega), f2 _ (by omega), f1 _ (by omega)]
      exact hfr b hb
set_option maxRecDepth 20000 in
set_option maxHeartbeats 4000000 in
theorem iX6_init {E : EN} {k a : Nat} {sh : Sp} {mem : Mm} {Q : PQ} (hph : E.2.2.2.2.2.1 = false) (hL : sh.length = a + 1) (hsh : sh[a]? = some (6, 3)) (hd0 : mem a = dft 6) (h : ∀ m2 : Mm, okPt m2 a → (∀ b : Int, b < a → m2 b = mem b) → Q none (sh ++ tlPt) m2) : CG E mX6_init (k + 2) 162 2640 sh mem [aR a] Q := by
  refine CG_of rfl (Nat.le_of_ble_eq_true rfl) (aNs_c (aNr_R _) (fun _ q => nomatch q)) ?_
  show VG E mX6_init (k + 2) 162 2640 sh mem (0, 0) 0 [(0, aR a)] [] Q
  have hs0 : aSh sh (a : Int) 6 3 := ⟨a, rfl, hsh⟩
  have hl0 : sh.length = a + 1 := hL
  refine v_aload_n (pc := 0) dX6_init_0 0 rfl ?_
  refine v_objI (pc := 1) (a := (a : Int)) (by omega) dX6_init_1 loX6_3 (Nat.le_of_ble_eq_true rfl) ?_
  refine v_aload_n (pc := 4) dX6_init_4 0 rfl ?_
  refine v_bipush (pc := 5) dX6_init_5 (by decide) ?_
  refine w_newq18 (pc := 7) (L := a + 1) hph hl0 dX6_init_7 clX6_9 (by decide) (by decide) 16 1 16 rfl rfl rfl (Nat.le_of_ble_eq_true rfl) (Nat.le_of_ble_eq_true rfl) (fun sh1 m1 s1 hl1 z1 u1 f1 => ?_)
  refine w_putf (pc := 10) 0 rfl hph dX6_init_10 flX6_11 ⟨_, _, rfl, Or.inr ⟨rfl, rfl, rfl, _, _, gd_tbl (ch1 (List.mem_of_getElem? (i := 119) rfl)) rfl, rfl, rfl⟩⟩ rfl (by decide) (fun q => nomatch q) (u1 _ _ _ hs0) (fun m2 p2 q2 f2 => ?_)
  refine v_aload_n (pc := 13) dX6_init_13 0 rfl ?_
  refine v_bipush (pc := 14) dX6_init_14 (by decide) ?_
  refine w_newa13 (pc := 16) (L := a + 2) hph hl1 dX6_init_16 (by decide) (by decide) 16 2 32 rfl rfl rfl (Nat.le_of_ble_eq_true rfl) (Nat.le_of_ble_eq_true rfl) (fun sh2 m3 s2 hl2 z2 u2 a3 f3 => ?_)
  refine w_putf (pc := 18) 1 rfl hph dX6_init_18 flX6_17 ⟨_, _, rfl, Or.inr ⟨rfl, rfl, rfl, _, _, gd_tbl (ch1 (List.mem_of_getElem? (i := 120) rfl)) rfl, rfl, rfl⟩⟩ rfl (by decide) (fun q => nomatch q) (u2 _ _ _ (u1 _ _ _ hs0)) (fun m4 p4 q4 f4 => ?_)
  refine v_iconst (pc := 21) dX6_init_21 (by decide) ?_
  refine v_istore_n (pc := 22) (al2 := [(1, aI 0), (0, aR a)]) dX6_init_22 (by decide) rfl ?_
  exact iX6_init_loop hph h 16 0 sh2 m4 rfl (by rw [s2, s1]; simp only [List.append_assoc]; rfl) hl2 (u2 _ _ _ (u1 _ _ _ hs0)) (u2 _ _ _ z1) ((show m4 (a : Int) 0 = ((a + 1 : Nat) : Int) from (by rw [q4 _ (by decide), f3 _ (nA (k := 2) (by decide)), p2])).trans (cA a 1)) ((show m4 (a : Int) 1 = ((a + 2 : Nat) : Int) from (by rw [p4])).trans (cA a 2)) (by rw [q4 _ (by decide), f3 _ (nA (k := 2) (by decide)), q2 _ (by decide), f1 _ (nA (k := 1) (by decide)), hd0]; rfl) (okA_c (by rw [f4 _ (nA2 (k := 2) (by decide))]) a3) (fun j hj => absurd hj (by omega)) (fun b hb => by rw [f4 b (fr0 hb), f3 b (fr hb), f2 b (fr0 hb), f1 b (fr hb)])
set_option maxRecDepth 20000 in
set_option maxHeartbeats 4000000 in
theorem iX3_init {E : EN} {k a : Nat} {sh : Sp} {mem : Mm} {Q : PQ} (hph : E.2.2.2.2.2.1 = false) (hL : sh.length = a + 1) (hsh : sh[a]? = some (3, 3)) (hd0 : mem a = dft 3) (h : ∀ m2 : Mm, okLw m2 a → (∀ b : Int, b < a → m2 b = mem b) → Q none (sh ++ tlLw) m2) : CG E mX3_init (k + 2) 55 5466 sh mem [aR a] Q := by
  refine CG_of rfl (Nat.le_of_ble_eq_true rfl) (aNs_c (aNr_R _) (fun _ q => nomatch q)) ?_
  show VG E mX3_init (k + 2) 55 5466 sh mem (0, 0) 0 [(0, aR a)] [] Q
  have hs0 : aSh sh (a : Int) 3 3 := ⟨a, rfl, hsh⟩
  have hl0 : sh.length = a + 1 := hL
  refine v_aload_n (pc := 0) dX3_init_0 0 rfl ?_
  refine v_objI (pc := 1) (a := (a : Int)) (by omega) dX3_init_1 loX3_3 (Nat.le_of_ble_eq_true rfl) ?_
  refine v_aload_n (pc := 4) dX3_init_4 0 rfl ?_
  refine v_bipush (pc := 5) dX3_init_5 (by decide) ?_
  refine w_newq17 (pc := 7) (L := a + 1) hph hl0 dX3_init_7 clX3_9 (by decide) (by decide) 6 1 6 rfl rfl rfl (Nat.le_of_ble_eq_true rfl) (Nat.le_of_ble_eq_true rfl) (fun sh1 m1 s1 hl1 z1 u1 f1 => ?_)
  refine w_putf (pc := 10) 0 rfl hph dX3_init_10 flX3_11 ⟨_, _, rfl, Or.inr ⟨rfl, rfl, rfl, _, _, gd_tbl (ch2 (List.mem_of_getElem? (i := 3) rfl)) rfl, rfl, rfl⟩⟩ rfl (by decide) (fun q => nomatch q) (u1 _ _ _ hs0) (fun m2 p2 q2 f2 => ?_)
  refine v_aload_n (pc := 13) dX3_init_13 0 rfl ?_
  refine v_iconst (pc := 14) dX3_init_14 (by decide) ?_
  refine w_putf (pc := 15) 2 rfl hph dX3_init_15 flX3_17 ⟨_, _, rfl, Or.inl rfl⟩ rfl (by decide) (fun q => nomatch q) (u1 _ _ _ hs0) (fun m3 p3 q3 f3 => ?_)
  refine v_iconst (pc := 18) dX3_init_18 (by decide) ?_
  refine v_istore_n (pc := 19) (al2 := [(1, aI 0), (0, aR a)]) dX3_init_19 (by decide) rfl ?_
  exact iX3_init_loop hph h 6 0 sh1 m3 rfl (by rw [s1]; rfl) hl1 (u1 _ _ _ hs0) z1 ((show m3 (a : Int) 0 = ((a + 1 : Nat) : Int) from (by rw [q3 _ (by decide), p2])).trans (cA a 1)) (by rw [q3 _ (by decide), q2 _ (by decide), f1 _ (nA (k := 1) (by decide)), hd0]; rfl) (by rw [p3]) (fun j hj => absurd hj (by omega)) (fun b hb => by rw [f3 b (fr0 hb), f2 b (fr0 hb), f1 b (fr hb)])
theorem dX2_init_0 : decode cX2_init 0 = .ok (.aload_n 0, 1) := by decide +kernel
theorem dX2_init_1 : decode cX2_init 1 = .ok (.invokespecial 1, 3) := by decide +kernel
theorem dX2_init_4 : decode cX2_init 4 = .ok (.aload_n 0, 1) := by decide +kernel
theorem dX2_init_5 : decode cX2_init 5 = .ok (.new 7, 3) := by decide +kernel
theorem dX2_init_8 : decode cX2_init 8 = .ok (.dup, 1) := by decide +kernel
theorem dX2_init_9 : decode cX2_init 9 = .ok (.invokespecial 9, 3) := by decide +kernel
theorem dX2_init_12 : decode cX2_init 12 = .ok (.putfield 10, 3) := by decide +kernel
theorem dX2_init_15 : decode cX2_init 15 = .ok (.aload_n 0, 1) := by decide +kernel
theorem dX2_init_16 : decode cX2_init 16 = .ok (.new 16, 3) := by decide +kernel
theorem dX2_init_19 : decode cX2_init 19 = .ok (.dup, 1) := by decide +kernel
theorem dX2_init_20 : decode cX2_init 20 = .ok (.invokespecial 18, 3) := by decide +kernel
theorem dX2_init_23 : decode cX2_init 23 = .ok (.putfield 19, 3) := by decide +kernel
theorem dX2_init_26 : decode cX2_init 26 = .ok (.aload_n 0, 1) := by decide +kernel
theorem dX2_init_27 : decode cX2_init 27 = .ok (.new 23, 3) := by decide +kernel
theorem dX2_init_30 : decode cX2_init 30 = .ok (.dup, 1) := by decide +kernel
theorem dX2_init_31 : decode cX2_init 31 = .ok (.invokespecial 25, 3) := by decide +kernel
theorem dX2_init_34 : decode cX2_init 34 = .ok (.putfield 26, 3) := by decide +kernel
theorem dX2_init_37 : decode cX2_init 37 = .ok (.return_, 1) := by decide +kernel
set_option maxRecDepth 20000 in
set_option maxHeartbeats 4000000 in
theorem iX2_init {E : EN} {k a : Nat} {sh : Sp} {mem : Mm} {Q : PQ} (hph : E.2.2.2.2.2.1 = false) (hL : sh.length = a + 1) (hsh : sh[a]? = some (2, 4)) (hd0 : mem a = dft 2) (h : ∀ m2 : Mm, okIm m2 a → (∀ b : Int, b < a → m2 b = mem b) → Q none (sh ++ tlIm) m2) : CG E mX2_init (k + 3) 70 5660 sh mem [aR a] Q := by
  refine CG_of rfl (Nat.le_of_ble_eq_true rfl) (aNs_c (aNr_R _) (fun _ q => nomatch q)) ?_
  show VG E mX2_init (k + 3) 70 5660 sh mem (0, 0) 0 [(0, aR a)] [] Q
  have hs0 : aSh sh (a : Int) 2 4 := ⟨a, rfl, hsh⟩
  have hl0 : sh.length = a + 1 := hL
  refine v_aload_n (pc := 0) dX2_init_0 0 rfl ?_
  refine v_objI (pc := 1) (a := (a : Int)) (by omega) dX2_init_1 loX2_1 (Nat.le_of_ble_eq_true rfl) ?_
  refine v_aload_n (pc := 4) dX2_init_4 0 rfl ?_
  refine w_new (pc := 5) (L := a + 1) hph hl0 dX2_init_5 clX2_7 ck10 in10 nz10 at2_10 1 13 rfl rfl (Nat.le_of_ble_eq_true rfl) (Nat.le_of_ble_eq_true rfl) (fun sh1 m1 s1 hl1 z1 u1 e1 f1 => ?_)
  refine v_dup (pc := 8) dX2_init_8 rfl ?_
  refine w_init (pc := 9) (mi' := mX10_init) (L := a + 1) (t := tlY) (ok := okY) dX2_init_9 (fun Q2 hq => iX10_init hph hl1 (getE s1 hl0) e1 hq) msX10_init iiX10_init rfl rfl lkX2_9 10 163 rfl rfl ⟨(Nat.le_of_ble_eq_true rfl), (Nat.le_of_ble_eq_true rfl)⟩ (Nat.le_of_ble_eq_true rfl) hl1 lnY (fun sh2 m2 s2 hl2 u2 k2 f2 => ?_)
  refine w_putf (pc := 12) 0 rfl hph dX2_init_12 flX2_10 ⟨_, _, rfl, Or.inr ⟨rfl, rfl, rfl, _, _, gd_tbl (ch2 (List.mem_of_getElem? (i := 28) rfl)) rfl, rfl, rfl⟩⟩ rfl (by decide) (fun q => nomatch q) (u2 _ _ _ (u1 _ _ _ hs0)) (fun m3 p3 q3 f3 => ?_)
  refine v_aload_n (pc := 15) dX2_init_15 0 rfl ?_
  refine w_new (pc := 16) (L := a + 11) hph hl2 dX2_init_16 clX2_16 ck1 in1 nz1 at2_1 11 167 rfl rfl (Nat.le_of_ble_eq_true rfl) (Nat.le_of_ble_eq_true rfl) (fun sh3 m4 s3 hl3 z3 u3 e4 f4 => ?_)
  refine v_dup (pc := 19) dX2_init_19 rfl ?_
  refine w_init (pc := 20) (mi' := mX1_init) (L := a + 11) (t := tlFd) (ok := okFd) dX2_init_20 (fun Q2 hq => iX1_init hph hl3 (getE s3 hl2) e4 hq) msX1_init iiX1_init rfl rfl lkX2_18 14 191 rfl rfl ⟨(Nat.le_of_ble_eq_true rfl), (Nat.le_of_ble_eq_true rfl)⟩ (Nat.le_of_ble_eq_true rfl) hl3 lnFd (fun sh4 m5 s4 hl4 u4 k5 f5 => ?_)
  refine w_putf (pc := 23) 1 rfl hph dX2_init_23 flX2_19 ⟨_, _, rfl, Or.inr ⟨rfl, rfl, rfl, _, _, gd_tbl (ch2 (List.mem_of_getElem? (i := 29) rfl)) rfl, rfl, rfl⟩⟩ rfl (by decide) (fun q => nomatch q) (u4 _ _ _ (u3 _ _ _ (u2 _ _ _ (u1 _ _ _ hs0)))) (fun m6 p6 q6 f6 => ?_)
  refine v_aload_n (pc := 26) dX2_init_26 0 rfl ?_
  refine w_new (pc := 27) (L := a + 15) hph hl4 dX2_init_27 clX2_23 ck3 in3 nz3 at2_3 15 194 rfl rfl (Nat.le_of_ble_eq_true rfl) (Nat.le_of_ble_eq_true rfl) (fun sh5 m7 s5 hl5 z5 u5 e7 f7 => ?_)
  refine v_dup (pc := 30) dX2_init_30 rfl ?_
  refine w_init (pc := 31) (mi' := mX3_init) (L := a + 15) (t := tlLw) (ok := okLw) dX2_init_31 (fun Q2 hq => iX3_init hph hl5 (getE s5 hl4) e7 hq) msX3_init iiX3_init rfl rfl lkX2_25 70 5660 rfl rfl ⟨(Nat.le_of_ble_eq_true rfl), (Nat.le_of_ble_eq_true rfl)⟩ (Nat.le_of_ble_eq_true rfl) hl5 lnLw (fun sh6 m8 s6 hl6 u6 k8 f8 => ?_)
  refine w_putf (pc := 34) 2 rfl hph dX2_init_34 flX2_26 ⟨_, _, rfl, Or.inr ⟨rfl, rfl, rfl, _, _, gd_tbl (ch2 (List.mem_of_getElem? (i := 30) rfl)) rfl, rfl, rfl⟩⟩ rfl (by decide) (fun q => nomatch q) (u6 _ _ _ (u5 _ _ _ (u4 _ _ _ (u3 _ _ _ (u2 _ _ _ (u1 _ _ _ hs0)))))) (fun m9 p9 q9 f9 => ?_)
  have e9 : sh6 = sh ++ tlIm := by
    rw [s6, s5, s4, s3, s2, s1]
    simp only [List.append_assoc]
    rfl
  rw [e9]
  refine v_vret (pc := 37) (st := []) dX2_init_37 rfl rfl (Nat.le_of_ble_eq_true rfl) (h m9 ?_ ?_)
  · exact ⟨((show m9 (a : Int) 0 = ((a + 1 : Nat) : Int) from (by rw [q9 _ (by decide), f8 _ (lA 14), f7 _ (nA (k := 15) (by decide)), q6 _ (by decide), f5 _ (lA 10), f4 _ (nA (k := 11) (by decide)), p3])).trans (cA a 1)), ((show m9 (a : Int) 1 = ((a + 11 : Nat) : Int) from (by rw [q9 _ (by decide), f8 _ (lA 14), f7 _ (nA (k := 15) (by decide)), p6])).trans (cA a 11)), ((show m9 (a : Int) 2 = ((a + 15 : Nat) : Int) from (by rw [p9])).trans (cA a 15)), (by rw [q9 _ (by decide), f8 _ (lA 14), f7 _ (nA (k := 15) (by decide)), q6 _ (by decide), f5 _ (lA 10), f4 _ (nA (k := 11) (by decide)), q3 _ (by decide), f2 _ (lA 0), f1 _ (nA (k := 1) (by decide)), hd0]; rfl), ((cA a 1) ▸ okY_c (fun b hb1 hb2 => by rw [f9 b (b0 (j := 1) hb1 (by decide)), f8 b (bL (j := 1) (s := 10) (k := 15) hb1 hb2 (by decide)), f7 b (bN (j := 1) (s := 10) (k := 15) hb1 hb2 (by decide)), f6 b (b0 (j := 1) hb1 (by decide)), f5 b (bL (j := 1) (s := 10) (k := 11) hb1 hb2 (by decide)), f4 b (bN (j := 1) (s := 10) (k := 11) hb1 hb2 (by decide)), f3 b (b0 (j := 1) hb1 (by decide))]) k2), ((cA a 11) ▸ okFd_c (fun b hb1 hb2 => by rw [f9 b (b0 (j := 11) hb1 (by decide)), f8 b (bL (j := 11) (s := 4) (k := 15) hb1 hb2 (by decide)), f7 b (bN (j := 11) (s := 4) (k := 15) hb1 hb2 (by decide)), f6 b (b0 (j := 11) hb1 (by decide))]) k5), ((cA a 15) ▸ okLw_c (fun b hb1 hb2 => by rw [f9 b (b0 (j := 15) hb1 (by decide))]) k8)⟩
  · intro b hb
    rw [f9 b (fr0 hb), f8 b (frl hb), f7 b (fr hb), f6 b (fr0 hb), f5 b (frl hb), f4 b (fr hb), f3 b (fr0 hb), f2 b (frl hb), f1 b (fr hb)]
theorem dX8_init_0 : decode cX8_init 0 = .ok (.aload_n 0, 1) := by decide +kernel
theorem dX8_init_1 : decode cX8_init 1 = .ok (.invokespecial 3, 3) := by decide +kernel
theorem dX8_init_4 : decode cX8_init 4 = .ok (.aload_n 0, 1) := by decide +kernel
theorem dX8_init_5 : decode cX8_init 5 = .ok (.new 9, 3) := by decide +kernel
theorem dX8_init_8 : decode cX8_init 8 = .ok (.dup, 1) := by decide +kernel
theorem dX8_init_9 : decode cX8_init 9 = .ok (.invokespecial 11, 3) := by decide +kernel
theorem dX8_init_12 : decode cX8_init 12 = .ok (.putfield 12, 3) := by decide +kernel
theorem dX8_init_15 : decode cX8_init 15 = .ok (.aload_n 0, 1) := by decide +kernel
theorem dX8_init_16 : decode cX8_init 16 = .ok (.new 18, 3) := by decide +kernel
theorem dX8_init_19 : decode cX8_init 19 = .ok (.dup, 1) := by decide +kernel
theorem dX8_init_20 : decode cX8_init 20 = .ok (.invokespecial 20, 3) := by decide +kernel
theorem dX8_init_23 : decode cX8_init 23 = .ok (.putfield 21, 3) := by decide +kernel
theorem dX8_init_26 : decode cX8_init 26 = .ok (.aload_n 0, 1) := by decide +kernel
theorem dX8_init_27 : decode cX8_init 27 = .ok (.new 9, 3) := by decide +kernel
theorem dX8_init_30 : decode cX8_init 30 = .ok (.dup, 1) := by decide +kernel
theorem dX8_init_31 : decode cX8_init 31 = .ok (.invokespecial 11, 3) := by decide +kernel
theorem dX8_init_34 : decode cX8_init 34 = .ok (.putfield 25, 3) := by decide +kernel
theorem dX8_init_37 : decode cX8_init 37 = .ok (.aload_n 0, 1) := by decide +kernel
theorem dX8_init_38 : decode cX8_init 38 = .ok (.new 18, 3) := by decide +kernel
theorem dX8_init_41 : decode cX8_init 41 = .ok (.dup, 1) := by decide +kernel
theorem dX8_init_42 : decode cX8_init 42 = .ok (.invokespecial 20, 3) := by decide +kernel
theorem dX8_init_45 : decode cX8_init 45 = .ok (.putfield 28, 3) := by decide +kernel
theorem dX8_init_48 : decode cX8_init 48 = .ok (.aload_n 0, 1) := by decide +kernel
theorem dX8_init_49 : decode cX8_init 49 = .ok (.bipush 78, 2) := by decide +kernel
theorem dX8_init_51 : decode cX8_init 51 = .ok (.newarray .int, 2) := by decide +kernel
theorem dX8_init_53 : decode cX8_init 53 = .ok (.putfield 31, 3) := by decide +kernel
theorem dX8_init_56 : decode cX8_init 56 = .ok (.aload_n 0, 1) := by decide +kernel
theorem dX8_init_57 : decode cX8_init 57 = .ok (.iconst (-1), 1) := by decide +kernel
theorem dX8_init_58 : decode cX8_init 58 = .ok (.putfield 35, 3) := by decide +kernel
theorem dX8_init_61 : decode cX8_init 61 = .ok (.return_, 1) := by decide +kernel
set_option maxRecDepth 20000 in
set_option maxHeartbeats 4000000 in
theorem iX8_init {E : EN} {k a : Nat} {sh : Sp} {mem : Mm} {Q : PQ} (hph : E.2.2.2.2.2.1 = false) (hL : sh.length = a + 1) (hsh : sh[a]? = some (8, 10)) (hd0 : mem a = dft 8) (h : ∀ m2 : Mm, okSx m2 a → (∀ b : Int, b < a → m2 b = mem b) → Q none (sh ++ tlSx) m2) : CG E mX8_init (k + 3) 347 5690 sh mem [aR a] Q := by
  refine CG_of rfl (Nat.le_of_ble_eq_true rfl) (aNs_c (aNr_R _) (fun _ q => nomatch q)) ?_
  show VG E mX8_init (k + 3) 347 5690 sh mem (0, 0) 0 [(0, aR a)] [] Q
  have hs0 : aSh sh (a : Int) 8 10 := ⟨a, rfl, hsh⟩
  have hl0 : sh.length = a + 1 := hL
  refine v_aload_n (pc := 0) dX8_init_0 0 rfl ?_
  refine v_objI (pc := 1) (a := (a : Int)) (by omega) dX8_init_1 loX8_3 (Nat.le_of_ble_eq_true rfl) ?_
  refine v_aload_n (pc := 4) dX8_init_4 0 rfl ?_
  refine w_new (pc := 5) (L := a + 1) hph hl0 dX8_init_5 clX8_9 ck10 in10 nz10 at2_10 1 13 rfl rfl (Nat.le_of_ble_eq_true rfl) (Nat.le_of_ble_eq_true rfl) (fun sh1 m1 s1 hl1 z1 u1 e1 f1 => ?_)
  refine v_dup (pc := 8) dX8_init_8 rfl ?_
  refine w_init (pc := 9) (mi' := mX10_init) (L := a + 1) (t := tlY) (ok := okY) dX8_init_9 (fun Q2 hq => iX10_init hph hl1 (getE s1 hl0) e1 hq) msX10_init iiX10_init rfl rfl lkX8_11 10 163 rfl rfl ⟨(Nat.le_of_ble_eq_true rfl), (Nat.le_of_ble_eq_true rfl)⟩ (Nat.le_of_ble_eq_true rfl) hl1 lnY (fun sh2 m2 s2 hl2 u2 k2 f2 => ?_)
  refine w_putf (pc := 12) 0 rfl hph dX8_init_12 flX8_12 ⟨_, _, rfl, Or.inr ⟨rfl, rfl, rfl, _, _, gd_tbl (ch1 (List.mem_of_getElem? (i := 130) rfl)) rfl, rfl, rfl⟩⟩ rfl (by decide) (fun q => nomatch q) (u2 _ _ _ (u1 _ _ _ hs0)) (fun m3 p3 q3 f3 => ?_)
  refine v_aload_n (pc := 15) dX8_init_15 0 rfl ?_
  refine w_new (pc := 16) (L := a + 11) hph hl2 dX8_init_16 clX8_18 ck6 in6 nz6 at2_6 11 166 rfl rfl (Nat.le_of_ble_eq_true rfl) (Nat.le_of_ble_eq_true rfl) (fun sh3 m4 s3 hl3 z3 u3 e4 f4 => ?_)
  refine v_dup (pc := 19) dX8_init_19 rfl ?_
  refine w_init (pc := 20) (mi' := mX6_init) (L := a + 11) (t := tlPt) (ok := okPt) dX8_init_20 (fun Q2 hq => iX6_init hph hl3 (getE s3 hl2) e4 hq) msX6_init iiX6_init rfl rfl lkX8_20 173 2806 rfl rfl ⟨(Nat.le_of_ble_eq_true rfl), (Nat.le_of_ble_eq_true rfl)⟩ (Nat.le_of_ble_eq_true rfl) hl3 lnPt (fun sh4 m5 s4 hl4 u4 k5 f5 => ?_)
  refine w_putf (pc := 23) 1 rfl hph dX8_init_23 flX8_21 ⟨_, _, rfl, Or.inr ⟨rfl, rfl, rfl, _, _, gd_tbl (ch1 (List.mem_of_getElem? (i := 132) rfl)) rfl, rfl, rfl⟩⟩ rfl (by decide) (fun q => nomatch q) (u4 _ _ _ (u3 _ _ _ (u2 _ _ _ (u1 _ _ _ hs0)))) (fun m6 p6 q6 f6 => ?_)
  refine v_aload_n (pc := 26) dX8_init_26 0 rfl ?_
  refine w_new (pc := 27) (L := a + 174) hph hl4 dX8_init_27 clX8_9 ck10 in10 nz10 at2_10 174 2819 rfl rfl (Nat.le_of_ble_eq_true rfl) (Nat.le_of_ble_eq_true rfl) (fun sh5 m7 s5 hl5 z5 u5 e7 f7 => ?_)
  refine v_dup (pc := 30) dX8_init_30 rfl ?_
  refine w_init (pc := 31) (mi' := mX10_init) (L := a + 174) (t := tlY) (ok := okY) dX8_init_31 (fun Q2 hq => iX10_init hph hl5 (getE s5 hl4) e7 hq) msX10_init iiX10_init rfl rfl lkX8_11 183 2969 rfl rfl ⟨(Nat.le_of_ble_eq_true rfl), (Nat.le_of_ble_eq_true rfl)⟩ (Nat.le_of_ble_eq_true rfl) hl5 lnY (fun sh6 m8 s6 hl6 u6 k8 f8 => ?_)
  refine w_putf (pc := 34) 2 rfl hph dX8_init_34 flX8_25 ⟨_, _, rfl, Or.inr ⟨rfl, rfl, rfl, _, _, gd_tbl (ch1 (List.mem_of_getElem? (i := 134) rfl)) rfl, rfl, rfl⟩⟩ rfl (by decide) (fun q => nomatch q) (u6 _ _ _ (u5 _ _ _ (u4 _ _ _ (u3 _ _ _ (u2 _ _ _ (u1 _ _ _ hs0)))))) (fun m9 p9 q9 f9 => ?_)
  refine v_aload_n (pc := 37) dX8_init_37 0 rfl ?_
  refine w_new (pc := 38) (L := a + 184) hph hl6 dX8_init_38 clX8_18 ck6 in6 nz6 at2_6 184 2972 rfl rfl (Nat.le_of_ble_eq_true rfl) (Nat.le_of_ble_eq_true rfl) (fun sh7 m10 s7 hl7 z7 u7 e10 f10 => ?_)
  refine v_dup (pc := 41) dX8_init_41 rfl ?_
  refine w_init (pc := 42) (mi' := mX6_init) (L := a + 184) (t := tlPt) (ok := okPt) dX8_init_42 (fun Q2 hq => iX6_init hph hl7 (getE s7 hl6) e10 hq) msX6_init iiX6_init rfl rfl lkX8_20 346 5612 rfl rfl ⟨(Nat.le_of_ble_eq_true rfl), (Nat.le_of_ble_eq_true rfl)⟩ (Nat.le_of_ble_eq_true rfl) hl7 lnPt (fun sh8 m11 s8 hl8 u8 k11 f11 => ?_)
  refine w_putf (pc := 45) 3 rfl hph dX8_init_45 flX8_28 ⟨_, _, rfl, Or.inr ⟨rfl, rfl, rfl, _, _, gd_tbl (ch1 (List.mem_of_getElem? (i := 135) rfl)) rfl, rfl, rfl⟩⟩ rfl (by decide) (fun q => nomatch q) (u8 _ _ _ (u7 _ _ _ (u6 _ _ _ (u5 _ _ _ (u4 _ _ _ (u3 _ _ _ (u2 _ _ _ (u1 _ _ _ hs0)))))))) (fun m12 p12 q12 f12 => ?_)
  refine v_aload_n (pc := 48) dX8_init_48 0 rfl ?_
  refine v_bipush (pc := 49) dX8_init_49 (by decide) ?_
  refine w_newa13 (pc := 51) (L := a + 347) hph hl8 dX8_init_51 (by decide) (by decide) 78 347 5690 rfl rfl rfl (Nat.le_of_ble_eq_true rfl) (Nat.le_of_ble_eq_true rfl) (fun sh9 m13 s9 hl9 z9 u9 a13 f13 => ?_)
  refine w_putf (pc := 53) 4 rfl hph dX8_init_53 flX8_31 ⟨_, _, rfl, Or.inr ⟨rfl, rfl, rfl, _, _, gd_tbl (ch1 (List.mem_of_getElem? (i := 136) rfl)) rfl, rfl, rfl⟩⟩ rfl (by decide) (fun q => nomatch q) (u9 _ _ _ (u8 _ _ _ (u7 _ _ _ (u6 _ _ _ (u5 _ _ _ (u4 _ _ _ (u3 _ _ _ (u2 _ _ _ (u1 _ _ _ hs0))))))))) (fun m14 p14 q14 f14 => ?_)
  refine v_aload_n (pc := 56) dX8_init_56 0 rfl ?_
  refine v_iconst (pc := 57) dX8_init_57 (by decide) ?_
  refine w_putf (pc := 58) 9 rfl hph dX8_init_58 flX8_35 ⟨_, _, rfl, Or.inl rfl⟩ rfl (by decide) (fun q => nomatch q) (u9 _ _ _ (u8 _ _ _ (u7 _ _ _ (u6 _ _ _ (u5 _ _ _ (u4 _ _ _ (u3 _ _ _ (u2 _ _ _ (u1 _ _ _ hs0))))))))) (fun m15 p15 q15 f15 => ?_)
  have e9 : sh9 = sh ++ tlSx := by
    rw [s9, s8, s7, s6, s5, s4, s3, s2, s1]
    simp only [List.append_assoc]
    rfl
  rw [e9]
  refine v_vret (pc := 61) (st := []) dX8_init_61 rfl rfl (Nat.le_of_ble_eq_true rfl) (h m15 ?_ ?_)
  · refine ⟨((show m15 (a : Int) 0 = ((a + 1 : Nat) : Int) from (by rw [q15 _ (by decide), q14 _ (by decide), f13 _ (nA (k := 347) (by decide)), q12 _ (by decide), f11 _ (lA 183), f10 _ (nA (k := 184) (by decide)), q9 _ (by decide), f8 _ (lA 173), f7 _ (nA (k := 174) (by decide)), q6 _ (by decide), f5 _ (lA 10), f4 _ (nA (k := 11) (by decide)), p3])).trans (cA a 1)), ((show m15 (a : Int) 1 = ((a + 11 : Nat) : Int) from (by rw [q15 _ (by decide), q14 _ (by decide), f13 _ (nA (k := 347) (by decide)), q12 _ (by decide), f11 _ (lA 183), f10 _ (nA (k := 184) (by decide)), q9 _ (by decide), f8 _ (lA 173), f7 _ (nA (k := 174) (by decide)), p6])).trans (cA a 11)), ((show m15 (a : Int) 2 = ((a + 174 : Nat) : Int) from (by rw [q15 _ (by decide), q14 _ (by decide), f13 _ (nA (k := 347) (by decide)), q12 _ (by decide), f11 _ (lA 183), f10 _ (nA (k := 184) (by decide)), p9])).trans (cA a 174)), ((show m15 (a : Int) 3 = ((a + 184 : Nat) : Int) from (by rw [q15 _ (by decide), q14 _ (by decide), f13 _ (nA (k := 347) (by decide)), p12])).trans (cA a 184)), ((show m15 (a : Int) 4 = ((a + 347 : Nat) : Int) from (by rw [q15 _ (by decide), p14])).trans (cA a 347)), (by rw [p15]), ?_, ((cA a 1) ▸ okY_c (fun b hb1 hb2 => by rw [f15 b (b0 (j := 1) hb1 (by decide)), f14 b (b0 (j := 1) hb1 (by decide)), f13 b (bN (j := 1) (s := 10) (k := 347) hb1 hb2 (by decide)), f12 b (b0 (j := 1) hb1 (by decide)), f11 b (bL (j := 1) (s := 10) (k := 184) hb1 hb2 (by decide)), f10 b (bN (j := 1) (s := 10) (k := 184) hb1 hb2 (by decide)), f9 b (b0 (j := 1) hb1 (by decide)), f8 b (bL (j := 1) (s := 10) (k := 174) hb1 hb2 (by decide)), f7 b (bN (j := 1) (s := 10) (k := 174) hb1 hb2 (by decide)), f6 b (b0 (j := 1) hb1 (by decide)), f5 b (bL (j := 1) (s := 10) (k := 11) hb1 hb2 (by decide)), f4 b (bN (j := 1) (s := 10) (k := 11) hb1 hb2 (by decide)), f3 b (b0 (j := 1) hb1 (by decide))]) k2), ((cA a 11) ▸ okPt_c (fun b hb1 hb2 => by rw [f15 b (b0 (j := 11) hb1 (by decide)), f14 b (b0 (j := 11) hb1 (by decide)), f13 b (bN (j := 11) (s := 163) (k := 347) hb1 hb2 (by decide)), f12 b (b0 (j := 11) hb1 (by decide)), f11 b (bL (j := 11) (s := 163) (k := 184) hb1 hb2 (by decide)), f10 b (bN (j := 11) (s := 163) (k := 184) hb1 hb2 (by decide)), f9 b (b0 (j := 11) hb1 (by decide)), f8 b (bL (j := 11) (s := 163) (k := 174) hb1 hb2 (by decide)), f7 b (bN (j := 11) (s := 163) (k := 174) hb1 hb2 (by decide)), f6 b (b0 (j := 11) hb1 (by decide))]) k5), ((cA a 174) ▸ okY_c (fun b hb1 hb2 => by rw [f15 b (b0 (j := 174) hb1 (by decide)), f14 b (b0 (j := 174) hb1 (by decide)), f13 b (bN (j := 174) (s := 10) (k := 347) hb1 hb2 (by decide)), f12 b (b0 (j := 174) hb1 (by decide)), f11 b (bL (j := 174) (s := 10) (k := 184) hb1 hb2 (by decide)), f10 b (bN (j := 174) (s := 10) (k := 184) hb1 hb2 (by decide)), f9 b (b0 (j := 174) hb1 (by decide))]) k8), ((cA a 184) ▸ okPt_c (fun b hb1 hb2 => by rw [f15 b (b0 (j := 184) hb1 (by decide)), f14 b (b0 (j := 184) hb1 (by decide)), f13 b (bN (j := 184) (s := 163) (k := 347) hb1 hb2 (by decide)), f12 b (b0 (j := 184) hb1 (by decide))]) k11), ((cA a 347) ▸ okA_c (by rw [f15 _ (nA2 (k := 347) (by decide)), f14 _ (nA2 (k := 347) (by decide))]) a13)⟩
    intro i h1 h2
    rcases four5 h1 h2 with rfl | rfl | rfl | rfl
    · exact (by rw [q15 _ (by decide), q14 _ (by decide), f13 _ (nA (k := 347) (by decide)), q12 _ (by decide), f11 _ (lA 183), f10 _ (nA (k := 184) (by decide)), q9 _ (by decide), f8 _ (lA 173), f7 _ (nA (k := 174) (by decide)), q6 _ (by decide), f5 _ (lA 10), f4 _ (nA (k := 11) (by decide)), q3 _ (by decide), f2 _ (lA 0), f1 _ (nA (k := 1) (by decide)), hd0]; rfl)
    · exact (by rw [q15 _ (by decide), q14 _ (by decide), f13 _ (nA (k := 347) (by decide)), q12 _ (by decide), f11 _ (lA 183), f10 _ (nA (k := 184) (by decide)), q9 _ (by decide), f8 _ (lA 173), f7 _ (nA (k := 174) (by decide)), q6 _ (by decide), f5 _ (lA 10), f4 _ (nA (k := 11) (by decide)), q3 _ (by decide), f2 _ (lA 0), f1 _ (nA (k := 1) (by decide)), hd0]; rfl)
    · exact (by rw [q15 _ (by decide), q14 _ (by decide), f13 _ (nA (k := 347) (by decide)), q12 _ (by decide), f11 _ (lA 183), f10 _ (nA (k := 184) (by decide)), q9 _ (by decide), f8 _ (lA 173), f7 _ (nA (k := 174) (by decide)), q6 _ (by decide), f5 _ (lA 10), f4 _ (nA (k := 11) (by decide)), q3 _ (by decide), f2 _ (lA 0), f1 _ (nA (k := 1) (by decide)), hd0]; rfl)
    · exact (by rw [q15 _ (by decide), q14 _ (by decide), f13 _ (nA (k := 347) (by decide)), q12 _ (by decide), f11 _ (lA 183), f10 _ (nA (k := 184) (by decide)), q9 _ (by decide), f8 _ (lA 173), f7 _ (nA (k := 174) (by decide)), q6 _ (by decide), f5 _ (lA 10), f4 _ (nA (k := 11) (by decide)), q3 _ (by decide), f2 _ (lA 0), f1 _ (nA (k := 1) (by decide)), hd0]; rfl)
  · intro b hb
    rw [f15 b (fr0 hb), f14 b (fr0 hb), f13 b (fr hb), f12 b (fr0 hb), f11 b (frl hb), f10 b (fr hb), f9 b (fr0 hb), f8 b (frl hb), f7 b (fr hb), f6 b (fr0 hb), f5 b (frl hb), f4 b (fr hb), f3 b (fr0 hb), f2 b (frl hb), f1 b (fr hb)]
theorem dX11_init_0 : decode cX11_init 0 = .ok (.aload_n 0, 1) := by decide +kernel
theorem dX11_init_1 : decode cX11_init 1 = .ok (.invokespecial 5, 3) := by decide +kernel
theorem dX11_init_4 : decode cX11_init 4 = .ok (.aload_n 0, 1) := by decide +kernel
theorem dX11_init_5 : decode cX11_init 5 = .ok (.new 11, 3) := by decide +kernel
theorem dX11_init_8 : decode cX11_init 8 = .ok (.dup, 1) := by decide +kernel
theorem dX11_init_9 : decode cX11_init 9 = .ok (.invokespecial 13, 3) := by decide +kernel
theorem dX11_init_12 : decode cX11_init 12 = .ok (.putfield 14, 3) := by decide +kernel
theorem dX11_init_15 : decode cX11_init 15 = .ok (.aload_n 0, 1) := by decide +kernel
theorem dX11_init_16 : decode cX11_init 16 = .ok (.aload_n 0, 1) := by decide +kernel
theorem dX11_init_17 : decode cX11_init 17 = .ok (.getfield 14, 3) := by decide +kernel
theorem dX11_init_20 : decode cX11_init 20 = .ok (.getfield 18, 3) := by decide +kernel
theorem dX11_init_23 : decode cX11_init 23 = .ok (.putfield 22, 3) := by decide +kernel
theorem dX11_init_26 : decode cX11_init 26 = .ok (.aload_n 0, 1) := by decide +kernel
theorem dX11_init_27 : decode cX11_init 27 = .ok (.aload_n 0, 1) := by decide +kernel
theorem dX11_init_28 : decode cX11_init 28 = .ok (.getfield 14, 3) := by decide +kernel
theorem dX11_init_31 : decode cX11_init 31 = .ok (.getfield 23, 3) := by decide +kernel
theorem dX11_init_34 : decode cX11_init 34 = .ok (.putfield 27, 3) := by decide +kernel
theorem dX11_init_37 : decode cX11_init 37 = .ok (.aload_n 0, 1) := by decide +kernel
theorem dX11_init_38 : decode cX11_init 38 = .ok (.new 28, 3) := by decide +kernel
theorem dX11_init_41 : decode cX11_init 41 = .ok (.dup, 1) := by decide +kernel
theorem dX11_init_42 : decode cX11_init 42 = .ok (.invokespecial 30, 3) := by decide +kernel
theorem dX11_init_45 : decode cX11_init 45 = .ok (.putfield 31, 3) := by decide +kernel
theorem dX11_init_48 : decode cX11_init 48 = .ok (.aload_n 0, 1) := by decide +kernel
theorem dX11_init_49 : decode cX11_init 49 = .ok (.new 35, 3) := by decide +kernel
theorem dX11_init_52 : decode cX11_init 52 = .ok (.dup, 1) := by decide +kernel
theorem dX11_init_53 : decode cX11_init 53 = .ok (.invokespecial 37, 3) := by decide +kernel
theorem dX11_init_56 : decode cX11_init 56 = .ok (.putfield 38, 3) := by decide +kernel
theorem dX11_init_59 : decode cX11_init 59 = .ok (.aload_n 0, 1) := by decide +kernel
theorem dX11_init_60 : decode cX11_init 60 = .ok (.iconst 2, 1) := by decide +kernel
theorem dX11_init_61 : decode cX11_init 61 = .ok (.anewarray 42, 3) := by decide +kernel
theorem dX11_init_64 : decode cX11_init 64 = .ok (.dup, 1) := by decide +kernel
theorem dX11_init_65 : decode cX11_init 65 = .ok (.iconst 0, 1) := by decide +kernel
theorem dX11_init_66 : decode cX11_init 66 = .ok (.new 42, 3) := by decide +kernel
theorem dX11_init_69 : decode cX11_init 69 = .ok (.dup, 1) := by decide +kernel
theorem dX11_init_70 : decode cX11_init 70 = .ok (.invokespecial 44, 3) := by decide +kernel
theorem dX11_init_73 : decode cX11_init 73 = .ok (.aastore, 1) := by decide +kernel
theorem dX11_init_74 : decode cX11_init 74 = .ok (.dup, 1) := by decide +kernel
theorem dX11_init_75 : decode cX11_init 75 = .ok (.iconst 1, 1) := by decide +kernel
theorem dX11_init_76 : decode cX11_init 76 = .ok (.new 42, 3) := by decide +kernel
theorem dX11_init_79 : decode cX11_init 79 = .ok (.dup, 1) := by decide +kernel
theorem dX11_init_80 : decode cX11_init 80 = .ok (.invokespecial 44, 3) := by decide +kernel
theorem dX11_init_83 : decode cX11_init 83 = .ok (.aastore, 1) := by decide +kernel
theorem dX11_init_84 : decode cX11_init 84 = .ok (.putfield 45, 3) := by decide +kernel
theorem dX11_init_87 : decode cX11_init 87 = .ok (.aload_n 0, 1) := by decide +kernel
theorem dX11_init_88 : decode cX11_init 88 = .ok (.new 49, 3) := by decide +kernel
theorem dX11_init_91 : decode cX11_init 91 = .ok (.dup, 1) := by decide +kernel
theorem dX11_init_92 : decode cX11_init 92 = .ok (.invokespecial 51, 3) := by decide +kernel
theorem dX11_init_95 : decode cX11_init 95 = .ok (.putfield 52, 3) := by decide +kernel
theorem dX11_init_98 : decode cX11_init 98 = .ok (.aload_n 0, 1) := by decide +kernel
theorem dX11_init_99 : decode cX11_init 99 = .ok (.new 56, 3) := by decide +kernel
theorem dX11_init_102 : decode cX11_init 102 = .ok (.dup, 1) := by decide +kernel
theorem dX11_init_103 : decode cX11_init 103 = .ok (.invokespecial 58, 3) := by decide +kernel
theorem dX11_init_106 : decode cX11_init 106 = .ok (.putfield 59, 3) := by decide +kernel
theorem dX11_init_109 : decode cX11_init 109 = .ok (.aload_n 0, 1) := by decide +kernel
theorem dX11_init_110 : decode cX11_init 110 = .ok (.new 63, 3) := by decide +kernel
theorem dX11_init_113 : decode cX11_init 113 = .ok (.dup, 1) := by decide +kernel
theorem dX11_init_114 : decode cX11_init 114 = .ok (.invokespecial 65, 3) := by decide +kernel
theorem dX11_init_117 : decode cX11_init 117 = .ok (.putfield 66, 3) := by decide +kernel
theorem dX11_init_120 : decode cX11_init 120 = .ok (.aload_n 0, 1) := by decide +kernel
theorem dX11_init_121 : decode cX11_init 121 = .ok (.new 70, 3) := by decide +kernel
theorem dX11_init_124 : decode cX11_init 124 = .ok (.dup, 1) := by decide +kernel
theorem dX11_init_125 : decode cX11_init 125 = .ok (.invokespecial 72, 3) := by decide +kernel
theorem dX11_init_128 : decode cX11_init 128 = .ok (.putfield 73, 3) := by decide +kernel
theorem dX11_init_131 : decode cX11_init 131 = .ok (.aload_n 0, 1) := by decide +kernel
theorem dX11_init_132 : decode cX11_init 132 = .ok (.bipush 7, 2) := by decide +kernel
theorem dX11_init_134 : decode cX11_init 134 = .ok (.newarray .int, 2) := by decide +kernel
theorem dX11_init_136 : decode cX11_init 136 = .ok (.putfield 77, 3) := by decide +kernel
theorem dX11_init_139 : decode cX11_init 139 = .ok (.aload_n 0, 1) := by decide +kernel
theorem dX11_init_140 : decode cX11_init 140 = .ok (.iconst (-1), 1) := by decide +kernel
theorem dX11_init_141 : decode cX11_init 141 = .ok (.putfield 81, 3) := by decide +kernel
theorem dX11_init_144 : decode cX11_init 144 = .ok (.return_, 1) := by decide +kernel
set_option maxRecDepth 20000 in
set_option maxHeartbeats 4000000 in
theorem iX11_init {E : EN} {k a : Nat} {sh : Sp} {mem : Mm} {Q : PQ} (hph : E.2.2.2.2.2.1 = false) (hL : sh.length = a + 1) (hsh : sh[a]? = some (11, 14)) (hd0 : mem a = dft 11) (h : ∀ m2 : Mm, okX m2 a → (∀ b : Int, b < a → m2 b = mem b) → Q none (sh ++ tlX) m2) : CG E mX11_init (k + 4) 602 24471 sh mem [aR a] Q := by
  refine CG_of rfl (Nat.le_of_ble_eq_true rfl) (aNs_c (aNr_R _) (fun _ q => nomatch q)) ?_
  show VG E mX11_init (k + 4) 602 24471 sh mem (0, 0) 0 [(0, aR a)] [] Q
  have hs0 : aSh sh (a : Int) 11 14 := ⟨a, rfl, hsh⟩
  have hl0 : sh.length = a + 1 := hL
  refine v_aload_n (pc := 0) dX11_init_0 0 rfl ?_
  refine v_objI (pc := 1) (a := (a : Int)) (by omega) dX11_init_1 loX11_5 (Nat.le_of_ble_eq_true rfl) ?_
  refine v_aload_n (pc := 4) dX11_init_4 0 rfl ?_
  refine w_new (pc := 5) (L := a + 1) hph hl0 dX11_init_5 clX11_11 ck8 in8 nz8 at2_8 1 10 rfl rfl (Nat.le_of_ble_eq_true rfl) (Nat.le_of_ble_eq_true rfl) (fun sh1 m1 s1 hl1 z1 u1 e1 f1 => ?_)
  refine v_dup (pc := 8) dX11_init_8 rfl ?_
  refine w_init (pc := 9) (mi' := mX8_init) (L := a + 1) (t := tlSx) (ok := okSx) dX11_init_9 (fun Q2 hq => iX8_init hph hl1 (getE s1 hl0) e1 hq) msX8_init iiX8_init rfl rfl lkX11_13 348 5700 rfl rfl ⟨(Nat.le_of_ble_eq_true rfl), (Nat.le_of_ble_eq_true rfl)⟩ (Nat.le_of_ble_eq_true rfl) hl1 lnSx (fun sh2 m2 s2 hl2 u2 k2 f2 => ?_)
  refine w_putf (pc := 12) 0 rfl hph dX11_init_12 flX11_14 ⟨_, _, rfl, Or.inr ⟨rfl, rfl, rfl, _, _, gd_tbl (ch2 (List.mem_of_getElem? (i := 166) rfl)) rfl, rfl, rfl⟩⟩ rfl (by decide) (fun q => nomatch q) (u2 _ _ _ (u1 _ _ _ hs0)) (fun m3 p3 q3 f3 => ?_)
  refine v_aload_n (pc := 15) dX11_init_15 0 rfl ?_
  refine v_aload_n (pc := 16) dX11_init_16 0 rfl ?_
  refine v_getf9 (pc := 17) (t := 2) (v := ((a + 1 : Nat) : Int)) dX11_init_17 flX11_14 rfl (u2 _ _ _ (u1 _ _ _ hs0)) (show m3 (a : Int) 0 = ((a + 1 : Nat) : Int) from (by rw [p3])) ?_
  refine v_getf9 (pc := 20) (t := 2) (v := ((a + 2 : Nat) : Int)) dX11_init_20 flX11_18 rfl (u2 _ _ _ z1) (show m3 ((a + 1 : Nat) : Int) 0 = ((a + 2 : Nat) : Int) from by rw [f3 _ (nA2 (k := 1) (by decide))]; exact (k2.1).trans (cB a 1 1)) ?_
  refine w_putf (pc := 23) 1 rfl hph dX11_init_23 flX11_22 ⟨_, _, rfl, Or.inr ⟨rfl, rfl, rfl, _, _, gd_tbl (ch2 (List.mem_of_getElem? (i := 167) rfl)) rfl, rfl, rfl⟩⟩ rfl (by decide) (fun q => nomatch q) (u2 _ _ _ (u1 _ _ _ hs0)) (fun m4 p4 q4 f4 => ?_)
  refine v_aload_n (pc := 26) dX11_init_26 0 rfl ?_
  refine v_aload_n (pc := 27) dX11_init_27 0 rfl ?_
  refine v_getf9 (pc := 28) (t := 2) (v := ((a + 1 : Nat) : Int)) dX11_init_28 flX11_14 rfl (u2 _ _ _ (u1 _ _ _ hs0)) (show m4 (a : Int) 0 = ((a + 1 : Nat) : Int) from (by rw [q4 _ (by decide), p3])) ?_
  refine v_getf9 (pc := 31) (t := 2) (v := ((a + 12 : Nat) : Int)) dX11_init_31 flX11_23 rfl (u2 _ _ _ z1) (show m4 ((a + 1 : Nat) : Int) 1 = ((a + 12 : Nat) : Int) from by rw [f4 _ (nA2 (k := 1) (by decide)), f3 _ (nA2 (k := 1) (by decide))]; exact (k2.2.1).trans (cB a 1 11)) ?_
  refine w_putf (pc := 34) 2 rfl hph dX11_init_34 flX11_27 ⟨_, _, rfl, Or.inr ⟨rfl, rfl, rfl, _, _, gd_tbl (ch2 (List.mem_of_getElem? (i := 168) rfl)) rfl, rfl, rfl⟩⟩ rfl (by decide) (fun q => nomatch q) (u2 _ _ _ (u1 _ _ _ hs0)) (fun m5 p5 q5 f5 => ?_)
  refine v_aload_n (pc := 37) dX11_init_37 0 rfl ?_
  refine w_new (pc := 38) (L := a + 349) hph hl2 dX11_init_38 clX11_28 ck1 in1 nz1 at2_1 349 5704 rfl rfl (Nat.le_of_ble_eq_true rfl) (Nat.le_of_ble_eq_true rfl) (fun sh3 m6 s3 hl3 z3 u3 e6 f6 => ?_)
  refine v_dup (pc := 41) dX11_init_41 rfl ?_
  refine w_init (pc := 42) (mi' := mX1_init) (L := a + 349) (t := tlFd) (ok := okFd) dX11_init_42 (fun Q2 hq => iX1_init hph hl3 (getE s3 hl2) e6 hq) msX1_init iiX1_init rfl rfl lkX11_30 352 5728 rfl rfl ⟨(Nat.le_of_ble_eq_true rfl), (Nat.le_of_ble_eq_true rfl)⟩ (Nat.le_of_ble_eq_true rfl) hl3 lnFd (fun sh4 m7 s4 hl4 u4 k7 f7 => ?_)
  refine w_putf (pc := 45) 3 rfl hph dX11_init_45 flX11_31 ⟨_, _, rfl, Or.inr ⟨rfl, rfl, rfl, _, _, gd_tbl (ch2 (List.mem_of_getElem? (i := 169) rfl)) rfl, rfl, rfl⟩⟩ rfl (by decide) (fun q => nomatch q) (u4 _ _ _ (u3 _ _ _ (u2 _ _ _ (u1 _ _ _ hs0)))) (fun m8 p8 q8 f8 => ?_)
  refine v_aload_n (pc := 48) dX11_init_48 0 rfl ?_
  refine w_new (pc := 49) (L := a + 353) hph hl4 dX11_init_49 clX11_35 ck3 in3 nz3 at2_3 353 5731 rfl rfl (Nat.le_of_ble_eq_true rfl) (Nat.le_of_ble_eq_true rfl) (fun sh5 m9 s5 hl5 z5 u5 e9 f9 => ?_)
  refine v_dup (pc := 52) dX11_init_52 rfl ?_
  refine w_init (pc := 53) (mi' := mX3_init) (L := a + 353) (t := tlLw) (ok := okLw) dX11_init_53 (fun Q2 hq => iX3_init hph hl5 (getE s5 hl4) e9 hq) msX3_init iiX3_init rfl rfl lkX11_37 408 11197 rfl rfl ⟨(Nat.le_of_ble_eq_true rfl), (Nat.le_of_ble_eq_true rfl)⟩ (Nat.le_of_ble_eq_true rfl) hl5 lnLw (fun sh6 m10 s6 hl6 u6 k10 f10 => ?_)
  refine w_putf (pc := 56) 4 rfl hph dX11_init_56 flX11_38 ⟨_, _, rfl, Or.inr ⟨rfl, rfl, rfl, _, _, gd_tbl (ch2 (List.mem_of_getElem? (i := 170) rfl)) rfl, rfl, rfl⟩⟩ rfl (by decide) (fun q => nomatch q) (u6 _ _ _ (u5 _ _ _ (u4 _ _ _ (u3 _ _ _ (u2 _ _ _ (u1 _ _ _ hs0)))))) (fun m11 p11 q11 f11 => ?_)
  refine v_aload_n (pc := 59) dX11_init_59 0 rfl ?_
  refine v_iconst (pc := 60) dX11_init_60 (by decide) ?_
  refine w_newq16 (pc := 61) (L := a + 409) hph hl6 dX11_init_61 clX11_42 (by decide) (by decide) 2 409 11199 rfl rfl rfl (Nat.le_of_ble_eq_true rfl) (Nat.le_of_ble_eq_true rfl) (fun sh7 m12 s7 hl7 z7 u7 f12 => ?_)
  refine v_dup (pc := 64) dX11_init_64 rfl ?_
  refine v_iconst (pc := 65) dX11_init_65 (by decide) ?_
  refine w_new (pc := 66) (L := a + 410) hph hl7 dX11_init_66 clX11_42 ck2 in2 nz2 at2_2 410 11203 rfl rfl (Nat.le_of_ble_eq_true rfl) (Nat.le_of_ble_eq_true rfl) (fun sh8 m13 s8 hl8 z8 u8 e13 f13 => ?_)
  refine v_dup (pc := 69) dX11_init_69 rfl ?_
  refine w_init (pc := 70) (mi' := mX2_init) (L := a + 410) (t := tlIm) (ok := okIm) dX11_init_70 (fun Q2 hq => iX2_init hph hl8 (getE s8 hl7) e13 hq) msX2_init iiX2_init rfl rfl lkX11_44 480 16863 rfl rfl ⟨(Nat.le_of_ble_eq_true rfl), (Nat.le_of_ble_eq_true rfl)⟩ (Nat.le_of_ble_eq_true rfl) hl8 lnIm (fun sh9 m14 s9 hl9 u9 k14 f14 => ?_)
  refine v_aast16 (pc := 73) (x := ((a + 410 : Nat) : Int)) (N := 4) dX11_init_73 (u9 _ _ _ (u8 _ _ _ z7)) (u9 _ _ _ z8) (by decide) (by decide) (Or.inr hph) ?_
  obtain ⟨m15, hm15⟩ : ∃ m9, m9 = aUp m14 ((a + 409 : Nat) : Int) 0 ((a + 410 : Nat) : Int) := ⟨_, rfl⟩
  rw [← hm15]
  have f15 : ∀ b : Int, b ≠ ((a + 409 : Nat) : Int) → m15 b = m14 b := fun b hb => by rw [hm15]; exact aUp_ne hb
  refine v_dup (pc := 74) dX11_init_74 rfl ?_
  refine v_iconst (pc := 75) dX11_init_75 (by decide) ?_
  refine w_new (pc := 76) (L := a + 481) hph hl9 dX11_init_76 clX11_42 ck2 in2 nz2 at2_2 481 16867 rfl rfl (Nat.le_of_ble_eq_true rfl) (Nat.le_of_ble_eq_true rfl) (fun sh10 m16 s10 hl10 z10 u10 e16 f16 => ?_)
  refine v_dup (pc := 79) dX11_init_79 rfl ?_
  refine w_init (pc := 80) (mi' := mX2_init) (L := a + 481) (t := tlIm) (ok := okIm) dX11_init_80 (fun Q2 hq => iX2_init hph hl10 (getE s10 hl9) e16 hq) msX2_init iiX2_init rfl rfl lkX11_44 551 22527 rfl rfl ⟨(Nat.le_of_ble_eq_true rfl), (Nat.le_of_ble_eq_true rfl)⟩ (Nat.le_of_ble_eq_true rfl) hl10 lnIm (fun sh11 m17 s11 hl11 u11 k17 f17 => ?_)
  refine v_aast16 (pc := 83) (x := ((a + 481 : Nat) : Int)) (N := 4) dX11_init_83 (u11 _ _ _ (u10 _ _ _ (u9 _ _ _ (u8 _ _ _ z7)))) (u11 _ _ _ z10) (by decide) (by decide) (Or.inr hph) ?_
  obtain ⟨m18, hm18⟩ : ∃ m9, m9 = aUp m17 ((a + 409 : Nat) : Int) 1 ((a + 481 : Nat) : Int) := ⟨_, rfl⟩
  rw [← hm18]
  have f18 : ∀ b : Int, b ≠ ((a + 409 : Nat) : Int) → m18 b = m17 b := fun b hb => by rw [hm18]; exact aUp_ne hb
  refine w_putf (pc := 84) 5 rfl hph dX11_init_84 flX11_45 ⟨_, _, rfl, Or.inr ⟨rfl, rfl, rfl, _, _, gd_tbl (ch2 (List.mem_of_getElem? (i := 171) rfl)) rfl, rfl, rfl⟩⟩ rfl (by decide) (fun q => nomatch q) (u11 _ _ _ (u10 _ _ _ (u9 _ _ _ (u8 _ _ _ (u7 _ _ _ (u6 _ _ _ (u5 _ _ _ (u4 _ _ _ (u3 _ _ _ (u2 _ _ _ (u1 _ _ _ hs0))))))))))) (fun m19 p19 q19 f19 => ?_)
  refine v_aload_n (pc := 87) dX11_init_87 0 rfl ?_
  refine w_new (pc := 88) (L := a + 552) hph hl11 dX11_init_88 clX11_49 ck5 in5 nz5 at2_5 552 22536 rfl rfl (Nat.le_of_ble_eq_true rfl) (Nat.le_of_ble_eq_true rfl) (fun sh12 m20 s12 hl12 z12 u12 e20 f20 => ?_)
  refine v_dup (pc := 91) dX11_init_91 rfl ?_
  refine w_init (pc := 92) (mi' := mX5_init) (L := a + 552) (t := tlPp) (ok := okPp) dX11_init_92 (fun Q2 hq => iX5_init hph hl12 (getE s12 hl11) e20 hq) msX5_init iiX5_init rfl rfl lkX11_51 575 22943 rfl rfl ⟨(Nat.le_of_ble_eq_true rfl), (Nat.le_of_ble_eq_true rfl)⟩ (Nat.le_of_ble_eq_true rfl) hl12 lnPp (fun sh13 m21 s13 hl13 u13 k21 f21 => ?_)
  refine w_putf (pc := 95) 6 rfl hph dX11_init_95 flX11_52 ⟨_, _, rfl, Or.inr ⟨rfl, rfl, rfl, _, _, gd_tbl (ch2 (List.mem_of_getElem? (i := 172) rfl)) rfl, rfl, rfl⟩⟩ rfl (by decide) (fun q => nomatch q) (u13 _ _ _ (u12 _ _ _ (u11 _ _ _ (u10 _ _ _ (u9 _ _ _ (u8 _ _ _ (u7 _ _ _ (u6 _ _ _ (u5 _ _ _ (u4 _ _ _ (u3 _ _ _ (u2 _ _ _ (u1 _ _ _ hs0))))))))))))) (fun m22 p22 q22 f22 => ?_)
  refine v_aload_n (pc := 98) dX11_init_98 0 rfl ?_
  refine w_new (pc := 99) (L := a + 576) hph hl13 dX11_init_99 clX11_56 ck4 in4 nz4 at2_4 576 22948 rfl rfl (Nat.le_of_ble_eq_true rfl) (Nat.le_of_ble_eq_true rfl) (fun sh14 m23 s14 hl14 z14 u14 e23 f23 => ?_)
  refine v_dup (pc := 102) dX11_init_102 rfl ?_
  refine w_init (pc := 103) (mi' := mX4_init) (L := a + 576) (t := tlPk) (ok := okPk) dX11_init_103 (fun Q2 hq => iX4_init hph hl14 (getE s14 hl13) e23 hq) msX4_init iiX4_init rfl rfl lkX11_58 579 22978 rfl rfl ⟨(Nat.le_of_ble_eq_true rfl), (Nat.le_of_ble_eq_true rfl)⟩ (Nat.le_of_ble_eq_true rfl) hl14 lnPk (fun sh15 m24 s15 hl15 u15 k24 f24 => ?_)
  refine w_putf (pc := 106) 7 rfl hph dX11_init_106 flX11_59 ⟨_, _, rfl, Or.inr ⟨rfl, rfl, rfl, _, _, gd_tbl (ch2 (List.mem_of_getElem? (i := 173) rfl)) rfl, rfl, rfl⟩⟩ rfl (by decide) (fun q => nomatch q) (u15 _ _ _ (u14 _ _ _ (u13 _ _ _ (u12 _ _ _ (u11 _ _ _ (u10 _ _ _ (u9 _ _ _ (u8 _ _ _ (u7 _ _ _ (u6 _ _ _ (u5 _ _ _ (u4 _ _ _ (u3 _ _ _ (u2 _ _ _ (u1 _ _ _ hs0))))))))))))))) (fun m25 p25 q25 f25 => ?_)
  refine v_aload_n (pc := 109) dX11_init_109 0 rfl ?_
  refine w_new (pc := 110) (L := a + 580) hph hl15 dX11_init_110 clX11_63 ck0 in0 nz0 at2_0 580 22980 rfl rfl (Nat.le_of_ble_eq_true rfl) (Nat.le_of_ble_eq_true rfl) (fun sh16 m26 s16 hl16 z16 u16 e26 f26 => ?_)
  refine v_dup (pc := 113) dX11_init_113 rfl ?_
  refine w_init (pc := 114) (mi' := mX0_init) (L := a + 580) (t := tlDr) (ok := okDr) dX11_init_114 (fun Q2 hq => iX0_init hph hl16 (getE s16 hl15) e26 hq) msX0_init iiX0_init rfl rfl lkX11_65 590 23143 rfl rfl ⟨(Nat.le_of_ble_eq_true rfl), (Nat.le_of_ble_eq_true rfl)⟩ (Nat.le_of_ble_eq_true rfl) hl16 lnDr (fun sh17 m27 s17 hl17 u17 k27 f27 => ?_)
  refine w_putf (pc := 117) 8 rfl hph dX11_init_117 flX11_66 ⟨_, _, rfl, Or.inr ⟨rfl, rfl, rfl, _, _, gd_tbl (ch2 (List.mem_of_getElem? (i := 174) rfl)) rfl, rfl, rfl⟩⟩ rfl (by decide) (fun q => nomatch q) (u17 _ _ _ (u16 _ _ _ (u15 _ _ _ (u14 _ _ _ (u13 _ _ _ (u12 _ _ _ (u11 _ _ _ (u10 _ _ _ (u9 _ _ _ (u8 _ _ _ (u7 _ _ _ (u6 _ _ _ (u5 _ _ _ (u4 _ _ _ (u3 _ _ _ (u2 _ _ _ (u1 _ _ _ hs0))))))))))))))))) (fun m28 p28 q28 f28 => ?_)
  refine v_aload_n (pc := 120) dX11_init_120 0 rfl ?_
  refine w_new (pc := 121) (L := a + 591) hph hl17 dX11_init_121 clX11_70 ck7 in7 nz7 at2_7 591 23154 rfl rfl (Nat.le_of_ble_eq_true rfl) (Nat.le_of_ble_eq_true rfl) (fun sh18 m29 s18 hl18 z18 u18 e29 f29 => ?_)
  refine v_dup (pc := 124) dX11_init_124 rfl ?_
  refine w_init (pc := 125) (mi' := mX7_init) (L := a + 591) (t := tlRd) (ok := okRd) dX11_init_125 (fun Q2 hq => iX7_init hph hl18 (getE s18 hl17) e29 hq) msX7_init iiX7_init rfl rfl lkX11_72 601 24464 rfl rfl ⟨(Nat.le_of_ble_eq_true rfl), (Nat.le_of_ble_eq_true rfl)⟩ (Nat.le_of_ble_eq_true rfl) hl18 lnRd (fun sh19 m30 s19 hl19 u19 k30 f30 => ?_)
  refine w_putf (pc := 128) 9 rfl hph dX11_init_128 flX11_73 ⟨_, _, rfl, Or.inr ⟨rfl, rfl, rfl, _, _, gd_tbl (ch2 (List.mem_of_getElem? (i := 175) rfl)) rfl, rfl, rfl⟩⟩ rfl (by decide) (fun q => nomatch q) (u19 _ _ _ (u18 _ _ _ (u17 _ _ _ (u16 _ _ _ (u15 _ _ _ (u14 _ _ _ (u13 _ _ _ (u12 _ _ _ (u11 _ _ _ (u10 _ _ _ (u9 _ _ _ (u8 _ _ _ (u7 _ _ _ (u6 _ _ _ (u5 _ _ _ (u4 _ _ _ (u3 _ _ _ (u2 _ _ _ (u1 _ _ _ hs0))))))))))))))))))) (fun m31 p31 q31 f31 => ?_)
  refine v_aload_n (pc := 131) dX11_init_131 0 rfl ?_
  refine v_bipush (pc := 132) dX11_init_132 (by decide) ?_
  refine w_newa13 (pc := 134) (L := a + 602) hph hl19 dX11_init_134 (by decide) (by decide) 7 602 24471 rfl rfl rfl (Nat.le_of_ble_eq_true rfl) (Nat.le_of_ble_eq_true rfl) (fun sh20 m32 s20 hl20 z20 u20 a32 f32 => ?_)
  refine w_putf (pc := 136) 10 rfl hph dX11_init_136 flX11_77 ⟨_, _, rfl, Or.inr ⟨rfl, rfl, rfl, _, _, gd_tbl (ch2 (List.mem_of_getElem? (i := 176) rfl)) rfl, rfl, rfl⟩⟩ rfl (by decide) (fun q => nomatch q) (u20 _ _ _ (u19 _ _ _ (u18 _ _ _ (u17 _ _ _ (u16 _ _ _ (u15 _ _ _ (u14 _ _ _ (u13 _ _ _ (u12 _ _ _ (u11 _ _ _ (u10 _ _ _ (u9 _ _ _ (u8 _ _ _ (u7 _ _ _ (u6 _ _ _ (u5 _ _ _ (u4 _ _ _ (u3 _ _ _ (u2 _ _ _ (u1 _ _ _ hs0)))))))))))))))))))) (fun m33 p33 q33 f33 => ?_)
  refine v_aload_n (pc := 139) dX11_init_139 0 rfl ?_
  refine v_iconst (pc := 140) dX11_init_140 (by decide) ?_
  refine w_putf (pc := 141) 12 rfl hph dX11_init_141 flX11_81 ⟨_, _, rfl, Or.inl rfl⟩ rfl (by decide) (fun q => nomatch q) (u20 _ _ _ (u19 _ _ _ (u18 _ _ _ (u17 _ _ _ (u16 _ _ _ (u15 _ _ _ (u14 _ _ _ (u13 _ _ _ (u12 _ _ _ (u11 _ _ _ (u10 _ _ _ (u9 _ _ _ (u8 _ _ _ (u7 _ _ _ (u6 _ _ _ (u5 _ _ _ (u4 _ _ _ (u3 _ _ _ (u2 _ _ _ (u1 _ _ _ hs0)))))))))))))))))))) (fun m34 p34 q34 f34 => ?_)
  have e9 : sh20 = sh ++ tlX := by
    rw [s20, s19, s18, s17, s16, s15, s14, s13, s12, s11, s10, s9, s8, s7, s6, s5, s4, s3, s2, s1]
    simp only [List.append_assoc]
    rfl
  rw [e9]
  refine v_vret (pc := 144) (st := []) dX11_init_144 rfl rfl (Nat.le_of_ble_eq_true rfl) (h m34 ?_ ?_)
  · exact ⟨((show m34 (a : Int) 0 = ((a + 1 : Nat) : Int) from (by rw [q34 _ (by decide), q33 _ (by decide), f32 _ (nA (k := 602) (by decide)), q31 _ (by decide), f30 _ (lA 590), f29 _ (nA (k := 591) (by decide)), q28 _ (by decide), f27 _ (lA 579), f26 _ (nA (k := 580) (by decide)), q25 _ (by decide), f24 _ (lA 575), f23 _ (nA (k := 576) (by decide)), q22 _ (by decide), f21 _ (lA 551), f20 _ (nA (k := 552) (by decide)), q19 _ (by decide), f18 _ (nA (k := 409) (by decide)), f17 _ (lA 480), f16 _ (nA (k := 481) (by decide)), f15 _ (nA (k := 409) (by decide)), f14 _ (lA 409), f13 _ (nA (k := 410) (by decide)), f12 _ (nA (k := 409) (by decide)), q11 _ (by decide), f10 _ (lA 352), f9 _ (nA (k := 353) (by decide)), q8 _ (by decide), f7 _ (lA 348), f6 _ (nA (k := 349) (by decide)), q5 _ (by decide), q4 _ (by decide), p3])).trans (cA a 1)), ((show m34 (a : Int) 1 = ((a + 2 : Nat) : Int) from (by rw [q34 _ (by decide), q33 _ (by decide), f32 _ (nA (k := 602) (by decide)), q31 _ (by decide), f30 _ (lA 590), f29 _ (nA (k := 591) (by decide)), q28 _ (by decide), f27 _ (lA 579), f26 _ (nA (k := 580) (by decide)), q25 _ (by decide), f24 _ (lA 575), f23 _ (nA (k := 576) (by decide)), q22 _ (by decide), f21 _ (lA 551), f20 _ (nA (k := 552) (by decide)), q19 _ (by decide), f18 _ (nA (k := 409) (by decide)), f17 _ (lA 480), f16 _ (nA (k := 481) (by decide)), f15 _ (nA (k := 409) (by decide)), f14 _ (lA 409), f13 _ (nA (k := 410) (by decide)), f12 _ (nA (k := 409) (by decide)), q11 _ (by decide), f10 _ (lA 352), f9 _ (nA (k := 353) (by decide)), q8 _ (by decide), f7 _ (lA 348), f6 _ (nA (k := 349) (by decide)), q5 _ (by decide), p4])).trans (cA a 2)), ((show m34 (a : Int) 2 = ((a + 12 : Nat) : Int) from (by rw [q34 _ (by decide), q33 _ (by decide), f32 _ (nA (k := 602) (by decide)), q31 _ (by decide), f30 _ (lA 590), f29 _ (nA (k := 591) (by decide)), q28 _ (by decide), f27 _ (lA 579), f26 _ (nA (k := 580) (by decide)), q25 _ (by decide), f24 _ (lA 575), f23 _ (nA (k := 576) (by decide)), q22 _ (by decide), f21 _ (lA 551), f20 _ (nA (k := 552) (by decide)), q19 _ (by decide), f18 _ (nA (k := 409) (by decide)), f17 _ (lA 480), f16 _ (nA (k := 481) (by decide)), f15 _ (nA (k := 409) (by decide)), f14 _ (lA 409), f13 _ (nA (k := 410) (by decide)), f12 _ (nA (k := 409) (by decide)), q11 _ (by decide), f10 _ (lA 352), f9 _ (nA (k := 353) (by decide)), q8 _ (by decide), f7 _ (lA 348), f6 _ (nA (k := 349) (by decide)), p5])).trans (cA a 12)), ((show m34 (a : Int) 3 = ((a + 349 : Nat) : Int) from (by rw [q34 _ (by decide), q33 _ (by decide), f32 _ (nA (k := 602) (by decide)), q31 _ (by decide), f30 _ (lA 590), f29 _ (nA (k := 591) (by decide)), q28 _ (by decide), f27 _ (lA 579), f26 _ (nA (k := 580) (by decide)), q25 _ (by decide), f24 _ (lA 575), f23 _ (nA (k := 576) (by decide)), q22 _ (by decide), f21 _ (lA 551), f20 _ (nA (k := 552) (by decide)), q19 _ (by decide), f18 _ (nA (k := 409) (by decide)), f17 _ (lA 480), f16 _ (nA (k := 481) (by decide)), f15 _ (nA (k := 409) (by decide)), f14 _ (lA 409), f13 _ (nA (k := 410) (by decide)), f12 _ (nA (k := 409) (by decide)), q11 _ (by decide), f10 _ (lA 352), f9 _ (nA (k := 353) (by decide)), p8])).trans (cA a 349)), ((show m34 (a : Int) 4 = ((a + 353 : Nat) : Int) from (by rw [q34 _ (by decide), q33 _ (by decide), f32 _ (nA (k := 602) (by decide)), q31 _ (by decide), f30 _ (lA 590), f29 _ (nA (k := 591) (by decide)), q28 _ (by decide), f27 _ (lA 579), f26 _ (nA (k := 580) (by decide)), q25 _ (by decide), f24 _ (lA 575), f23 _ (nA (k := 576) (by decide)), q22 _ (by decide), f21 _ (lA 551), f20 _ (nA (k := 552) (by decide)), q19 _ (by decide), f18 _ (nA (k := 409) (by decide)), f17 _ (lA 480), f16 _ (nA (k := 481) (by decide)), f15 _ (nA (k := 409) (by decide)), f14 _ (lA 409), f13 _ (nA (k := 410) (by decide)), f12 _ (nA (k := 409) (by decide)), p11])).trans (cA a 353)), ((show m34 (a : Int) 5 = ((a + 409 : Nat) : Int) from (by rw [q34 _ (by decide), q33 _ (by decide), f32 _ (nA (k := 602) (by decide)), q31 _ (by decide), f30 _ (lA 590), f29 _ (nA (k := 591) (by decide)), q28 _ (by decide), f27 _ (lA 579), f26 _ (nA (k := 580) (by decide)), q25 _ (by decide), f24 _ (lA 575), f23 _ (nA (k := 576) (by decide)), q22 _ (by decide), f21 _ (lA 551), f20 _ (nA (k := 552) (by decide)), p19])).trans (cA a 409)), ((show m34 (a : Int) 6 = ((a + 552 : Nat) : Int) from (by rw [q34 _ (by decide), q33 _ (by decide), f32 _ (nA (k := 602) (by decide)), q31 _ (by decide), f30 _ (lA 590), f29 _ (nA (k := 591) (by decide)), q28 _ (by decide), f27 _ (lA 579), f26 _ (nA (k := 580) (by decide)), q25 _ (by decide), f24 _ (lA 575), f23 _ (nA (k := 576) (by decide)), p22])).trans (cA a 552)), ((show m34 (a : Int) 7 = ((a + 576 : Nat) : Int) from (by rw [q34 _ (by decide), q33 _ (by decide), f32 _ (nA (k := 602) (by decide)), q31 _ (by decide), f30 _ (lA 590), f29 _ (nA (k := 591) (by decide)), q28 _ (by decide), f27 _ (lA 579), f26 _ (nA (k := 580) (by decide)), p25])).trans (cA a 576)), ((show m34 (a : Int) 8 = ((a + 580 : Nat) : Int) from (by rw [q34 _ (by decide), q33 _ (by decide), f32 _ (nA (k := 602) (by decide)), q31 _ (by decide), f30 _ (lA 590), f29 _ (nA (k := 591) (by decide)), p28])).trans (cA a 580)), ((show m34 (a : Int) 9 = ((a + 591 : Nat) : Int) from (by rw [q34 _ (by decide), q33 _ (by decide), f32 _ (nA (k := 602) (by decide)), p31])).trans (cA a 591)), ((show m34 (a : Int) 10 = ((a + 602 : Nat) : Int) from (by rw [q34 _ (by decide), p33])).trans (cA a 602)), (by rw [q34 _ (by decide), q33 _ (by decide), f32 _ (nA (k := 602) (by decide)), q31 _ (by decide), f30 _ (lA 590), f29 _ (nA (k := 591) (by decide)), q28 _ (by decide), f27 _ (lA 579), f26 _ (nA (k := 580) (by decide)), q25 _ (by decide), f24 _ (lA 575), f23 _ (nA (k := 576) (by decide)), q22 _ (by decide), f21 _ (lA 551), f20 _ (nA (k := 552) (by decide)), q19 _ (by decide), f18 _ (nA (k := 409) (by decide)), f17 _ (lA 480), f16 _ (nA (k := 481) (by decide)), f15 _ (nA (k := 409) (by decide)), f14 _ (lA 409), f13 _ (nA (k := 410) (by decide)), f12 _ (nA (k := 409) (by decide)), q11 _ (by decide), f10 _ (lA 352), f9 _ (nA (k := 353) (by decide)), q8 _ (by decide), f7 _ (lA 348), f6 _ (nA (k := 349) (by decide)), q5 _ (by decide), q4 _ (by decide), q3 _ (by decide), f2 _ (lA 0), f1 _ (nA (k := 1) (by decide)), hd0]; rfl), (by rw [p34]), (by rw [q34 _ (by decide), q33 _ (by decide), f32 _ (nA (k := 602) (by decide)), q31 _ (by decide), f30 _ (lA 590), f29 _ (nA (k := 591) (by decide)), q28 _ (by decide), f27 _ (lA 579), f26 _ (nA (k := 580) (by decide)), q25 _ (by decide), f24 _ (lA 575), f23 _ (nA (k := 576) (by decide)), q22 _ (by decide), f21 _ (lA 551), f20 _ (nA (k := 552) (by decide)), q19 _ (by decide), f18 _ (nA (k := 409) (by decide)), f17 _ (lA 480), f16 _ (nA (k := 481) (by decide)), f15 _ (nA (k := 409) (by decide)), f14 _ (lA 409), f13 _ (nA (k := 410) (by decide)), f12 _ (nA (k := 409) (by decide)), q11 _ (by decide), f10 _ (lA 352), f9 _ (nA (k := 353) (by decide)), q8 _ (by decide), f7 _ (lA 348), f6 _ (nA (k := 349) (by decide)), q5 _ (by decide), q4 _ (by decide), q3 _ (by decide), f2 _ (lA 0), f1 _ (nA (k := 1) (by decide)), hd0]; rfl), ((cA a 1) ▸ okSx_c (fun b hb1 hb2 => by rw [f34 b (b0 (j := 1) hb1 (by decide)), f33 b (b0 (j := 1) hb1 (by decide)), f32 b (bN (j := 1) (s := 348) (k := 602) hb1 hb2 (by decide)), f31 b (b0 (j := 1) hb1 (by decide)), f30 b (bL (j := 1) (s := 348) (k := 591) hb1 hb2 (by decide)), f29 b (bN (j := 1) (s := 348) (k := 591) hb1 hb2 (by decide)), f28 b (b0 (j := 1) hb1 (by decide)), f27 b (bL (j := 1) (s := 348) (k := 580) hb1 hb2 (by decide)), f26 b (bN (j := 1) (s := 348) (k := 580) hb1 hb2 (by decide)), f25 b (b0 (j := 1) hb1 (by decide)), f24 b (bL (j := 1) (s := 348) (k := 576) hb1 hb2 (by decide)), f23 b (bN (j := 1) (s := 348) (k := 576) hb1 hb2 (by decide)), f22 b (b0 (j := 1) hb1 (by decide)), f21 b (bL (j := 1) (s := 348) (k := 552) hb1 hb2 (by decide)), f20 b (bN (j := 1) (s := 348) (k := 552) hb1 hb2 (by decide)), f19 b (b0 (j := 1) hb1 (by decide)), f18 b (bN (j := 1) (s := 348) (k := 409) hb1 hb2 (by decide)), f17 b (bL (j := 1) (s := 348) (k := 481) hb1 hb2 (by decide)), f16 b (bN (j := 1) (s := 348) (k := 481) hb1 hb2 (by decide)), f15 b (bN (j := 1) (s := 348) (k := 409) hb1 hb2 (by decide)), f14 b (bL (j := 1) (s := 348) (k := 410) hb1 hb2 (by decide)), f13 b (bN (j := 1) (s := 348) (k := 410) hb1 hb2 (by decide)), f12 b (bN (j := 1) (s := 348) (k := 409) hb1 hb2 (by decide)), f11 b (b0 (j := 1) hb1 (by decide)), f10 b (bL (j := 1) (s := 348) (k := 353) hb1 hb2 (by decide)), f9 b (bN (j := 1) (s := 348) (k := 353) hb1 hb2 (by decide)), f8 b (b0 (j := 1) hb1 (by decide)), f7 b (bL (j := 1) (s := 348) (k := 349) hb1 hb2 (by decide)), f6 b (bN (j := 1) (s := 348) (k := 349) hb1 hb2 (by decide)), f5 b (b0 (j := 1) hb1 (by decide)), f4 b (b0 (j := 1) hb1 (by decide)), f3 b (b0 (j := 1) hb1 (by decide))]) k2), ((cA a 349) ▸ okFd_c (fun b hb1 hb2 => by rw [f34 b (b0 (j := 349) hb1 (by decide)), f33 b (b0 (j := 349) hb1 (by decide)), f32 b (bN (j := 349) (s := 4) (k := 602) hb1 hb2 (by decide)), f31 b (b0 (j := 349) hb1 (by decide)), f30 b (bL (j := 349) (s := 4) (k := 591) hb1 hb2 (by decide)), f29 b (bN (j := 349) (s := 4) (k := 591) hb1 hb2 (by decide)), f28 b (b0 (j := 349) hb1 (by decide)), f27 b (bL (j := 349) (s := 4) (k := 580) hb1 hb2 (by decide)), f26 b (bN (j := 349) (s := 4) (k := 580) hb1 hb2 (by decide)), f25 b (b0 (j := 349) hb1 (by decide)), f24 b (bL (j := 349) (s := 4) (k := 576) hb1 hb2 (by decide)), f23 b (bN (j := 349) (s := 4) (k := 576) hb1 hb2 (by decide)), f22 b (b0 (j := 349) hb1 (by decide)), f21 b (bL (j := 349) (s := 4) (k := 552) hb1 hb2 (by decide)), f20 b (bN (j := 349) (s := 4) (k := 552) hb1 hb2 (by decide)), f19 b (b0 (j := 349) hb1 (by decide)), f18 b (bN (j := 349) (s := 4) (k := 409) hb1 hb2 (by decide)), f17 b (bL (j := 349) (s := 4) (k := 481) hb1 hb2 (by decide)), f16 b (bN (j := 349) (s := 4) (k := 481) hb1 hb2 (by decide)), f15 b (bN (j := 349) (s := 4) (k := 409) hb1 hb2 (by decide)), f14 b (bL (j := 349) (s := 4) (k := 410) hb1 hb2 (by decide)), f13 b (bN (j := 349) (s := 4) (k := 410) hb1 hb2 (by decide)), f12 b (bN (j := 349) (s := 4) (k := 409) hb1 hb2 (by decide)), f11 b (b0 (j := 349) hb1 (by decide)), f10 b (bL (j := 349) (s := 4) (k := 353) hb1 hb2 (by decide)), f9 b (bN (j := 349) (s := 4) (k := 353) hb1 hb2 (by decide)), f8 b (b0 (j := 349) hb1 (by decide))]) k7), ((cA a 353) ▸ okLw_c (fun b hb1 hb2 => by rw [f34 b (b0 (j := 353) hb1 (by decide)), f33 b (b0 (j := 353) hb1 (by decide)), f32 b (bN (j := 353) (s := 56) (k := 602) hb1 hb2 (by decide)), f31 b (b0 (j := 353) hb1 (by decide)), f30 b (bL (j := 353) (s := 56) (k := 591) hb1 hb2 (by decide)), f29 b (bN (j := 353) (s := 56) (k := 591) hb1 hb2 (by decide)), f28 b (b0 (j := 353) hb1 (by decide)), f27 b (bL (j := 353) (s := 56) (k := 580) hb1 hb2 (by decide)), f26 b (bN (j := 353) (s := 56) (k := 580) hb1 hb2 (by decide)), f25 b (b0 (j := 353) hb1 (by decide)), f24 b (bL (j := 353) (s := 56) (k := 576) hb1 hb2 (by decide)), f23 b (bN (j := 353) (s := 56) (k := 576) hb1 hb2 (by decide)), f22 b (b0 (j := 353) hb1 (by decide)), f21 b (bL (j := 353) (s := 56) (k := 552) hb1 hb2 (by decide)), f20 b (bN (j := 353) (s := 56) (k := 552) hb1 hb2 (by decide)), f19 b (b0 (j := 353) hb1 (by decide)), f18 b (bN (j := 353) (s := 56) (k := 409) hb1 hb2 (by decide)), f17 b (bL (j := 353) (s := 56) (k := 481) hb1 hb2 (by decide)), f16 b (bN (j := 353) (s := 56) (k := 481) hb1 hb2 (by decide)), f15 b (bN (j := 353) (s := 56) (k := 409) hb1 hb2 (by decide)), f14 b (bL (j := 353) (s := 56) (k := 410) hb1 hb2 (by decide)), f13 b (bN (j := 353) (s := 56) (k := 410) hb1 hb2 (by decide)), f12 b (bN (j := 353) (s := 56) (k := 409) hb1 hb2 (by decide)), f11 b (b0 (j := 353) hb1 (by decide))]) k10), (cA a 409) ▸ (show m34 ((a + 409 : Nat) : Int) 0 = _ from by rw [f34 _ (nA2 (k := 409) (by decide)), f33 _ (nA2 (k := 409) (by decide)), f32 _ (nB (j := 409) (k := 602) (by decide)), f31 _ (nA2 (k := 409) (by decide)), f30 _ (lB (j := 409) (k := 591) (by decide)), f29 _ (nB (j := 409) (k := 591) (by decide)), f28 _ (nA2 (k := 409) (by decide)), f27 _ (lB (j := 409) (k := 580) (by decide)), f26 _ (nB (j := 409) (k := 580) (by decide)), f25 _ (nA2 (k := 409) (by decide)), f24 _ (lB (j := 409) (k := 576) (by decide)), f23 _ (nB (j := 409) (k := 576) (by decide)), f22 _ (nA2 (k := 409) (by decide)), f21 _ (lB (j := 409) (k := 552) (by decide)), f20 _ (nB (j := 409) (k := 552) (by decide)), f19 _ (nA2 (k := 409) (by decide)), hm18, aUp_ri (by decide), f17 _ (lB (j := 409) (k := 481) (by decide)), f16 _ (nB (j := 409) (k := 481) (by decide)), hm15, aUp_re]; exact cA a 410), (cA a 409) ▸ (show m34 ((a + 409 : Nat) : Int) 1 = _ from by rw [f34 _ (nA2 (k := 409) (by decide)), f33 _ (nA2 (k := 409) (by decide)), f32 _ (nB (j := 409) (k := 602) (by decide)), f31 _ (nA2 (k := 409) (by decide)), f30 _ (lB (j := 409) (k := 591) (by decide)), f29 _ (nB (j := 409) (k := 591) (by decide)), f28 _ (nA2 (k := 409) (by decide)), f27 _ (lB (j := 409) (k := 580) (by decide)), f26 _ (nB (j := 409) (k := 580) (by decide)), f25 _ (nA2 (k := 409) (by decide)), f24 _ (lB (j := 409) (k := 576) (by decide)), f23 _ (nB (j := 409) (k := 576) (by decide)), f22 _ (nA2 (k := 409) (by decide)), f21 _ (lB (j := 409) (k := 552) (by decide)), f20 _ (nB (j := 409) (k := 552) (by decide)), f19 _ (nA2 (k := 409) (by decide)), hm18, aUp_re]; exact cA a 481), ((cA a 410) ▸ okIm_c (fun b hb1 hb2 => by rw [f34 b (b0 (j := 410) hb1 (by decide)), f33 b (b0 (j := 410) hb1 (by decide)), f32 b (bN (j := 410) (s := 71) (k := 602) hb1 hb2 (by decide)), f31 b (b0 (j := 410) hb1 (by decide)), f30 b (bL (j := 410) (s := 71) (k := 591) hb1 hb2 (by decide)), f29 b (bN (j := 410) (s := 71) (k := 591) hb1 hb2 (by decide)), f28 b (b0 (j := 410) hb1 (by decide)), f27 b (bL (j := 410) (s := 71) (k := 580) hb1 hb2 (by decide)), f26 b (bN (j := 410) (s := 71) (k := 580) hb1 hb2 (by decide)), f25 b (b0 (j := 410) hb1 (by decide)), f24 b (bL (j := 410) (s := 71) (k := 576) hb1 hb2 (by decide)), f23 b (bN (j := 410) (s := 71) (k := 576) hb1 hb2 (by decide)), f22 b (b0 (j := 410) hb1 (by decide)), f21 b (bL (j := 410) (s := 71) (k := 552) hb1 hb2 (by decide)), f20 b (bN (j := 410) (s := 71) (k := 552) hb1 hb2 (by decide)), f19 b (b0 (j := 410) hb1 (by decide)), f18 b (bN (j := 410) (s := 71) (k := 409) hb1 hb2 (by decide)), f17 b (bL (j := 410) (s := 71) (k := 481) hb1 hb2 (by decide)), f16 b (bN (j := 410) (s := 71) (k := 481) hb1 hb2 (by decide)), f15 b (bN (j := 410) (s := 71) (k := 409) hb1 hb2 (by decide))]) k14), ((cA a 481) ▸ okIm_c (fun b hb1 hb2 => by rw [f34 b (b0 (j := 481) hb1 (by decide)), f33 b (b0 (j := 481) hb1 (by decide)), f32 b (bN (j := 481) (s := 71) (k := 602) hb1 hb2 (by decide)), f31 b (b0 (j := 481) hb1 (by decide)), f30 b (bL (j := 481) (s := 71) (k := 591) hb1 hb2 (by decide)), f29 b (bN (j := 481) (s := 71) (k := 591) hb1 hb2 (by decide)), f28 b (b0 (j := 481) hb1 (by decide)), f27 b (bL (j := 481) (s := 71) (k := 580) hb1 hb2 (by decide)), f26 b (bN (j := 481) (s := 71) (k := 580) hb1 hb2 (by decide)), f25 b (b0 (j := 481) hb1 (by decide)), f24 b (bL (j := 481) (s := 71) (k := 576) hb1 hb2 (by decide)), f23 b (bN (j := 481) (s := 71) (k := 576) hb1 hb2 (by decide)), f22 b (b0 (j := 481) hb1 (by decide)), f21 b (bL (j := 481) (s := 71) (k := 552) hb1 hb2 (by decide)), f20 b (bN (j := 481) (s := 71) (k := 552) hb1 hb2 (by decide)), f19 b (b0 (j := 481) hb1 (by decide)), f18 b (bN (j := 481) (s := 71) (k := 409) hb1 hb2 (by decide))]) k17), ((cA a 552) ▸ okPp_c (fun b hb1 hb2 => by rw [f34 b (b0 (j := 552) hb1 (by decide)), f33 b (b0 (j := 552) hb1 (by decide)), f32 b (bN (j := 552) (s := 24) (k := 602) hb1 hb2 (by decide)), f31 b (b0 (j := 552) hb1 (by decide)), f30 b (bL (j := 552) (s := 24) (k := 591) hb1 hb2 (by decide)), f29 b (bN (j := 552) (s := 24) (k := 591) hb1 hb2 (by decide)), f28 b (b0 (j := 552) hb1 (by decide)), f27 b (bL (j := 552) (s := 24) (k := 580) hb1 hb2 (by decide)), f26 b (bN (j := 552) (s := 24) (k := 580) hb1 hb2 (by decide)), f25 b (b0 (j := 552) hb1 (by decide)), f24 b (bL (j := 552) (s := 24) (k := 576) hb1 hb2 (by decide)), f23 b (bN (j := 552) (s := 24) (k := 576) hb1 hb2 (by decide)), f22 b (b0 (j := 552) hb1 (by decide))]) k21), ((cA a 576) ▸ okPk_c (fun b hb1 hb2 => by rw [f34 b (b0 (j := 576) hb1 (by decide)), f33 b (b0 (j := 576) hb1 (by decide)), f32 b (bN (j := 576) (s := 4) (k := 602) hb1 hb2 (by decide)), f31 b (b0 (j := 576) hb1 (by decide)), f30 b (bL (j := 576) (s := 4) (k := 591) hb1 hb2 (by decide)), f29 b (bN (j := 576) (s := 4) (k := 591) hb1 hb2 (by decide)), f28 b (b0 (j := 576) hb1 (by decide)), f27 b (bL (j := 576) (s := 4) (k := 580) hb1 hb2 (by decide)), f26 b (bN (j := 576) (s := 4) (k := 580) hb1 hb2 (by decide)), f25 b (b0 (j := 576) hb1 (by decide))]) k24), ((cA a 580) ▸ okDr_c (fun b hb1 hb2 => by rw [f34 b (b0 (j := 580) hb1 (by decide)), f33 b (b0 (j := 580) hb1 (by decide)), f32 b (bN (j := 580) (s := 11) (k := 602) hb1 hb2 (by decide)), f31 b (b0 (j := 580) hb1 (by decide)), f30 b (bL (j := 580) (s := 11) (k := 591) hb1 hb2 (by decide)), f29 b (bN (j := 580) (s := 11) (k := 591) hb1 hb2 (by decide)), f28 b (b0 (j := 580) hb1 (by decide))]) k27), ((cA a 591) ▸ okRd_c (fun b hb1 hb2 => by rw [f34 b (b0 (j := 591) hb1 (by decide)), f33 b (b0 (j := 591) hb1 (by decide)), f32 b (bN (j := 591) (s := 11) (k := 602) hb1 hb2 (by decide)), f31 b (b0 (j := 591) hb1 (by decide))]) k30), ((cA a 602) ▸ okA_c (by rw [f34 _ (nA2 (k := 602) (by decide)), f33 _ (nA2 (k := 602) (by decide))]) a32)⟩
  · intro b hb
    rw [f34 b (fr0 hb), f33 b (fr0 hb), f32 b (fr hb), f31 b (fr0 hb), f30 b (frl hb), f29 b (fr hb), f28 b (fr0 hb), f27 b (frl hb), f26 b (fr hb), f25 b (fr0 hb), f24 b (frl hb), f23 b (fr hb), f22 b (fr0 hb), f21 b (frl hb), f20 b (fr hb), f19 b (fr0 hb), f18 b (fr hb), f17 b (frl hb), f16 b (fr hb), f15 b (fr hb), f14 b (frl hb), f13 b (fr hb), f12 b (fr hb), f11 b (fr0 hb), f10 b (frl hb), f9 b (fr hb), f8 b (fr0 hb), f7 b (frl hb), f6 b (fr hb), f5 b (fr0 hb), f4 b (fr0 hb), f3 b (fr0 hb), f2 b (frl hb), f1 b (fr hb)]
