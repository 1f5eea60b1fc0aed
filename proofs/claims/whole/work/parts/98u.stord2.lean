-- the pair orders(), both sides
theorem scr_C {o i : Int} (h : ¬ scr o i) : ¬ isTx (o - 8) ∧ ¬ (o = 1 ∧ (i = 5 ∨ i = 7 ∨ i = 8)) ∧ ¬ (175 ≤ o ∧ o ≤ 184) ∧ ¬ (188 ≤ o ∧ o ≤ 348) ∧ ¬ (o = 185 ∧ i = 2) ∧ o ≠ 187 ∧ ¬ (593 ≤ o ∧ o ≤ 601) := by
  unfold scr at h
  exact ⟨fun z => h (Or.inl z), fun z => h (by omega), fun z => h (by omega), fun z => h (by omega), fun z => h (by omega), fun z => h (by omega), fun z => h (by omega)⟩
theorem st_orders {E : EN} (hE : Ep E) (hSt : aStr E) : stI E 1199 (iAll jC) mX11_orders mX12_orders 0 := by
  intro t mem av ht hl hr hI
  obtain rfl := no_args hl
  have hC := hI.2
  obtain ⟨t1, t2, t3, t4⟩ := hC.1
  have hK2 : iKs2 mem := iKs_2 hC.2.2.2.2.2.2.2.2
  have hT : tOk (mem 592) (mem 591 2) := ⟨t2, t3, fun i a b => (t4 i a b).2⟩
  obtain ⟨L, yl, ml⟩ := jC_law hC
  obtain ⟨P, p1, p2, p3⟩ := iPast_get hC.2.2.2.2.1
  have h186 : ∀ k, 0 ≤ k → k < 16 → mem 186 k = 188 + 10 * k := fun k a b => (hC.2.2.2.2.1.2.2.2.1 k a b).2
  obtain ⟨hrok, hR, hfR, hlR⟩ := hC.2.2.1
  obtain ⟨s1, s2, s3, s4, s5, s6, s7, s8, s9⟩ := hC.2.1
  have h29 : mem 2 9 < 0 ∨ (355 ≤ mem 2 9 ∧ mem 2 9 ≤ 400) := by
    have a := hC.2.2.2.1
    unfold iLw at a
    obtain ⟨l1, l2, l3, l4, l5, l6, l7⟩ := hlR
    by_cases c : mem 605 2 = -1
    · rw [if_pos c] at a; omega
    · rw [if_neg c] at a; omega
  have cF : ∀ (mc : Mm) (r : Int), -7 < r → r < 0 → (∀ j, mc 602 j = mem 602 j) → ∀ Z : Int → Mm → Prop, Z r (aAns mc r) → CI E mX11_refused 1198 mc [aR 0, aI r] Z := fun mc r h7 h0 hc Z hz => s_refA hE h7 h0 (r602 hI.1 ht h7 h0 hc) hz
  have n604 : ∀ j, ¬ scr 604 j := fun j => by unfold scr isTx; omega
  have e604 : ∀ {mb m : Mm}, mE mem mb m → ∀ j, m 604 j = mem 604 j := fun h j => h.2 604 j (by decide) (n604 j) (by decide) (by omega) (by decide) (by omega)
  refine eX11_orders (k := 1198) (rX11_orders_0 (k := 1198) hE ?_)
  have f19 : ∀ o i, ¬ (o = 1 ∧ i = 9) → (aUp mem 1 9 (-1)) o i = mem o i := fun o i z => aUp_nn z
  have e19 : (aUp mem 1 9 (-1)) 1 9 = -1 := aUp_re
  generalize (aUp mem 1 9 (-1)) = m1 at *
  have e592 : m1 592 = mem 592 := funext fun i => f19 _ _ (by omega)
  have e591 : m1 591 2 = mem 591 2 := f19 _ _ (by omega)
  refine c_read (k := 1190) (od := true) (N := 78) hE hSt (by decide) tx593 (by rw [e592, e591]; exact hT) rfl (fun x hx m3 a1 a2 => ?_) (fun l hl' m3 S a1 a2 a3 a4 a5 a6 a7 a8 => ?_)
  · -- it can't be ORDERS
    rw [e592, e591] at hx
    have hx0 := pText_er hT.2.1 12 0 0 x (by decide) hT.1 (by decide) (by decide) hx
    refine ⟨fun z => absurd z (by omega), fun _ => ?_⟩
    have f3 : ∀ o i, o ≠ 591 → ¬ (593 ≤ o ∧ o ≤ 600) → ¬ (o = 0 ∧ i = 12) → ¬ (o = 1 ∧ i = 9) → (aUp m3 0 12 x) o i = mem o i := fun o i p q w v => (aUp_nn w).trans ((a1 o i (by omega) (by omega)).trans (f19 o i v))
    have f3t : (aUp m3 0 12 x) 591 2 = 0 := (aUp_nn (by omega)).trans a2
    have f3m : (aUp m3 0 12 x) 0 12 = x := aUp_re
    have f3n : (aUp m3 0 12 x) 1 9 = -1 := (aUp_nn (by omega)).trans ((a1 _ _ (by omega) (by omega)).trans e19)
    generalize (aUp m3 0 12 x) = mc at *
    refine cF mc (-6) (by decide) (by decide) (fun j => f3 _ _ (by decide) (by omega) (by omega) (by omega)) _ ?_
    refine m_orders (mem := mem) (mb := aAns mc (-6)) hE rfl hT t1.symm (fun i a b => (t4 i a b).1.symm) hK2 ⟨by omega, by omega⟩ hrok p2 p3 ml (fun o i a => (aAns_M a).trans (f3 o i (by omega) (by omega) (by omega) (by omega))) (fun y hy m2 b1 b2 b3 b4 b5 b6 b7 b8 => ?_) (fun l hl2 => by rw [hx] at hl2; cases hl2) (fun l hl2 => by rw [hx] at hl2; cases hl2) (fun l hl2 => by rw [hx] at hl2; cases hl2)
    obtain rfl : x = y := by rw [hx] at hy; exact Sum.inr.inj hy
    refine m_tel hE (by decide) (by decide) (fun _ => r604 hI.1 ht (by decide) (by decide) (e604 b1)) ⟨rfl, ?_⟩
    refine fin_all hI.1 (by decide) (fun j => f3 602 j (by decide) (by omega) (by omega) (by omega)) (e604 b1) b1.1 ?_
    refine ord_jC (r := mem 605) (P := P) hC (fun o i u v w1 w2 w3 w4 => ?_) (f3 _ _ (by decide) (by omega) (by omega) (by omega)) f3t b1.2 (yR_fr hR (f3 _ _ (by decide) (by omega) (by omega) (by omega)) (fun o i u v => f3 o i (by omega) (by omega) (by omega) (by omega))) (pC_fr p3.2.1 (fun o i u v => f3 o i (by omega) (by omega) (by omega) (by omega)) p1) b3 p3 hrok b2 (fun _ _ => rfl) b7 b8 (f3m.trans b6.symm) (f3n.trans b5.symm) ?_ ?_
    · have := scr_C v
      exact f3 o i w2 (by omega) (by omega) (by omega)
    · rw [f3 1 6 (by decide) (by omega) (by omega) (by omega), b4, s4]
    · rw [f3 1 6 (by decide) (by omega) (by omega) (by omega)]
      exact ⟨s8, s9⟩
  · -- ORDERS
    rw [e592, e591] at hl'
    refine ⟨fun _ => ?_, fun z => absurd rfl z⟩
    have fA : ∀ o i, o ≠ 591 → ¬ (593 ≤ o ∧ o ≤ 600) → ¬ (o = 0 ∧ i = 12) → ¬ (o = 1 ∧ i = 9) → (aUp m3 0 12 (-1)) o i = mem o i := fun o i p q w v => (aUp_nn w).trans ((a1 o i (by omega) (by omega)).trans (f19 o i v))
    have fAT : ∀ o i, 593 ≤ o → (aUp m3 0 12 (-1)) o i = m3 o i := fun o i p => aUp_nn (by omega)
    have fAt : (aUp m3 0 12 (-1)) 591 2 = 0 := (aUp_nn (by omega)).trans a2
    have fAm : (aUp m3 0 12 (-1)) 0 12 = -1 := aUp_re
    have fAn : (aUp m3 0 12 (-1)) 1 9 = -1 := (aUp_nn (by omega)).trans ((a1 _ _ (by omega) (by omega)).trans e19)
    generalize (aUp m3 0 12 (-1)) = mA at *
    refine s_beginO (k := 1195) (r := mem 605) (P := P) hE (yR_fr hR (fA _ _ (by decide) (by omega) (by omega) (by omega)) (fun o i u v => fA o i (by omega) (by omega) (by omega) (by omega))) (pC_fr p3.2.1 (fun o i u v => fA o i (by omega) (by omega) (by omega) (by omega)) p1) p3 (fun k u v => (fA _ _ (by decide) (by omega) (by omega) (by omega)).trans (h186 k u v)) fun m4 b1 b2 b3 b4 b5 b6 b7 => ?_
    have f4 : ∀ o i, ¬ (175 ≤ o ∧ o ≤ 184) → ¬ (o = 185 ∧ i = 2) → ¬ (187 ≤ o ∧ o ≤ 347) → ¬ (o = 1 ∧ (i = 5 ∨ i = 7 ∨ i = 8 ∨ i = 9)) → o ≠ 591 → ¬ (593 ≤ o ∧ o ≤ 600) → ¬ (o = 0 ∧ i = 12) → m4 o i = mem o i := fun o i z1 z2 z3 z4 z5 z6 z7 => (b1 o i z1 z2 z3 (by omega)).trans (fA o i z5 z6 z7 (by omega))
    have f4T : ∀ o i, 593 ≤ o → m4 o i = m3 o i := fun o i p => (b1 o i (by omega) (by omega) (by omega) (by omega)).trans (fAT o i p)
    have e416 : m4 1 6 = mem 603 43 := (f4 _ _ (by omega) (by omega) (by omega) (by omega) (by omega) (by omega) (by omega)).trans s4
    have V4 : cV m4 (mem 605) P L := by
      refine ⟨yR_fr hR (f4 _ _ (by omega) (by omega) (by omega) (by omega) (by omega) (by omega) (by omega)) (fun o i u v => f4 o i (by omega) (by omega) (by omega) (by omega) (by omega) (by omega) (by omega)), pC_fr p3.2.1 (fun o i u v => f4 o i (by omega) (by omega) (by omega) (by omega) (by omega) (by omega) (by omega)) p1, ?_⟩
      unfold yL at yl ⊢
      rw [f4 2 9 (by omega) (by omega) (by omega) (by omega) (by omega) (by omega) (by omega)]
      rcases yl with q | ⟨q, D, q2, q3⟩
      · exact Or.inl q
      · have := tx_lt q
        exact Or.inr ⟨q, D, TxS_fr (fun o i u v => f4 o i (by omega) (by omega) (by omega) (by omega) (by omega) (by omega) (by omega)) q2, q3⟩
    obtain ⟨s0, hs0⟩ : ∃ s0 : RS, s0 = (mem 605, P, 0, -1, mem 603 43) := ⟨_, rfl⟩
    have O4 : cO m4 s0 L := by
      rw [hs0]
      exact ⟨V4, b7, b6, e416⟩
    have ok4 : oOk (mem 605) (20 * 0) s0 := by
      rw [hs0]
      exact ⟨hrok, p3, fun _ _ => rfl, ⟨(by decide : (0 : Int) ≤ 0), (by decide : (0 : Int) ≤ 20 * 0)⟩, ⟨(by decide : (-1 : Int) ≤ -1), (by decide : (-1 : Int) ≤ 1000)⟩, (by omega : 0 ≤ mem 603 43), (by omega : mem 603 43 ≤ 10)⟩
    have hcl : ∀ l2, pText true (mem 592) (mem 591 2) 12 0 0 = .inl l2 → ∀ cl ∈ l2, clOk cl := fun l2 h2 => by
      obtain rfl : l = l2 := by rw [hl'] at h2; exact Sum.inl.inj h2
      exact a8
    -- behind the loops: what the class's memory has kept
    have f5 : ∀ {m5 : Mm}, cOF m4 m5 → ∀ o i, ¬ scr o i → ¬ (2 ≤ o ∧ o ≤ 174) → o ≠ 591 → ¬ (o = 0 ∧ i = 12) → ¬ (o = 1 ∧ (i = 6 ∨ i = 9)) → m5 o i = mem o i := fun h o i v w1 w2 w3 w4 => by
      have := scr_C v
      exact (h.1 o i w1 this.1 (by omega) (by omega)).trans (f4 o i (by omega) (by omega) (by omega) (by omega) w2 (by omega) w3)
    have g5 : ∀ {m5 : Mm}, cOF m4 m5 → m5 591 2 = 0 ∧ m5 0 12 = -1 ∧ m5 1 9 = -1 ∧ m5 1 5 = mem 1 6 ∧ m5 2 9 = mem 2 9 ∧ ∀ j, m5 602 j = mem 602 j := fun h => ⟨(h.1 _ _ (by omega) (by unfold isTx; omega) (by omega) (by omega)).trans ((b1 _ _ (by omega) (by omega) (by omega) (by omega)).trans fAt), (h.1 _ _ (by omega) (by unfold isTx; omega) (by omega) (by omega)).trans ((b1 _ _ (by omega) (by omega) (by omega) (by omega)).trans fAm), (h.1 _ _ (by omega) (by unfold isTx; omega) (by omega) (by omega)).trans ((b1 _ _ (by omega) (by omega) (by omega) (by omega)).trans fAn), (h.1 _ _ (by omega) (by unfold isTx; omega) (by omega) (by omega)).trans (b5.trans (fA _ _ (by omega) (by omega) (by omega) (by omega))), h.2.trans (f4 _ _ (by omega) (by omega) (by omega) (by omega) (by omega) (by omega) (by omega)), fun j => (h.1 _ _ (by omega) (by unfold isTx; omega) (by omega) (by omega)).trans (f4 _ _ (by omega) (by omega) (by omega) (by omega) (by omega) (by omega) (by omega))⟩
    have m5m : ∀ {m5 : Mm}, cOF m4 m5 → ∀ o i, 603 ≤ o → m5 o i = mem o i := fun h o i a => (h.1 o i (by omega) (by unfold isTx; omega) (by omega) (by omega)).trans (f4 o i (by omega) (by omega) (by omega) (by omega) (by omega) (by omega) (by omega))
    refine c_ordC (k := 1191) (m0 := m4) (L := L) (r0 := mem 605) (n := (l.length : Int)) hE (by omega) ((f4T _ _ (by decide)).trans a3) (by rw [f4T _ _ (by decide), a5]; exact a6) l 0 s0 m4 (fun j cl h => ?_) a8 (by decide) (by omega) O4 ok4 cOF_rf (fun m5 s9' c1 c2 c3 c4 c5 => ?_) (fun a i2 m5 s9' ca c1 ci cj c2 c3 rr => ?_)
    · obtain ⟨r1, r2, r3, r4, r5⟩ := a7 j cl h
      rw [Int.zero_add]
      exact cCk_fr (fun o x u v => f4T o x u) ⟨r1, r2, cV_vS r3 a5 a6, cV_vS r4 a5 a6, cV_vS r5 a5 a6⟩
    · -- all done
      obtain ⟨q1, q2, q3, q4, q5, q6⟩ := g5 c2
      have e18 : m5 1 8 = s9'.2.2.1 := c3.2.1
      have hd := c4.2.2.2.1
      refine s_graA hE c5 (by omega) ?_
      refine m_orders (mem := mem) (mb := aAns m5 (m5 1 8)) hE hs0 hT t1.symm (fun i a b => (t4 i a b).1.symm) hK2 ⟨by omega, by omega⟩ hrok p2 p3 ml (fun o i a => (aAns_M a).trans (m5m c2 o i a)) (fun y hy => by rw [hl'] at hy; cases hy) (fun l2 hl2 s3' m2 d1 d2 d3 d4 d5 d6 d7 d8 => ?_) (fun l2 hl2 a' i3 s3' m2 d0 d1 => ?_) hcl
      · obtain rfl : l = l2 := by rw [hl'] at hl2; exact Sum.inl.inj hl2
        obtain rfl : s9' = s3' := by rw [c1] at d1; exact congrArg (fun v => v.2.2) d1
        have e : m2 603 54 = m5 1 8 := d6.2.1.trans e18.symm
        rw [e] at d8 ⊢
        refine m_tel hE d8 (by omega) (fun z => absurd z (by omega)) ⟨rfl, ?_⟩
        refine fin_all hI.1 (by omega) q6 (e604 d2) d2.1 ?_
        exact ord_jC (r := s9'.1) (P := s9'.2.1) hC (fun o i _ v w1 w2 w3 w4 => f5 c2 o i v w1 w2 (by omega) w4) q5 q1 d2.2 c3.1.1 c3.1.2.1 d6.1.2.1 c4.2.1 c4.1 d6.1.1 c4.2.2.1 d5 d6.1.2.2.2 (q2.trans d4.symm) (q3.trans d3.symm) (c3.2.2.2.trans d6.2.2.2.symm) (by rw [c3.2.2.2]; exact c4.2.2.2.2.2)
      · obtain rfl : l = l2 := by rw [hl'] at hl2; exact Sum.inl.inj hl2
        have : (0 : Int) = a' := by rw [c1] at d1; exact congrArg (fun v => v.1) d1
        exact absurd d0 (by omega)
    · -- given up
      obtain ⟨P2, hP2⟩ := c3
      obtain ⟨q1, q2, q3, q4, q5, q6⟩ := g5 c2
      have f45 : ∀ o i, 175 ≤ o → o ≤ 347 → m5 o i = m4 o i := fun o i u v => c2.1 o i (by omega) (by unfold isTx; omega) (by omega) (by omega)
      have hk2 := p3.2.1
      refine s_giveUpO (k := 1195) (r := mem 605) (P := P) (P2 := P2) hE rr (yR_fr b2 (f45 _ _ (by decide) (by decide)) (fun o i u v => f45 o i (by omega) (by omega))) hP2 p3 (fun k u v => ?_) ((f45 _ _ (by decide) (by decide)).trans b3) (fun k u v => ?_) fun m6 g1 g2 g3 g4 g5' => ?_
      · rw [f45 186 k (by decide) (by decide), f4 186 k (by omega) (by omega) (by omega) (by omega) (by omega) (by omega) (by omega)]
        exact h186 k u v
      · obtain ⟨y1, y2⟩ := b4 k u v
        exact ⟨yR_fr y1 (f45 _ _ (by omega) (by omega)) (fun o i x y => f45 o i (by omega) (by omega)), (f45 _ _ (by decide) (by decide)).trans y2⟩
      · have f6 : ∀ o i, ¬ (2 ≤ o ∧ o ≤ 174) → ¬ (o = 1 ∧ (i = 6 ∨ i = 9)) → m6 o i = m5 o i := fun o i u v => g1 o i (by omega) (by omega) (by omega) (by omega) v
        have go : ∀ r : Int, -7 < r → r < 0 → R32 r → oAll L l 0 s0 = (r, i2, s9') → ∀ Z2 : Int → Int → Mm → Prop, (∀ mm, iAll jC (t + 1) mm → Z2 r r mm) → CI E mX12_orders 1199 (aAns m6 r) [aR 603] (Z2 r) := by
          intro r h7 h0 r32 hA Z2 hZ
          refine m_orders (mem := mem) (mb := aAns m6 r) hE hs0 hT t1.symm (fun i a b => (t4 i a b).1.symm) hK2 ⟨by omega, by omega⟩ hrok p2 p3 ml (fun o i a => (aAns_M a).trans ((f6 o i (by omega) (by omega)).trans (m5m c2 o i a))) (fun y hy => by rw [hl'] at hy; cases hy) (fun l2 hl2 s3' m2 d1 => ?_) (fun l2 hl2 a' i3 s3' m2 d0 d1 d2 d3 d4 d5 d6 d7 d8 d9 d10 => ?_) hcl
          · obtain rfl : l = l2 := by rw [hl'] at hl2; exact Sum.inl.inj hl2
            have : r = 0 := by rw [hA] at d1; exact congrArg (fun v => v.1) d1
            exact absurd this (by omega)
          · obtain rfl : l = l2 := by rw [hl'] at hl2; exact Sum.inl.inj hl2
            rw [hA] at d1
            obtain rfl : r = a' := congrArg (fun v => v.1) d1
            obtain rfl : i2 = i3 := congrArg (fun v => v.2.1) d1
            refine m_tel hE r32 h7 (fun _ => r604 hI.1 ht h7 h0 (e604 d2)) (hZ _ ?_)
            refine fin_all hI.1 h7 (fun j => (f6 _ _ (by omega) (by omega)).trans (q6 j)) (e604 d2) d2.1 ?_
            have e16 : m6 1 6 = mem 603 43 := g4.trans (q4.trans s4)
            exact ord_jC (r := mem 605) (P := P) hC (fun o i _ v w1 w2 w3 w4 => (f6 o i w1 w4).trans (f5 c2 o i v w1 w2 (by omega) w4)) ((g1 2 9 (by omega) (by omega) (by omega) (by omega) (by omega)).trans q5) ((f6 _ _ (by omega) (by omega)).trans q1) d2.2 g2 g3 d4 p3 hrok d3 (fun _ _ => rfl) d8 d9 ((f6 _ _ (by omega) (by omega)).trans (q2.trans d7.symm)) (g5'.trans d6.symm) (e16.trans d5.symm) (by rw [e16]; exact ⟨by omega, by omega⟩)
        refine ⟨fun n5 => ?_, fun y5 => ?_⟩
        · rw [if_neg n5] at c1
          refine cF m6 (-3) (by decide) (by decide) (fun j => (f6 _ _ (by omega) (by omega)).trans (q6 j)) _ ?_
          exact go (-3) (by decide) (by decide) (by decide) c1 (fun r x mm => r = x ∧ iAll jC (t + 1) mm) fun mm h => ⟨rfl, h⟩
        · rw [if_pos y5] at c1
          refine cF m6 (-5) (by decide) (by decide) (fun j => (f6 _ _ (by omega) (by omega)).trans (q6 j)) _ ?_
          exact go (-5) (by decide) (by decide) (by decide) c1 (fun r x mm => r = x ∧ iAll jC (t + 1) mm) fun mm h => ⟨rfl, h⟩
