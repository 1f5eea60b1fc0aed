-- the pair law()
theorem st_law {E : EN} (hE : Ep E) (hSt : aStr E) : stI E 1199 (iAll jC) mX11_law mX12_law 0 := by
  intro t mem av ht hl hr hI
  obtain rfl := no_args hl
  have hC := hI.2
  have hF := hC.2.2.1
  obtain ⟨l1, l2, l3, l4, l5, l6, l7⟩ := hF.2.2.2
  obtain ⟨t1, t2, t3, t4⟩ := hC.1
  have hK2 : iKs2 mem := iKs_2 hC.2.2.2.2.2.2.2.2
  obtain ⟨mk, hmk⟩ : ∃ mk, mem 605 1 = mk := ⟨_, rfl⟩
  rw [hmk] at l1 l2 l3 l6
  have hT : tOk (mem 592) (mem 591 2) := ⟨t2, t3, fun i a b => (t4 i a b).2⟩
  -- the ends
  have cF : ∀ (mc : Mm) (r : Int), -7 < r → r < 0 → (∀ j, mc 602 j = mem 602 j) → ∀ Z : Int → Mm → Prop, Z r (aAns mc r) → CI E mX11_refused 1198 mc [aR 0, aI r] Z := fun mc r h7 h0 hc Z hz => s_refA hE h7 h0 (r602 hI.1 ht h7 h0 hc) hz
  refine eX11_law (k := 1198) (rX11_law_0 (k := 1198) hE (eX3_next (rX3_next_0 hE (Or.inl rfl) ?_)))
  rw [l1]
  refine ⟨fun z => absurd z (by omega), fun _ => ⟨fun z6 => ⟨fun z => absurd z (by decide), fun _ => ?_⟩, fun z6 => ⟨⟨by omega, z6⟩, fun _ => ?_, fun z => absurd z (by omega)⟩⟩⟩
  · -- no room
    obtain rfl : mk = 6 := by omega
    have f1 : ∀ o i, ¬ (o = 591 ∧ i = 2) → (aUp mem 591 2 0) o i = mem o i := fun o i z => aUp_nn z
    refine cF (aUp mem 591 2 0) (-5) (by decide) (by decide) (fun j => f1 _ _ (by omega)) _ ?_
    refine eX12_law (k := 1198) (rX12_law_0 (k := 1198) hE ⟨fun z => absurd ((aAns_M (by decide)).trans ((f1 _ _ (by omega)).trans hmk)) z, fun _ => ?_⟩)
    have gm : ∀ o i, 603 ≤ o → ¬ (o = 603 ∧ (i = 0 ∨ i = 13)) → (aUp (aUp (aAns (aUp mem 591 2 0) (-5)) 603 0 0) 603 13 0) o i = mem o i := fun o i a b => by rw [aUp_nn (by omega), aUp_nn (by omega), aAns_M a, f1 _ _ (by omega)]
    refine m_tel hE (by decide) (by decide) (fun _ => r604 hI.1 ht (by decide) (by decide) fun j => gm 604 j (by decide) (by omega)) ⟨rfl, ?_⟩
    refine fin_all hI.1 (by decide) (fun j => f1 602 j (by omega)) (fun j => gm 604 j (by decide) (by omega)) (fun o i q => by rw [aUp_nn (by omega), aUp_nn (by omega)]) ?_
    refine law_jC (mk := 6) hC hmk (fun o i a b _ _ _ => f1 o i (by omega)) aUp_re (fun o i a _ _ _ _ _ _ b _ => gm o i a (by omega)) aUp_re ((gm 603 20 (by decide) (by decide)).trans hC.2.1.2.2.2.2.1) ?_ (Or.inl ⟨(f1 _ _ (by omega)).trans l1, (gm _ _ (by decide) (by decide)).trans hmk⟩)
    rw [f1 _ _ (by omega), gm _ _ (by decide) (by decide)]
    exact hC.2.1.2.1
  -- the TAPE is read
  have tx : isTx (353 + 1 + 1 + 9 * mk) := by unfold isTx; omega
  have etx : 353 + 1 + 1 + 9 * mk = 355 + 9 * mk := by omega
  have hne : ¬ mem 605 1 = 6 := by omega
  -- the model's call behind any of the class's
  have mgo : ∀ (mc : Mm) (r : Int) (Z : Int → Mm → Prop), (∀ o i, 603 ≤ o → mc o i = mem o i) →
      (∀ x, pText false (mem 592) (mem 591 2) 12 0 0 = .inr x → ∀ m2, mFt (aUp (aAns mc r) 603 0 0) m2 → m2 603 18 = x → m2 603 13 = 0 → m2 603 20 = 0 → CI E mX12_tell 1198 m2 [aR 603, aI (-6)] Z) →
      (∀ l, pText false (mem 592) (mem 591 2) 12 0 0 = .inl l → ∀ m2 s2, mFt (aUp (aAns mc r) 603 0 0) m2 → m2 603 18 = -1 → m2 603 13 = 0 → m2 603 20 = 0 → m2 603 21 = (l.length : Int) → l.length ≤ 12 → m2 603 23 = s2 → 0 ≤ s2 → s2 ≤ 400 → (∀ (i : Nat) cl, l[i]? = some cl → mLw m2 s2 i cl) → VM E mX12_law (1190 + 8 + 1) (aUp m2 605 ((170 + (900 * (m2 605 1))) + 1) (m2 603 21)) 111 [(0, aR 603), (1, aI (170 + (900 * (m2 605 1)))), (2, aI 0)] [] (retI Z)) → CI E mX12_law 1199 (aAns mc r) [aR 603] Z := by
    intro mc r Z hmc hb ho
    have gm : ∀ o i, 603 ≤ o → ¬ (o = 603 ∧ i = 0) → (aUp (aAns mc r) 603 0 0) o i = mem o i := fun o i a b => by rw [aUp_nn b, aAns_M a, hmc o i a]
    have e51 : (aUp (aAns mc r) 603 0 0) 605 1 = mk := (gm _ _ (by decide) (by omega)).trans hmk
    have hK3 : iKs2 (aUp (aAns mc r) 603 0 0) := iKs2_fr (fun o i z => gm o i (by omega) (by omega)) hK2
    have L := m_lawL (K := 1190) (m0 := aUp (aAns mc r) 603 0 0) (Q := Z) hE hT hK3 (by rw [e51]; exact ⟨by omega, by omega⟩) hb ho
    refine eX12_law (k := 1198) (rX12_law_0 (k := 1198) hE ⟨fun _ => ?_, fun z => absurd ((hmc 605 1 (by decide)).symm.trans ((aAns_M (by decide)).symm.trans z)) hne⟩)
    refine m_begin (k := 1195) (od := false) hE hT ((gm _ _ (by decide) (by decide)).trans t1.symm) (fun i a b => (gm _ _ (by decide) (by omega)).trans (t4 i a b).1.symm) fun m1 a1 a2 a3 => ?_
    have hK1 : iKs2 m1 := iKs2_fr (fun o i z => a1 o i (by omega) (by omega) (by omega) (by omega) (by omega) (by omega) (by omega)) hK3
    have hb0 := tF_b (T := mem 592) (n := mem 591 2) (p := 0) hT.1
    refine m_readLaw (K := 1190) hE hT a2 hK1 a3 (by decide) (by decide) hT.1 (by decide) (by decide) (by decide) (by omega) (fun y hy m2 b1 b2 b3 => ?_) (fun q2 d2 cl _ hq2 m2 s2 b1 b2 b3 b4 b5 b6 b7 b8 => ?_)
    · refine L.1 m2 y (mFt_tr a1 (mFt_q b1)) b2 b3 ?_
      rcases hy with ⟨y1, y2⟩ | ⟨y1, y2⟩
      · exact absurd y1 (by decide)
      · unfold pText
        rw [y2]
    · have hbd := pCl_b hT.2.1 (by decide) hT.1 (by decide) (by decide) hq2
      refine L.2 11 m2 q2 d2 s2 [cl] rfl (mFt_tr a1 (mFt_q b1)) b5 b4 hbd.1 hbd.2.1 hbd.2.2.1 hbd.2.2.2 b6 b7 (fun i c2 h => ?_) ?_
      · cases i with
        | zero => obtain rfl := Option.some.inj h; exact b8
        | succ i => cases h
      · conv => rhs; unfold pText
        rw [hq2]
        rfl
  rw [etx] at tx ⊢
  refine c_read (k := 1190) (od := false) (N := 10) hE hSt (by decide) tx hT rfl (fun x hx m3 a1 a2 => ?_) (fun l hl' m3 s2 a1 a2 a3 a4 a5 a6 a7 a8 => ?_)
  · -- it can't be a LAW
    have hx0 := pText_er hT.2.1 12 0 0 x (by decide) hT.1 (by decide) (by decide) hx
    refine ⟨fun z => absurd z (by omega), fun _ => ?_⟩
    have f3 : ∀ o i, o ≠ 591 → ¬ (355 + 9 * mk ≤ o ∧ o ≤ 355 + 9 * mk + 7) → ¬ (o = 0 ∧ i = 12) → (aUp m3 0 12 x) o i = mem o i := fun o i p q w => (aUp_nn w).trans (a1 o i (by omega) q)
    refine cF (aUp m3 0 12 x) (-6) (by decide) (by decide) (fun j => f3 _ _ (by decide) (by omega) (by omega)) _ ?_
    refine mgo (aUp m3 0 12 x) (-6) _ (fun o i p => f3 o i (by omega) (by omega) (by omega)) (fun y hy m2 b1 b2 b3 b4 => ?_) (fun l hl' => by rw [hx] at hl'; cases hl')
    obtain rfl : x = y := by rw [hx] at hy; exact Sum.inr.inj hy
    have gm : ∀ o i, 603 ≤ o → o ≠ 613 → o ≠ 614 → o ≠ 615 → o ≠ 616 → o ≠ 617 → o ≠ 634 → ¬ (o = 603 ∧ (i = 0 ∨ (13 ≤ i ∧ i ≤ 21) ∨ i = 23 ∨ i = 26 ∨ i = 29 ∨ i = 30)) → m2 o i = mem o i := fun o i p z1 z2 z3 z4 z5 z6 z7 => by
      rw [b1 o i z1 z2 z3 z4 z5 z6 (by omega), aUp_nn (by omega), aAns_M p, f3 o i (by omega) (by omega) (by omega)]
    refine m_tel hE (by decide) (by decide) (fun _ => r604 hI.1 ht (by decide) (by decide) fun j => gm 604 j (by decide) (by decide) (by decide) (by decide) (by decide) (by decide) (by decide) (by omega)) ⟨rfl, ?_⟩
    refine fin_all hI.1 (by decide) (fun j => f3 602 j (by decide) (by omega) (by omega)) (fun j => gm 604 j (by decide) (by decide) (by decide) (by decide) (by decide) (by decide) (by decide) (by omega)) (fun o i q => by rw [b1 o i (by omega) (by omega) (by omega) (by omega) (by omega) (by omega) (by omega), aUp_nn (by omega)]) ?_
    refine law_jC (mk := mk) hC hmk (fun o i a b c d e => f3 o i b (by omega) d) ?_ (fun o i p z1 z2 z3 z4 z5 z6 z7 z8 => gm o i p z1 z2 z3 z4 z5 z6 z7) b3 b4 ?_ (Or.inl ⟨(f3 _ _ (by decide) (by omega) (by decide)).trans l1, (gm 605 1 (by decide) (by decide) (by decide) (by decide) (by decide) (by decide) (by decide) (by decide)).trans hmk⟩)
    · rw [aUp_nn (by omega)]; exact a2
    · rw [b2]; exact aUp_re
  · -- a LAW
    refine ⟨fun _ => ?_, fun z => absurd rfl z⟩
    have f353 : m3 353 1 = mk := (a1 _ _ (by omega) (by omega)).trans l1
    rw [f353]
    refine ⟨⟨by omega, by omega⟩, ⟨by omega, by omega⟩, fun rr => ?_⟩
    rw [show mk + 1 - 1 = mk by omega] at rr ⊢
    have f3 : ∀ o i, o ≠ 591 → ¬ (355 + 9 * mk ≤ o ∧ o ≤ 355 + 9 * mk + 7) → ¬ (o = 0 ∧ i = 12) → ¬ (o = 353 ∧ i = 1) → (aUp (aUp m3 0 12 (-1)) 353 1 (mk + 1)) o i = mem o i := fun o i p q w y => (aUp_nn y).trans ((aUp_nn w).trans (a1 o i (by omega) q))
    have f5 : ∀ o i, 355 ≤ o → o < 591 → (aUp (aUp m3 0 12 (-1)) 353 1 (mk + 1)) o i = m3 o i := fun o i p q => by rw [aUp_nn (by omega), aUp_nn (by omega)]
    have f2 : (aUp (aUp m3 0 12 (-1)) 353 1 (mk + 1)) 591 2 = 0 := by rw [aUp_nn (by omega), aUp_nn (by omega)]; exact a2
    have f12 : (aUp (aUp m3 0 12 (-1)) 353 1 (mk + 1)) 0 12 = -1 := by rw [aUp_nn (by omega), aUp_re]
    have f31 : (aUp (aUp m3 0 12 (-1)) 353 1 (mk + 1)) 353 1 = mk + 1 := aUp_re
    generalize (aUp (aUp m3 0 12 (-1)) 353 1 (mk + 1)) = mc at *
    have hTx : TxS mc (355 + 9 * mk) 10 (ldL l) := TxS_fr (fun o i u v => f5 o i (by omega) (by omega)) (ldL_Tx a4 a8 a3 a5 a6 a7)
    refine s_graA hE rr (by omega) ?_
    refine mgo mc mk _ (fun o i p => f3 o i (by omega) (by omega) (by omega) (by omega)) (fun y hy => by rw [hl'] at hy; cases hy) (fun l2 hl2 m2 s3 b1 b2 b3 b4 b5 b6 b7 b8 b9 b10 => ?_)
    obtain rfl : l = l2 := by rw [hl'] at hl2; exact Sum.inl.inj hl2
    have gm : ∀ o i, 603 ≤ o → o ≠ 613 → o ≠ 614 → o ≠ 615 → o ≠ 616 → o ≠ 617 → o ≠ 634 → ¬ (o = 603 ∧ (i = 0 ∨ (13 ≤ i ∧ i ≤ 21) ∨ i = 23 ∨ i = 26 ∨ i = 29 ∨ i = 30)) → m2 o i = mem o i := fun o i p z1 z2 z3 z4 z5 z6 z7 => by
      rw [b1 o i z1 z2 z3 z4 z5 z6 (by omega), aUp_nn (by omega), aAns_M p, f3 o i (by omega) (by omega) (by omega) (by omega)]
    have e51 : m2 605 1 = mk := (gm 605 1 (by decide) (by decide) (by decide) (by decide) (by decide) (by decide) (by decide) (by decide)).trans hmk
    rw [e51, b5]
    refine m_lawC1 (K := 1190) (s2 := s3) hE rfl ⟨by omega, by omega⟩ e51 ⟨b8, b9⟩ b7 ⟨by omega, by omega⟩ b5 (fun m4 c1 c2 c3 c4 c5 c6 => ?_) (8 * (l.length : Int)).toNat 0 _ (fun o i z => aUp_rn z) (fun i z => aUp_ri (by omega)) aUp_re (fun x x0 x1 => absurd x1 (by omega)) (by decide) (by omega)
    refine m_tel hE rr (by omega) (fun z => absurd z (by omega)) ⟨rfl, ?_⟩
    have gm4 : ∀ o i, o ≠ 605 → 603 ≤ o → o ≠ 613 → o ≠ 614 → o ≠ 615 → o ≠ 616 → o ≠ 617 → o ≠ 634 → ¬ (o = 603 ∧ (i = 0 ∨ (13 ≤ i ∧ i ≤ 21) ∨ i = 23 ∨ i = 26 ∨ i = 29 ∨ i = 30)) → m4 o i = mem o i := fun o i z p z1 z2 z3 z4 z5 z6 z7 => (c1 o i z).trans (gm o i p z1 z2 z3 z4 z5 z6 z7)
    refine fin_all hI.1 (by omega) (fun j => f3 602 j (by decide) (by omega) (by omega) (by omega)) (fun j => gm4 604 j (by decide) (by decide) (by decide) (by decide) (by decide) (by decide) (by decide) (by decide) (by omega)) (fun o i q => by rw [c1 o i (by omega), b1 o i (by omega) (by omega) (by omega) (by omega) (by omega) (by omega) (by omega), aUp_nn (by omega)]) ?_
    refine law_jC (mk := mk) hC hmk (fun o i a b c d e => f3 o i b (by omega) d e) f2 (fun o i p z1 z2 z3 z4 z5 z6 z7 z8 => ?_) ((c1 _ _ (by decide)).trans b3) ((c1 _ _ (by decide)).trans b4) ?_ (Or.inr ⟨z6, f31, c3, ldL l, hTx, ?_⟩)
    · by_cases q : o = 605
      · subst q
        rw [c2 i (by omega) (by omega)]
        exact gm 605 i p z1 z2 z3 z4 z5 z6 z7
      · exact gm4 o i q p z1 z2 z3 z4 z5 z6 z7
    · rw [f12, c1 _ _ (by decide), b2]
    · exact ldL_sl (m2 := m2) (s2 := s3) a4 a8 b9 c4 c5 c6 b10
