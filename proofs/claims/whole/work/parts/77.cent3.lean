theorem mD_58 {m0 m : Mm} {L : LW} {r : Rw} {z : Int} (h : pMd m0 m L r) : mD m0 (aUp m 603 58 z) L r z := by
  obtain ⟨⟨a1, a2, a3⟩, b, c, d⟩ := h
  refine ⟨⟨⟨fun o i x y => ?_, fun i x => ?_, fun i x y => ?_⟩, ?_, mL_fr ?_ (fun i x => ?_) c, ?_⟩, aUp_re⟩
  · rw [aUp_nn (fun q => x (by unfold scr; omega))]; exact a1 o i x y
  · rw [aUp_nn (by omega)]; exact a2 i x
  · rw [aUp_nn (by omega)]; exact a3 i x y
  · rw [aUp_ne (by decide)]; exact b
  · rw [aUp_nn (by omega)]
  · rw [aUp_nn (by omega)]
  · rw [aUp_nn (by omega)]; exact d
theorem st_centuries {E : EN} (hE : Ep E) : stI E 1199 (iAll jC) mX11_centuries mX12_centuries 2 := by
  intro t mem av ht hl hr hI
  obtain ⟨s, n, rfl⟩ := two_arg hl
  have hs : R32 s := hr s (by simp)
  have hn : R32 n := hr n (by simp)
  have hC := hI.2
  have hok := hC.2.2.1.1
  have hR := hC.2.2.1.2.1
  obtain ⟨L, yl, ml⟩ := jC_law hC
  have bad : ¬ ((0 ≤ s ∧ s ≤ 1000000) ∧ (1 ≤ n ∧ n ≤ 100)) → CI E mX11_refused 1198 mem [aR 0, aI (-1)] (fun r m1 => CI E mX12_centuries 1199 m1 [aR 603, aI s, aI n] (fun r2 m2 => r = r2 ∧ iAll jC (t + 1) m2)) := by
    intro hb
    refine s_refA hE (by decide) (by decide) (r602 hI.1 ht (by decide) (by decide) fun _ => rfl) ?_
    have tl : VM E mX12_centuries (1198 + 1) (aUp (aAns mem (-1)) 603 0 0) 29 [(0, aR 603)] [] (retI (fun r2 m2 => -1 = r2 ∧ iAll jC (t + 1) m2)) :=
      rX12_centuries_29 (p0 := 0) (p1 := 0) hE (m_tel hE (by decide) (by decide) (fun _ => r604 hI.1 ht (by decide) (by decide) fun j => (aUp_nn (by omega)).trans (aAns_M (by decide))) ⟨rfl, fin_ref hI (by decide)⟩)
    exact eX12_centuries (k := 1198) hs hn (rX12_centuries_0 hE fun r1 => s_in hE r1 (by decide) (by decide) (fun a b => ⟨fun d => absurd d (by decide), fun _ r3 => s_in hE r3 (by decide) (by decide) (fun a2 b2 => absurd ⟨⟨a, b⟩, a2, b2⟩ hb) fun _ => ⟨fun d => absurd rfl d, fun _ => tl⟩⟩) fun _ => ⟨fun _ => tl, fun d => absurd rfl d⟩)
  refine eX11_centuries (k := 1198) hs hn (rX11_centuries_0 hE fun _ => s_isWithin hE hs (by decide) (by decide) (fun s0 s1 => ⟨fun d => absurd d (by decide), fun _ _ => s_isWithin hE hn (by decide) (by decide) (fun n0 n1 => ⟨fun _ _ _ => ?_, fun d => absurd d (by decide)⟩) (fun q => ⟨fun d => absurd rfl d, fun _ => bad (by omega)⟩)⟩) (fun q => ⟨fun _ => bad (by omega), fun d => absurd rfl d⟩))
  have okL := cLp_ok (L := L) n.toNat (mem 605) s hok s0
  refine eX0_run (k := 1197) hs hn (rX0_run_0 hE isYd2 (s_ycopy (k := 1196) hE isYd581 isYd2 (by decide) hR fun m1 a1 a2 c1 => s_cen_l (m0 := mem) (L := L) hE n1 n.toNat _ (mem 605) s 0 ⟨fun o i x y => ?_, ?_, ?_, aUp_re⟩ hok s0 (by omega) (by decide) (by omega) fun mc z2 hD rr => ?_))
  · rw [aUp_nn (by omega), aUp_nn (by omega), a1 o i (by omega)]
  · exact yR_fr c1 (by rw [aUp_nn (by omega), aUp_nn (by omega)]) fun o i x y => by rw [aUp_nn (by omega), aUp_nn (by omega)]
  · unfold yL
    rw [aUp_nn (by omega), aUp_re, a1 2 9 (by omega)]
    rcases yl with h | ⟨h, D, h2, h3⟩
    · exact Or.inl h
    · refine Or.inr ⟨h, D, TxS_fr (fun o i u v => ?_) h2, h3⟩
      have := yd_tx isYd581 h
      rw [aUp_nn (by unfold isTx at h; omega), aUp_nn (by omega)]
      exact a1 o i (by omega)
  generalize hrf : cLp L n.toNat (mem 605) s = rf at okL hD rr
  have q0 := okL.1
  have q10 := okL.2.1
  refine s_graA hE rr q0 ?_
  have nt : ∀ o : Int, 603 ≤ o → ¬ isTx (o - 8) := fun o h => by unfold isTx; omega
  have eM : ∀ o i, 603 ≤ o → ¬ (o = 603 ∧ i = 0) → (aUp (aAns mc (rf 7)) 603 0 0) o i = mem o i := fun o i h q => by
    rw [aUp_nn q, aAns_M h, hD.1 o i (by omega) (nt o h)]
  have e5 : (aUp (aAns mc (rf 7)) 603 0 0) 605 = mem 605 := funext fun i => eM 605 i (by decide) (by omega)
  have eC : ∀ o i, o < 603 → isK o i → (aUp (aAns mc (rf 7)) 603 0 0) o i = mc o i := fun o i h k => by rw [aUp_nn (by omega), aAns_K k]
  have eA : ∀ o i, o < 603 → (aUp (aAns mc (rf 7)) 603 0 0) o i = aAns mc (rf 7) o i := fun o i h => aUp_nn (by omega)
  refine eX12_centuries (k := 1198) (mem := aAns mc (rf 7)) hs hn (rX12_centuries_0 hE ?_)
  generalize (aUp (aAns mc (rf 7)) 603 0 0) = m0 at eM e5 eC eA ⊢
  refine fun r1 => s_in hE r1 (by decide) (by decide) (fun _ _ => ⟨fun d => absurd d (by decide), fun _ r3 => s_in hE r3 (by decide) (by decide) (fun _ _ => ⟨fun _ => m_keepP (m0 := m0) hE (fun _ _ _ => rfl) fun m2 p2 e2 f2 => ?_, fun d => absurd d (by decide)⟩) fun q => absurd q (by omega)⟩) fun q => absurd q (by omega)
  have h20 : mem 603 20 = 0 := hC.2.1.2.2.2.2.1
  have hP : pMd m0 m2 L (mem 605) := ⟨p2, e2.trans e5, mL_fr (by rw [e2, e5]) (fun i _ => by rw [e2, e5]) ml, by rw [f2 603 20 (by decide), eM 603 20 (by decide) (by decide)]; exact h20⟩
  refine m_cen_l hE n1 n.toNat _ (mem 605) s 0 (mD_58 hP) hok s0 (by omega) (by decide) (by omega) fun m3 z3 h3 => ?_
  rw [hrf] at h3
  obtain ⟨⟨⟨p1, p2, p3⟩, g5, -, -⟩, -⟩ := h3
  refine rX12_centuries_145 (p0 := 0) (p1 := 0) hE (m_cen_w hE q0 q10 (by rw [aUp_re, g5]) (fun m4 f4 g4 => ?_) (rf 7).toNat _ 0 (by decide) (by omega) (fun _ _ _ => rfl) fun p a b => absurd b (by omega))
  refine m_putb hE (by decide) (by decide) ?_
  have w5 : ∀ o i, o ≠ 605 → (fun o i => if o = 605 ∧ 3 ≤ i ∧ i < 80 then m4 608 (77 * 16 + (i - 3)) else m4 o i) o i = m4 o i := fun o i q => if_neg fun z => q z.1
  have w6 : ∀ i, (fun o i => if o = 605 ∧ 3 ≤ i ∧ i < 80 then m4 608 (77 * 16 + (i - 3)) else m4 o i) 605 i = mem 605 i := fun i => by
    by_cases z : 3 ≤ i ∧ i < 80
    · refine (if_pos ⟨rfl, z⟩).trans ?_
      rw [f4 608 _ (by decide), aUp_nn (by omega), show (77 : Int) * 16 + (i - 3) = 1232 + (i - 3) by omega, p3 i z.1 z.2, e5]
    · refine (if_neg (fun q => z q.2)).trans ?_
      rw [f4 605 _ (by decide), aUp_nn (by omega), p2 i (by omega), e5]
  generalize (fun o i => if o = 605 ∧ 3 ≤ i ∧ i < 80 then m4 608 (77 * 16 + (i - 3)) else m4 o i) = m5 at w5 w6 ⊢
  have v60 : m5 603 60 = rf 7 := by rw [w5 _ _ (by decide), f4 _ _ (by decide), aUp_re, g5]
  rw [v60]
  have vv : ∀ o i, ¬ scr o i → o ≠ 605 → o ≠ 635 → ¬ (o = 603 ∧ i = 60) → m5 o i = m0 o i := fun o i x y z w => by
    rw [w5 o i y, f4 o i z, aUp_nn w, p1 o i x y]
  refine fun r5 => m_tel hE r5 (by omega) (fun q => absurd q (by omega)) ⟨rfl, iRf_fin (mc := mc) (by omega) hI.1 (fun j => hD.1 602 j (by decide) (by unfold isTx; omega)) (fun j => ?_) (fun o i q => ?_), jC_dr hC (fun o i u v w1 w2 w3 => ?_) (Or.inr ⟨?_, ?_, ?_, fun p a b => ?_⟩)⟩
  · rw [vv 604 j (by unfold scr isTx; omega) (by decide) (by decide) (by omega), eM 604 j (by decide) (by omega)]
  · rw [vv o i (by unfold scr isTx; omega) (by omega) (by omega) (by omega), eA o i (by omega)]
  · rw [aTel_K v]
    by_cases x : o = 605
    · subst x; exact w6 i
    · rw [vv o i u x w2 w3]
      by_cases y : o < 603
      · rw [eC o i y v]
        exact hD.1 o i (by omega) fun z => u (Or.inl z)
      · exact eM o i (by omega) (fun z => by unfold isK at v; omega)
  · rw [aTel_K (by unfold isK; omega), v60]; exact q0
  · rw [aTel_K (by unfold isK; omega), v60]; exact q10
  · rw [aTel_K (kOK (by decide) (by decide) (by decide) (by decide)), aTel_K (by unfold isK; omega), v60, vv 581 10 (by unfold scr isTx; omega) (by decide) (by decide) (by decide), eC 581 10 (by decide) (kOK (by decide) (by decide) (by decide) (by decide))]
    exact hD.2.1.1
  · rw [aTel_K (by unfold isK; omega), v60] at b
    obtain ⟨k1, k2, k3, k4⟩ := hD.2.1.2.2.1 p a (by omega)
    obtain ⟨j1, j2, j3⟩ := g4 p a b
    have cl : ∀ o, o = 585 ∨ o = 586 ∨ o = 588 → aTel m5 (rf 7) o p = mc o p := fun o q => by
      rw [aTel_K (kOK (by omega) (by omega) (by omega) (by omega)), vv o p (by unfold scr isTx; omega) (by omega) (by omega) (by omega), eC o p (by omega) (kOK (by omega) (by omega) (by omega) (by omega))]
    have cd : ∀ i, aTel m5 (rf 7) 635 i = m4 635 i := fun i => by
      rw [aTel_K (kOK (by decide) (by decide) (by decide) (by decide)), w5 635 i (by decide)]
    rw [cl 585 (by omega), cl 586 (by omega), cl 588 (by omega), cd, cd, cd, j1, j2, j3, aUp_ne (show (605 : Int) ≠ 603 by decide), g5]
    exact ⟨k1, k2, k4⟩
