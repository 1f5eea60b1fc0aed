theorem st_image {E : EN} (hE : Ep E) : stI E 1199 (iAll jC) mX11_image mX12_image 1 := by
  intro t mem av ht hl hr hI
  obtain ⟨p, rfl⟩ := one_arg hl
  have hp : R32 p := hr p (by simp)
  have hC := hI.2
  have hF := hC.2.2.1
  have bad : p < 0 ∨ 1 < p → CI E mX11_refused 1198 mem [aR 0, aI (-1)] (fun r m1 => CI E mX12_image 1199 m1 [aR 603, aI p] (fun r2 m2 => r = r2 ∧ iAll jC (t + 1) m2)) := fun a =>
    s_refA hE (by decide) (by decide) (r602 hI.1 ht (by decide) (by decide) fun _ => rfl) (eX12_image (k := 1198) hp (rX12_image_0 hE fun r1 => s_in hE r1 (by decide) (by decide) (fun _ _ => absurd a (by omega)) fun _ => ⟨fun d => absurd rfl d, fun _ => m_tel hE (by decide) (by decide) (fun _ => r604 hI.1 ht (by decide) (by decide) fun j => (aUp_nn (by omega)).trans (aAns_M (by decide))) ⟨rfl, fin_ref hI (by decide)⟩⟩))
  refine eX11_image (k := 1198) hp (rX11_image_0 hE fun _ => s_isWithin hE hp (by decide) (by decide) (fun a b => ⟨fun _ => ⟨⟨a, by omega⟩, by unfold isIm; omega, ?_⟩, fun d => absurd d (by decide)⟩) (fun a => ⟨fun d => absurd rfl d, fun _ => bad a⟩))
  have ey : (409 : Int) + 1 + 71 * p = 410 + 71 * p := by omega
  rw [ey]
  have b0 : p = 0 ∨ p = 1 := by omega
  refine eX2_keep (k := 1197) (rX2_keep_0 hE (by unfold isIm; omega) (Or.inl rfl) (Or.inl rfl) (Or.inl rfl) (s_ycopy (k := 1196) hE (by unfold isYd; omega) (Or.inl rfl) (by omega) hF.2.1 fun m1 a1 _ c1 => s_fcopy (k := 1196) hE (by unfold isFd; omega) (Or.inl rfl) (by omega) (fR_fr (fun o i u v => a1 o i (by omega)) hF.2.2.1) fun m2 a2 c2 => s_lcopy (k := 1195) hE (by unfold isLw; omega) (Or.inl rfl) (by omega) (lR_row (m := mem) ?_ ?_ (fun _ _ => rfl) (fun i o j u v w x => ?_) hF.2.2.2) fun m3 a3 c3 => ?_))
  · rw [a2 _ _ (by omega), a1 _ _ (by omega)]
  · rw [a2 _ _ (by omega), a1 _ _ (by omega)]
  · rw [a2 _ _ (by omega), a1 _ _ (by omega)]
  have cm : ∀ o i, (o < 410 + 71 * p ∨ 480 + 71 * p < o) → (aUp m3 (410 + 71 * p) 3 1) o i = mem o i := fun o i h => by
    rw [aUp_nn (by omega), a3 o i (by omega), a2 o i (by omega), a1 o i (by omega)]
  have d1 : yR m3 (411 + 71 * p) (mem 605) := by
    rw [show (410 : Int) + 71 * p + 1 = 411 + 71 * p by omega] at c1
    exact yR_fr c1 (by rw [a3 _ _ (by omega), a2 _ _ (by omega)]) fun o i u v => by rw [a3 _ _ (by omega), a2 _ _ (by omega)]
  have d2 : fR m3 (421 + 71 * p) (mem 605) := by
    rw [show (410 : Int) + 71 * p + 11 = 421 + 71 * p by omega] at c2
    exact fR_fr (fun o i u v => a3 o i (by omega)) c2
  rw [show (410 : Int) + 71 * p + 15 = 425 + 71 * p by omega] at c3
  have c0 : ∀ i, (aUp m3 (410 + 71 * p) 3 1) (410 + 71 * p) 3 = 1 ∧ ∀ o, o ≠ 410 + 71 * p → (aUp m3 (410 + 71 * p) 3 1) o i = m3 o i := fun i => ⟨aUp_re, fun o h => aUp_rn h⟩
  generalize aUp m3 (410 + 71 * p) 3 1 = mk at cm c0
  refine s_graA hE (by decide) (by decide) ?_
  refine eX12_image (k := 1198) hp (rX12_image_0 hE fun r1 => s_in hE r1 (by decide) (by decide) (fun _ _ => ⟨fun _ => ?_, fun d => absurd d (by decide)⟩) fun q => absurd q (by omega))
  refine m_img_l (k := 1198) hE a (by omega) (fun m4 e1 e2 => ?_) 5570 _ 0 (by decide) (by decide) (fun _ _ _ => rfl) fun i u v => absurd v (by omega)
  have k1 : ∀ o i, 603 ≤ o → ¬ (o = 603 ∧ i = 0) → o ≠ 606 ∨ ¬ (5570 * p ≤ i ∧ i < 5570 * p + 5570) → m4 o i = mem o i := fun o i h1 h2 h3 => by
    rw [e1 o i (by omega), aUp_nn h2, aAns_M h1, cm o i (by omega)]
  refine m_tel hE (by decide) (by decide) (fun q => absurd q (by decide)) ⟨rfl, fin_all (mc := mk) hI.1 (by decide) (fun j => cm 602 j (by omega)) (fun j => ?_) (fun o i q => ?_) ?_⟩
  · rw [aUp_nn (by omega), k1 _ _ (by decide) (by omega) (by omega)]
  · rw [aUp_nn (by omega), e1 _ _ (by omega), aUp_nn (by omega)]
  have s1 : ∀ o i, o < 603 → spl mk (aUp m4 607 p 1) o i = mk o i := fun o i h => spl_c h
  have s2 : ∀ o i, 603 ≤ o → ¬ (o = 607 ∧ i = p) → spl mk (aUp m4 607 p 1) o i = m4 o i := fun o i h q => (spl_m h).trans (aUp_nn q)
  have s3 : spl mk (aUp m4 607 p 1) 607 p = 1 := (spl_m (by decide)).trans aUp_re
  have s4 : ∀ o i, o < 603 → o ≠ 410 + 71 * p → spl mk (aUp m4 607 p 1) o i = m3 o i := fun o i h q => (s1 o i h).trans ((c0 i).2 o q)
  refine jC_im b0 hC (fun o i u v w1 w2 w3 => ?_) (fun i h => ?_) ⟨?_, Or.inr s3, fun _ => ?_⟩
  · by_cases q : o < 603
    · rw [s1 o i q]; exact cm o i (by omega)
    · rw [s2 o i (by omega) w3]; exact k1 o i (by omega) (fun z => u (by unfold scr; omega)) (Or.inl w2)
  · rw [s2 606 i (by decide) (by omega)]; exact k1 606 i (by decide) (by omega) (Or.inr h)
  · rw [s1 _ _ (by omega), (c0 0).1, s3]
  · refine full_cg (r := mem 605) (fun i u v => ?_) ⟨hF.1, yR_fr d1 (s4 _ _ (by omega) (by omega)) (fun o i u v => s4 _ _ (by omega) (by omega)), fR_fr (fun o i u v => s4 _ _ (by omega) (by omega)) d2, lR_row (s4 _ _ (by omega) (by omega)) (s4 _ _ (by omega) (by omega)) (fun _ _ => rfl) (fun i o j u v w x => s4 _ _ (by omega) (by omega)) c3⟩
    show spl mk (aUp m4 607 p 1) 606 (5570 * p + i) = mem 605 i
    rw [s2 _ _ (by decide) (by omega), e2 i u v, aUp_nn (by omega), aAns_M (by decide), cm _ _ (by omega)]
theorem st_back {E : EN} (hE : Ep E) : stI E 1199 (iAll jC) mX11_back mX12_back 1 := by
  intro t mem av ht hl hr hI
  obtain ⟨p, rfl⟩ := one_arg hl
  have hp : R32 p := hr p (by simp)
  have hC := hI.2
  have e604 : ∀ r j, (aUp (aAns mem r) 603 0 0) 604 j = mem 604 j := fun r j => (aUp_nn (by omega)).trans (aAns_M (by decide))
  have bad : p < 0 ∨ 1 < p → CI E mX11_refused 1198 mem [aR 0, aI (-1)] (fun r m1 => CI E mX12_back 1199 m1 [aR 603, aI p] (fun r2 m2 => r = r2 ∧ iAll jC (t + 1) m2)) := fun a =>
    s_refA hE (by decide) (by decide) (r602 hI.1 ht (by decide) (by decide) fun _ => rfl) (eX12_back (k := 1198) hp (rX12_back_0 hE fun r1 => s_in hE r1 (by decide) (by decide) (fun _ _ => absurd a (by omega)) fun _ => ⟨fun d => absurd rfl d, fun _ => m_tel hE (by decide) (by decide) (fun _ => r604 hI.1 ht (by decide) (by decide) (e604 _)) ⟨rfl, fin_ref hI (by decide)⟩⟩))
  refine eX11_back (k := 1198) hp (rX11_back_0 hE fun _ => s_isWithin hE hp (by decide) (by decide) (fun a b => ⟨fun _ => ⟨⟨a, by omega⟩, by unfold isIm; omega, ?_⟩, fun d => absurd d (by decide)⟩) (fun a => ⟨fun d => absurd rfl d, fun _ => bad a⟩))
  have ey : (409 : Int) + 1 + 71 * p = 410 + 71 * p := by omega
  rw [ey]
  have b0 : p = 0 ∨ p = 1 := by omega
  obtain ⟨i1, i2, i3⟩ : iImg mem p := by
    rcases b0 with rfl | rfl
    · exact hC.2.2.2.2.2.1
    · exact hC.2.2.2.2.2.2.1
  have min : ∀ (m1 : Mm) (Z : Int → Mm → Prop), ((¬ (aUp m1 603 0 0) 607 p = 0 → VM E mX12_back (1198 + 1) (aUp m1 603 0 0) 39 [(0, aR 603), (1, aI p), (2, aI 0)] [] (retI Z)) ∧ ((aUp m1 603 0 0) 607 p = 0 → CI E mX12_tell 1198 (aUp m1 603 0 0) [aR 603, aI (-2)] Z)) → CI E mX12_back 1199 m1 [aR 603, aI p] Z := fun m1 Z hz =>
    eX12_back (k := 1198) hp (rX12_back_0 hE fun r1 => s_in hE r1 (by decide) (by decide) (fun _ _ => ⟨fun _ => ⟨⟨a, by omega⟩, hz⟩, fun d => absurd d (by decide)⟩) fun q => absurd q (by omega))
  refine ⟨fun u => ?_, fun u => ?_⟩
  · have u1 : mem 607 p = 1 := by rw [i1] at u; omega
    have F := i3 u1
    have l3 : (imR mem p) 1 ≤ 6 := F.2.2.2.2.2.1
    refine eX2_giveBack (k := 1197) (rX2_giveBack_0 hE (by unfold isIm; omega) (Or.inl rfl) (Or.inl rfl) (Or.inl rfl) (s_ycopy (k := 1196) (r := imR mem p) hE (Or.inl rfl) (by unfold isYd; omega) (by omega) ?_ fun m1 a1 a1' c1 => s_fcopy (k := 1196) (r := imR mem p) hE (Or.inl rfl) (by unfold isFd; omega) (by omega) ?_ fun m2 a2 c2 => s_lcopy (k := 1195) (r := imR mem p) hE (Or.inl rfl) (by unfold isLw; omega) (by omega) ?_ fun m3 a3 c3 => ?_))
    · rw [show (410 : Int) + 71 * p + 1 = 411 + 71 * p by omega]
      exact F.2.1
    · rw [show (410 : Int) + 71 * p + 11 = 421 + 71 * p by omega]
      exact fR_fr (fun o i u v => a1 o i (by omega)) F.2.2.1
    · rw [show (410 : Int) + 71 * p + 15 = 425 + 71 * p by omega]
      exact lR_row (by rw [a2 _ _ (by omega), a1 _ _ (by omega)]) (by rw [a2 _ _ (by omega), a1 _ _ (by omega)]) (fun _ _ => rfl) (fun i o j u v w x => by rw [a2 _ _ (by omega), a1 _ _ (by omega)]) F.2.2.2
    intro rr
    have d2 : fR m3 349 (imR mem p) := fR_fr (fun o i u v => a3 o i (by omega)) c2
    have d1 : yR m3 2 (imR mem p) := yR_fr c1 (by rw [a3 _ _ (by omega), a2 _ _ (by omega)]) fun o i u v => by rw [a3 _ _ (by omega), a2 _ _ (by omega)]
    have e2 : m3 353 2 = (imR mem p) 2 := c3.2.2.2.1
    have l5 : -1 ≤ (imR mem p) 2 := c3.2.2.2.2.1
    have l6 : (imR mem p) 2 < (imR mem p) 1 := c3.2.2.2.2.2.1
    have fin : ∀ v, v = (if (imR mem p) 2 = -1 then (-1 : Int) else 355 + 9 * (imR mem p) 2) → CI E mX11_granted 1198 (aUp (aUp m3 2 9 v) 12 2 0) [aR 0, aI 0] (fun r m1 => CI E mX12_back 1199 m1 [aR 603, aI p] (fun r2 m2 => r = r2 ∧ iAll jC (t + 1) m2)) := by
      intro v hv
      have cm : ∀ o i, (o < 2 ∨ 11 < o) → (o < 349 ∨ 408 < o) → ¬ (o = 12 ∧ i = 2) → (aUp (aUp m3 2 9 v) 12 2 0) o i = mem o i := fun o i h1 h2 h3 => by
        rw [aUp_nn h3, aUp_nn (by omega), a3 o i (by omega), a2 o i (by omega), a1 o i (by omega)]
      have c9 : (aUp (aUp m3 2 9 v) 12 2 0) 2 9 = v := by rw [aUp_nn (by omega), aUp_re]
      have c12 : (aUp (aUp m3 2 9 v) 12 2 0) 12 2 = 0 := aUp_re
      have c0 : ∀ o i, ¬ (o = 2 ∧ i = 9) → ¬ (o = 12 ∧ i = 2) → (aUp (aUp m3 2 9 v) 12 2 0) o i = m3 o i := fun o i h1 h2 => by rw [aUp_nn h2, aUp_nn h1]
      generalize aUp (aUp m3 2 9 v) 12 2 0 = mk at cm c9 c12 c0
      refine s_graA hE (by decide) (by decide) (min _ _ ?_)
      have e7 : (aUp (aAns mk 0) 603 0 0) 607 p = 1 := by rw [aUp_nn (by omega), aAns_M (by decide), cm _ _ (by omega) (by omega) (by omega)]; exact u1
      rw [e7]
      refine ⟨fun _ => ?_, fun q => absurd q (by decide)⟩
      refine m_bck_l (k := 1198) hE a (by omega) (fun m4 g1 g2 => ?_) 5570 _ 0 (by decide) (by decide) (fun _ _ _ => rfl) fun i u v => absurd v (by omega)
      have k1 : ∀ o i, 603 ≤ o → ¬ (o = 603 ∧ i = 0) → o ≠ 605 → m4 o i = mem o i := fun o i h1 h2 h3 => by
        rw [g1 o i (by omega), aUp_nn h2, aAns_M h1, cm o i (by omega) (by omega) (by omega)]
      have k5 : ∀ i, 0 ≤ i → i < 5570 → m4 605 i = imR mem p i := fun i u v => by
        rw [g2 i u v, aUp_nn (by omega), aAns_M (by decide), cm _ _ (by omega) (by omega) (by omega)]; rfl
      refine m_tel hE (by decide) (by decide) (fun q => absurd q (by decide)) ⟨rfl, fin_all (mc := mk) hI.1 (by decide) (fun j => cm 602 j (by omega) (by omega) (by omega)) (fun j => ?_) (fun o i q => ?_) ?_⟩
      · rw [aUp_nn (by omega), k1 _ _ (by decide) (by omega) (by omega)]
      · rw [aUp_nn (by omega), g1 _ _ (by omega), aUp_nn (by omega)]
      have s1 : ∀ o i, o < 603 → spl mk (aUp m4 603 8 0) o i = mk o i := fun o i h => spl_c h
      have s2 : ∀ o i, 603 ≤ o → ¬ (o = 603 ∧ i = 8) → spl mk (aUp m4 603 8 0) o i = m4 o i := fun o i h q => (spl_m h).trans (aUp_nn q)
      have s3 : spl mk (aUp m4 603 8 0) 603 8 = 0 := (spl_m (by decide)).trans aUp_re
      have s4 : ∀ o i, o < 603 → ¬ (o = 2 ∧ i = 9) → ¬ (o = 12 ∧ i = 2) → spl mk (aUp m4 603 8 0) o i = m3 o i := fun o i h q w => (s1 o i h).trans (c0 o i q w)
      have s5 : ∀ o i, o < 603 → (o < 2 ∨ 11 < o) → (o < 349 ∨ 408 < o) → ¬ (o = 12 ∧ i = 2) → spl mk (aUp m4 603 8 0) o i = mem o i := fun o i h q w z => (s1 o i h).trans (cm o i q w z)
      have s6 : ∀ o i, 603 ≤ o → ¬ (o = 603 ∧ (i = 0 ∨ i = 8)) → o ≠ 605 → spl mk (aUp m4 603 8 0) o i = mem o i := fun o i h q w => (s2 o i h (by omega)).trans (k1 o i h (by omega) w)
      have r5 : ∀ i, 0 ≤ i → i < 5570 → spl mk (aUp m4 603 8 0) 605 i = imR mem p i := fun i u v => (s2 605 i (by decide) (by omega)).trans (k5 i u v)
      refine jC_all hC (fun o i w1 w2 w3 w4 w5 w6 w7 w8 w9 w10 w11 w12 w13 => ?_) (full_cg (r := imR mem p) r5 ⟨F.1, yR_fr d1 (s4 _ _ (by decide) (by decide) (by decide)) (fun o i u v => s4 _ _ (by omega) (by omega) (by omega)), fR_fr (fun o i u v => s4 _ _ (by omega) (by omega) (by omega)) d2, lR_row (s4 _ _ (by decide) (by decide) (by decide)) (s4 _ _ (by decide) (by decide) (by decide)) (fun _ _ => rfl) (fun i o j u v w x => s4 _ _ (by omega) (by omega) (by omega)) c3⟩) ?_ ⟨?_, ?_, ?_, fun k a b => ?_, fun j k a b a2 b2 q => ?_, fun k a b => absurd b (by rw [s3]; omega)⟩ (iC_sm hC.2.1 (fun i _ => s5 0 i (by decide) (by decide) (by decide) (by omega)) (fun i _ => s5 1 i (by decide) (by decide) (by decide) (by omega)) fun i q => s6 603 i (by decide) (by omega) (by decide)) (iC_tp hC.1 (s5 _ _ (by decide) (by decide) (by decide) (by decide)) (s6 _ _ (by decide) (by decide) (by decide)) (fun i => s5 _ _ (by decide) (by decide) (by decide) (by omega)) fun i => s6 _ _ (by decide) (by omega) (by decide))
      · by_cases q : o < 603
        · exact s5 o i q (by omega) (by omega) (by omega)
        · exact s6 o i (by omega) (by unfold scr at w1; omega) w5
      · unfold iLw
        rw [s1 _ _ (by decide), c9, r5 2 (by decide) (by decide)]
        exact hv
      · rw [s1 _ _ (by decide), c12, s3]
      · rw [s3]; exact Int.le_refl 0
      · rw [s3]; decide
      · rw [s5 13 k (by decide) (by decide) (by decide) (by omega), s5 186 k (by decide) (by decide) (by decide) (by omega)]
        exact hC.2.2.2.2.1.2.2.2.1 k a b
      · rw [s5 13 j (by decide) (by decide) (by decide) (by omega), s5 13 k (by decide) (by decide) (by decide) (by omega)] at q
        exact hC.2.2.2.2.1.2.2.2.2.1 j k a b a2 b2 q
    rw [e2] at rr ⊢
    exact s_lwNum2 (k := 1197) hE c3.1 l3 rr (fun h1 _ => fin _ (by rw [if_neg (by omega)])) fun h1 => fin _ (by rw [if_pos (by omega)])
  · have u0 : mem 607 p = 0 := by rw [i1] at u; exact u
    refine s_refA hE (by decide) (by decide) (r602 hI.1 ht (by decide) (by decide) fun _ => rfl) (min _ _ ?_)
    have e7 : (aUp (aAns mem (-2)) 603 0 0) 607 p = 0 := by rw [aUp_nn (by omega), aAns_M (by decide)]; exact u0
    rw [e7]
    exact ⟨fun q => absurd rfl q, fun _ => m_tel hE (by decide) (by decide) (fun _ => r604 hI.1 ht (by decide) (by decide) (e604 _)) ⟨rfl, fin_ref hI (by decide)⟩⟩
