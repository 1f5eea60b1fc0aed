-- the invariant behind a change of anything but images, draws, constants
def jG (m m2 : Mm) : Prop := ∀ o i, ¬ scr o i → isK o i → ¬ (2 ≤ o ∧ o ≤ 174) → ¬ (349 ≤ o ∧ o ≤ 408) → o ≠ 605 → o ≠ 608 → o ≠ 609 → o ≠ 591 → o ≠ 592 → o ≠ 612 → ¬ (o = 603 ∧ i ≠ 60) → o ≠ 0 → o ≠ 1 → m2 o i = m o i
theorem full_fr {m m2 : Mm} {y f l : Int} {r : Rw} (hy : ∀ o i, y ≤ o → o ≤ y + 8 → (o = y → i = 10) → m2 o i = m o i) (hf : ∀ o i, f ≤ o → o ≤ f + 3 → m2 o i = m o i) (hl : ∀ o i, l ≤ o → o ≤ l + 55 → ¬ isTx (o - 8) → (o = l → i = 1 ∨ i = 2) → m2 o i = m o i) (hl3 : l = 353 ∨ l = 425 ∨ l = 496) (h : fullR m y f l r) : fullR m2 y f l r := by
  obtain ⟨h1, h2, h3, l1, l2, l3, l4, l5, l6, l7⟩ := h
  refine ⟨h1, yR_fr h2 (hy _ _ (by omega) (by omega) (fun _ => rfl)) (fun o i a b => hy o i (by omega) b (fun q => by omega)), fR_fr hf h3, (hl l 1 (by omega) (by omega) (by unfold isTx; omega) (fun _ => Or.inl rfl)).trans l1, l2, l3, (hl l 2 (by omega) (by omega) (by unfold isTx; omega) (fun _ => Or.inr rfl)).trans l4, l5, l6, fun i a b => ?_⟩
  obtain ⟨D, d1, d2⟩ := l7 i a b
  have ht : isTx (l + 2 + 9 * i) := by unfold isTx; omega
  exact ⟨D, TxS_fr (fun o j u v => hl o j (by omega) (by omega) (tx_stk ht u v) (by omega)) d1, d2⟩
theorem iPast_cg {m m2 : Mm} (hP : iPast m) (h1 : ∀ o i, 12 ≤ o → o ≤ 174 → m2 o i = m o i) (h2 : ∀ i, 3 ≤ i → i < 144 → m2 605 i = m 605 i) (h3 : ∀ i, i < 1232 → m2 608 i = m 608 i) (h4 : ∀ i, m2 609 i = m 609 i) (h5 : m2 603 8 = m 603 8) (h6 : ∀ i, m2 186 i = m 186 i) : iPast m2 := by
  obtain ⟨p1, p2, p3, p4, p5, p6⟩ := hP
  have e13 : ∀ k, m2 13 k = m 13 k := fun k => h1 13 k (by omega) (by omega)
  refine ⟨by rw [h1 12 2 (by omega) (by omega), h5]; exact p1, by rw [h5]; exact p2, by rw [h5]; exact p3, fun k a b => by rw [e13, h6]; exact p4 k a b, fun j k a b c d e => by rw [e13, e13] at e; exact p5 j k a b c d e, fun k a b => ?_⟩
  rw [h5] at b
  obtain ⟨q1, q2, q3, q4⟩ := p6 k a b
  have hy := (p4 k a (by omega)).1
  unfold isPy at hy
  have hs : ∀ i, 3 ≤ i → i < 144 → snR m2 k i = snR m k i := fun i u v => by
    unfold snR
    by_cases y : 3 ≤ i ∧ i < 80
    · rw [if_pos y, if_pos y]; exact h3 _ (by omega)
    · rw [if_neg y, if_neg y]; exact h2 i u v
  rw [e13, h1 14 k (by omega) (by omega), h4]
  exact ⟨yR_cg hs (yR_fr q1 (h1 _ _ (by omega) (by omega)) (fun o i u v => h1 o i (by omega) (by omega))), rOk_cg hs q2, q3, q4⟩
theorem jC_all {m m2 : Mm} (hC : jC m) (hF : jG m m2) (hfull : fullR m2 2 349 353 (m2 605)) (hlw : iLw m2) (hP : iPast m2) (hS : iSm m2) (hT : iTp m2) : jC m2 := by
  obtain ⟨-, -, -, -, -, i0, i1, hd, hk⟩ := hC
  have big : ∀ o i, (o = 606 ∨ o = 607 ∨ (409 ≤ o ∧ o < 411) ∨ (421 ≤ o ∧ o < 427) ∨ o = 481 ∨ (492 ≤ o ∧ o < 498) ∨ (618 ≤ o ∧ o ≤ 620) ∨ o = 633 ∨ o = 635 ∨ o = 186 ∨ o = 585 ∨ o = 586 ∨ o = 588) → m2 o i = m o i := by
    intro o i h
    obtain ⟨u, v⟩ := nscr_big (o := o) (i := i) (by omega)
    exact hF o i u v (by omega) (by omega) (by omega) (by omega) (by omega) (by omega) (by omega) (by omega) (by omega) (by omega) (by omega)
  have img : ∀ k, k = 0 ∨ k = 1 → iImg m k → iImg m2 k := by
    intro k hk ⟨q1, q2, q3⟩
    have e : imR m2 k = imR m k := funext fun i => big _ _ (by omega)
    refine ⟨by rw [big (410 + 71 * k) 3 (by omega), big 607 k (by omega)]; exact q1, by rw [big 607 k (by omega)]; exact q2, fun u => ?_⟩
    rw [big 607 k (by omega)] at u
    rw [e]
    refine full_fr (fun o i a b c => ?_) (fun o i a b => big o i (by omega)) (fun o i a b c d => ?_) (by omega) (q3 u)
    · obtain ⟨w1, w2⟩ := nscr_yd (y := 411 + 71 * k) (o := o) (i := i) (by omega) a (by omega) (by omega)
      exact hF _ _ w1 w2 (by omega) (by omega) (by omega) (by omega) (by omega) (by omega) (by omega) (by omega) (by omega) (by omega) (by omega)
    · refine hF _ _ (fun z => ?_) (by unfold isK; omega) (by omega) (by omega) (by omega) (by omega) (by omega) (by omega) (by omega) (by omega) (by omega) (by omega) (by omega)
      unfold scr at z
      rcases z with z | z
      · exact c z
      · omega
  have e60 : m2 603 60 = m 603 60 := hF 603 60 (by unfold scr isTx; omega) (by unfold isK; omega) (by omega) (by omega) (by omega) (by omega) (by omega) (by omega) (by omega) (by omega) (by omega) (by omega) (by omega)
  have e581 : m2 581 10 = m 581 10 := hF 581 10 (by unfold scr isTx; omega) (by unfold isK; omega) (by omega) (by omega) (by omega) (by omega) (by omega) (by omega) (by omega) (by omega) (by omega) (by omega) (by omega)
  refine ⟨hT, hS, hfull, hlw, hP, img 0 (Or.inl rfl) i0, img 1 (Or.inr rfl) i1, ?_, ?_⟩
  · unfold iDr
    rw [e60, e581]
    rcases hd with q | ⟨q1, q2, q3, q4⟩
    · exact Or.inl q
    · refine Or.inr ⟨q1, q2, q3, fun p a b => ?_⟩
      rw [big 585 p (by omega), big 586 p (by omega), big 588 p (by omega), big 635 _ (by omega), big 635 _ (by omega), big 635 _ (by omega)]
      exact q4 p a b
  · unfold iKs at hk ⊢
    simp only [big 618 _ (by omega), big 619 _ (by omega), big 620 _ (by omega), big 633 _ (by omega)]
    exact hk
/-- the class's cells of one memory, the model's of another -/
def spl (mc mm : Mm) : Mm := fun o i => if o < 603 then mc o i else mm o i
theorem spl_c {mc mm : Mm} {o i : Int} (h : o < 603) : spl mc mm o i = mc o i := if_pos h
theorem spl_m {mc mm : Mm} {o i : Int} (h : 603 ≤ o) : spl mc mm o i = mm o i := if_neg (by omega)
theorem fin_all {n : Nat} {m0 mc mm : Mm} {r : Int} (hI : iRf n m0) (h7 : -7 < r) (c2 : ∀ j, mc 602 j = m0 602 j) (c4 : ∀ j, mm 604 j = m0 604 j) (bs : ∀ o i, o < 603 → mm o i = aAns mc r o i) (hV : jC (spl mc mm)) : iAll jC (n + 1) (aTel mm r) := by
  refine ⟨iRf_fin h7 hI c2 c4 (fun o i q => bs o i (by omega)), jC_fr (fun o i _ k => ?_) hV⟩
  by_cases q : o < 603
  · rw [spl_c q, aTel_C q, bs o i q, aAns_K k]
  · rw [spl_m (by omega), aTel_K k]
/-- what the ends of both calls need of the counts -/
theorem r602 {n : Nat} {m0 mc : Mm} {r : Int} (hI : iRf n m0) (hn : n < 600) (h7 : -7 < r) (h0 : r < 0) (c : ∀ j, mc 602 j = m0 602 j) : R32 (mc 602 (-r) + 1) := by
  obtain ⟨e1, e2, e3⟩ := hI.2 (-r) (by omega) (by omega)
  rw [c]; exact ⟨by omega, by omega⟩
theorem r604 {n : Nat} {m0 mm : Mm} {r : Int} (hI : iRf n m0) (hn : n < 600) (h7 : -7 < r) (h0 : r < 0) (c : ∀ j, mm 604 j = m0 604 j) : R32 (mm 604 (-r) + 1) := by
  obtain ⟨e1, e2, e3⟩ := hI.2 (-r) (by omega) (by omega)
  rw [c, ← e1]; exact ⟨by omega, by omega⟩
/-- a refusal by both, nothing else changed -/
theorem fin_ref {n : Nat} {m0 : Mm} {r : Int} (hI : iAll jC n m0) (h7 : -7 < r) : iAll jC (n + 1) (aTel (aUp (aAns m0 r) 603 0 0) r) :=
  fin_all hI.1 h7 (fun _ => rfl) (fun j => (aUp_rn (by decide)).trans (aAns_M (by decide))) (fun o i q => aUp_rn (by omega)) (jC_fr (fun o i _ k => by
    by_cases q : o < 603
    · exact spl_c q
    · rw [spl_m (by omega), K_thr k, aAns_K k]) hI.2)
theorem iC_sm {m m2 : Mm} (h : iSm m) (g0 : ∀ i, i = 11 ∨ i = 12 → m2 0 i = m 0 i) (g1 : ∀ i, i = 6 ∨ i = 9 → m2 1 i = m 1 i) (g3 : ∀ i, i = 11 ∨ i = 18 ∨ i = 20 ∨ i = 43 ∨ i = 56 → m2 603 i = m 603 i) : iSm m2 := by
  obtain ⟨s1, s2, s3, s4, s5, s6, s7, s8, s9⟩ := h
  exact ⟨by rw [g0 11 (by omega), g3 11 (by omega)]; exact s1, by rw [g0 12 (by omega), g3 18 (by omega)]; exact s2, by rw [g1 9 (by omega), g3 56 (by omega)]; exact s3, by rw [g1 6 (by omega), g3 43 (by omega)]; exact s4, by rw [g3 20 (by omega)]; exact s5, by rw [g0 11 (by omega)]; exact s6, by rw [g0 11 (by omega)]; exact s7, by rw [g1 6 (by omega)]; exact s8, by rw [g1 6 (by omega)]; exact s9⟩
theorem iC_tp {m m2 : Mm} (h : iTp m) (g1 : m2 591 2 = m 591 2) (g2 : m2 603 13 = m 603 13) (g3 : ∀ i, m2 592 i = m 592 i) (g4 : ∀ i, m2 612 i = m 612 i) : iTp m2 := by
  obtain ⟨t1, t2, t3, t4⟩ := h
  exact ⟨by rw [g1, g2]; exact t1, by rw [g1]; exact t2, by rw [g1]; exact t3, fun i a b => by rw [g1] at b; rw [g3, g4]; exact t4 i a b⟩
theorem lR_row {m m2 : Mm} {l : Int} {r r2 : Rw} (h1 : m2 l 1 = m l 1) (h2 : m2 l 2 = m l 2) (hr : ∀ i, i = 1 ∨ i = 2 ∨ 170 ≤ i → r2 i = r i) (ht : ∀ i o j, 0 ≤ i → i < 6 → l + 2 + 9 * i ≤ o → o ≤ l + 2 + 9 * i + 7 → m2 o j = m o j) (h : lR m l r) : lR m2 l r2 := by
  obtain ⟨l1, l2, l3, l4, l5, l6, l7⟩ := h
  refine ⟨by rw [h1, hr 1 (by omega)]; exact l1, by rw [hr 1 (by omega)]; exact l2, by rw [hr 1 (by omega)]; exact l3, by rw [h2, hr 2 (by omega)]; exact l4, by rw [hr 2 (by omega)]; exact l5, by rw [hr 1 (by omega), hr 2 (by omega)]; exact l6, fun i a b => ?_⟩
  rw [hr 1 (by omega)] at b
  obtain ⟨D, d1, d2⟩ := l7 i a b
  exact ⟨D, TxS_fr (fun o j u v => ht i o j a (by omega) u v) d1, slotS_fr (fun j u => hr j (by omega)) d2⟩
theorem st_find {E : EN} (hE : Ep E) : stI E 1199 (iAll jC) mX11_find mX12_find 3 := by
  intro t mem av ht hl hr hI
  obtain ⟨k, c, s, rfl⟩ := three_arg hl
  have hk : R32 k := hr k (by simp)
  have hc : R32 c := hr c (by simp)
  have hs : R32 s := hr s (by simp)
  have hC := hI.2
  have hF := hC.2.2.1
  obtain ⟨f1, f2, f3, f4⟩ := hF.2.2.1
  have e604 : ∀ mc r, (∀ o i, 603 ≤ o → mc o i = mem o i) → ∀ o i, 603 ≤ o → ¬ (o = 603 ∧ i = 0) → (aUp (aAns mc r) 603 0 0) o i = mem o i := fun mc r h o i a b => (aUp_at _ _ _ _ _ _).trans ((if_neg b).trans ((aAns_M a).trans (h o i a)))
  have ref : ∀ r, -7 < r → r < 0 → R32 r → ∀ (Z : Int → Mm → Prop), (∀ m1, m1 = aAns mem r → Z r m1) → CI E mX11_refused 1198 mem [aR 0, aI r] Z := fun r h7 h0 _ Z hz => s_refA hE h7 h0 (r602 hI.1 ht h7 h0 fun _ => rfl) (hz _ rfl)
  have tel : ∀ r, -7 < r → r < 0 → R32 r → CI E mX12_tell 1198 (aUp (aAns mem r) 603 0 0) [aR 603, aI r] (fun r2 m2 => r = r2 ∧ iAll jC (t + 1) m2) := fun r h7 h0 hr => m_tel hE hr h7 (fun _ => r604 hI.1 ht h7 h0 fun j => e604 mem r (fun _ _ _ => rfl) 604 j (by decide) (by omega)) ⟨rfl, fin_ref hI h7⟩
  have bad : ¬ ((0 ≤ k ∧ k ≤ 9) ∧ (0 ≤ c ∧ c < 32) ∧ (s = 0 ∨ s = 1)) → CI E mX11_refused 1198 mem [aR 0, aI (-1)] (fun r m1 => CI E mX12_find 1199 m1 [aR 603, aI k, aI c, aI s] (fun r2 m2 => r = r2 ∧ iAll jC (t + 1) m2)) := by
    intro hg
    refine ref (-1) (by decide) (by decide) (by decide) _ fun m1 e => ?_
    subst e
    have tl := tel (-1) (by decide) (by decide) (by decide)
    exact eX12_find (k := 1198) hk hc hs (rX12_find_0 hE fun r1 => s_in hE r1 (by decide) (by decide) (fun a b => ⟨fun d => absurd d (by decide), fun _ _ => m_isCell (k := 1197) hE hc (fun a2 b2 => ⟨fun d => absurd d (by decide), fun _ r3 => s_in hE r3 (by decide) (by decide) (fun a3 b3 => absurd ⟨⟨a, b⟩, ⟨a2, b2⟩, by omega⟩ hg) (fun a3 => ⟨fun d => absurd rfl d, fun _ => tl⟩)⟩) (fun a2 => ⟨fun _ => tl, fun d => absurd rfl d⟩)⟩) (fun a => ⟨fun _ => tl, fun d => absurd rfl d⟩))
  refine eX11_find (k := 1198) hk hc hs (rX11_find_0 hE fun _ => s_isWithin hE hk (by decide) (by decide) (fun a b => ⟨fun d => absurd d (by decide), fun _ _ => s_isCell hE hc (fun a2 b2 => ⟨fun d => absurd d (by decide), fun _ _ => s_isYesNo hE hs (fun a3 => ⟨fun _ _ _ _ => ?_, fun d => absurd d (by decide)⟩) (fun a3 => ⟨fun d => absurd rfl d, fun _ => bad (by omega)⟩)⟩) (fun a2 => ⟨fun _ => bad (by omega), fun d => absurd rfl d⟩)⟩) (fun a => ⟨fun _ => bad (by omega), fun d => absurd rfl d⟩))
  -- the model's call up to its count
  have mgo : ∀ (m1 : Mm) (Z : Int → Mm → Prop), (aUp m1 603 0 0) 605 = mem 605 → ((¬ mem 605 0 = 8 → CI E mX12_tell 1198 (aUp (aUp (aUp (aUp (aUp m1 603 0 0) 605 (144 + 3 * mem 605 0) k) 605 (144 + 3 * mem 605 0 + 1) c) 605 (144 + 3 * mem 605 0 + 2) s) 605 0 (mem 605 0 + 1)) [aR 603, aI (mem 605 0 + 1)] Z) ∧ (mem 605 0 = 8 → CI E mX12_tell 1198 (aUp m1 603 0 0) [aR 603, aI (-5)] Z)) → CI E mX12_find 1199 m1 [aR 603, aI k, aI c, aI s] Z := by
    intro m1 Z e5 hz
    have e0 : (aUp (aUp (aUp (aUp m1 603 0 0) 605 (144 + 3 * mem 605 0) k) 605 (144 + 3 * mem 605 0 + 1) c) 605 (144 + 3 * mem 605 0 + 2) s) 605 0 = mem 605 0 := by
      rw [aUp_ri (by omega), aUp_ri (by omega), aUp_ri (by omega), e5]
    refine eX12_find (k := 1198) hk hc hs (rX12_find_0 hE fun r1 => s_in hE r1 (by decide) (by decide) (fun a b => ⟨fun d => absurd d (by decide), fun _ _ => m_isCell (k := 1197) hE hc (fun a2 b2 => ⟨fun d => absurd d (by decide), fun _ r3 => s_in hE r3 (by decide) (by decide) (fun a4 b4 => ⟨fun _ => ?_, fun d => absurd d (by decide)⟩) (fun a4 => absurd a4 (by omega))⟩) (fun a2 => absurd a2 (by omega))⟩) (fun a => absurd a (by omega)))
    rw [e5, e0]
    exact ⟨fun u => ⟨⟨by omega, by omega⟩, ⟨by omega, by omega⟩, ⟨by omega, by omega⟩, ⟨by omega, by omega⟩, ⟨by omega, by omega⟩, ⟨by omega, by omega⟩, ⟨by omega, by omega⟩, ⟨by omega, by omega⟩, ⟨by omega, by omega⟩, fun _ => hz.1 u⟩, hz.2⟩
  refine eX1_add hk hc hs (rX1_add_0 hE (Or.inl rfl) ⟨fun u => ?_, fun u => ?_⟩)
  · rw [f1] at u ⊢
    refine ⟨⟨f2, u⟩, ⟨by omega, by omega⟩, fun rr => ?_⟩
    generalize hmc : aUp (aUp (aUp (aUp mem (349 + 1) (mem 605 0) k) (349 + 2) (mem 605 0) c) (349 + 3) (mem 605 0) s) 349 0 (mem 605 0 + 1) = mc
    have cm : ∀ o i, ¬ (349 ≤ o ∧ o ≤ 352) → mc o i = mem o i := fun o i h => by
      rw [← hmc, aUp_rn (by omega), aUp_rn (by omega), aUp_rn (by omega), aUp_rn (by omega)]
    refine s_ans (k := 1197) hE rr (by omega) (fun q => absurd q (by omega)) ?_
    have eM := e604 mc (mem 605 0 + 1) (fun o i h => cm o i (by omega))
    have e5 : (aUp (aAns mc (mem 605 0 + 1)) 603 0 0) 605 = mem 605 := funext fun i => eM 605 i (by decide) (by omega)
    refine mgo _ _ e5 ⟨fun _ => ?_, fun q => absurd q (by omega)⟩
    refine m_tel hE rr (by omega) (fun q => absurd q (by omega)) ⟨rfl, ?_⟩
    generalize hmm : aUp (aUp (aUp (aUp (aUp (aAns mc (mem 605 0 + 1)) 603 0 0) 605 (144 + 3 * mem 605 0) k) 605 (144 + 3 * mem 605 0 + 1) c) 605 (144 + 3 * mem 605 0 + 2) s) 605 0 (mem 605 0 + 1) = mm
    have mmo : ∀ o i, o ≠ 605 → mm o i = (aUp (aAns mc (mem 605 0 + 1)) 603 0 0) o i := fun o i h => by rw [← hmm, aUp_rn h, aUp_rn h, aUp_rn h, aUp_rn h]
    have mm5 : ∀ i, mm 605 i = if i = 0 then mem 605 0 + 1 else if i = 146 + 3 * mem 605 0 then s else if i = 145 + 3 * mem 605 0 then c else if i = 144 + 3 * mem 605 0 then k else mem 605 i := fun i => by
      rw [← hmm, aUp_at, aUp_at, aUp_at, aUp_at, e5]
      by_cases z0 : i = 0
      · rw [if_pos ⟨rfl, z0⟩, if_pos z0]
      · rw [if_neg (fun q => z0 q.2), if_neg z0]
        by_cases z1 : i = 146 + 3 * mem 605 0
        · rw [if_pos ⟨rfl, by omega⟩, if_pos z1]
        · rw [if_neg (fun q => z1 (by omega)), if_neg z1]
          by_cases z2 : i = 145 + 3 * mem 605 0
          · rw [if_pos ⟨rfl, by omega⟩, if_pos z2]
          · rw [if_neg (fun q => z2 (by omega)), if_neg z2]
            by_cases z3 : i = 144 + 3 * mem 605 0
            · rw [if_pos ⟨rfl, z3⟩, if_pos z3]
            · rw [if_neg (fun q => z3 q.2), if_neg z3]
    have mmi : ∀ i, i ≠ 0 → i < 144 ∨ 168 ≤ i → mm 605 i = mem 605 i := fun i p q => by rw [mm5, if_neg p, if_neg (by omega), if_neg (by omega), if_neg (by omega)]
    have mM : ∀ o i, 603 ≤ o → o ≠ 605 → ¬ (o = 603 ∧ i = 0) → mm o i = mem o i := fun o i p q w => (mmo o i q).trans (eM o i p w)
    refine fin_all hI.1 (by omega) (fun j => cm 602 j (by omega)) (fun j => mM 604 j (by decide) (by decide) (by omega)) (fun o i q => (mmo o i (by omega)).trans (aUp_rn (by omega))) ?_
    have sc : ∀ o i, o < 603 → ¬ (349 ≤ o ∧ o ≤ 352) → spl mc mm o i = mem o i := fun o i p q => (spl_c p).trans (cm o i q)
    have sm : ∀ o i, 603 ≤ o → o ≠ 605 → ¬ (o = 603 ∧ i = 0) → spl mc mm o i = mem o i := fun o i p q w => (spl_m p).trans (mM o i p q w)
    have s5 : (spl mc mm) 605 = mm 605 := funext fun i => spl_m (by decide)
    refine jC_all hC (fun o i w1 w2 w3 w4 w5 _ _ _ _ _ _ _ _ => ?_) ?_ ?_ (iPast_cg hC.2.2.2.2.1 (fun o i p q => sc o i (by omega) (by omega)) (fun i p q => by rw [s5, mmi i (by omega) (by omega)]) (fun i _ => sm 608 i (by decide) (by decide) (by omega)) (fun i => sm 609 i (by decide) (by decide) (by omega)) (sm 603 8 (by decide) (by decide) (by decide)) (fun i => sc 186 i (by decide) (by omega))) (iC_sm hC.2.1 (fun i _ => sc 0 i (by decide) (by omega)) (fun i _ => sc 1 i (by decide) (by omega)) (fun i q => sm 603 i (by decide) (by decide) (by omega))) (iC_tp hC.1 (sc 591 2 (by decide) (by omega)) (sm 603 13 (by decide) (by decide) (by decide)) (fun i => sc 592 i (by decide) (by omega)) (fun i => sm 612 i (by decide) (by decide) (by omega)))
    · by_cases q : o < 603
      · exact sc o i q (by omega)
      · exact sm o i (by omega) w5 (fun z => w1 (by unfold scr; omega))
    · rw [s5]
      refine ⟨rOk_cg (fun i p q => mmi i (by omega) (by omega)) hF.1, yR_cg (fun i p q => mmi i (by omega) (by omega)) (yR_fr hF.2.1 (sc _ _ (by decide) (by omega)) (fun o i p q => sc o i (by omega) (by omega))), ⟨?_, ?_, ?_, fun i p q => ?_⟩, lR_row (sc 353 1 (by decide) (by omega)) (sc 353 2 (by decide) (by omega)) (fun i q => mmi i (by omega) (by omega)) (fun i o j p q w x => sc o j (by omega) (by omega)) hF.2.2.2⟩
      · rw [spl_c (by decide), ← hmc, aUp_re, mm5, if_pos rfl]
      · rw [mm5, if_pos rfl]; omega
      · rw [mm5, if_pos rfl]; omega
      · obtain ⟨g1, g2, g3, g4⟩ := f4 i p q
        have c1 : mc (349 + 1) i = if i = mem 605 0 then k else mem (349 + 1) i := by
          rw [← hmc, aUp_rn (show (349 : Int) + 1 ≠ 349 by decide), aUp_rn (show (349 : Int) + 1 ≠ 349 + 3 by decide), aUp_rn (show (349 : Int) + 1 ≠ 349 + 2 by decide), aUp_at]
          by_cases z : i = mem 605 0
          · rw [if_pos ⟨rfl, z⟩, if_pos z]
          · rw [if_neg (fun w => z w.2), if_neg z]
        have c2 : mc (349 + 2) i = if i = mem 605 0 then c else mem (349 + 2) i := by
          rw [← hmc, aUp_rn (show (349 : Int) + 2 ≠ 349 by decide), aUp_rn (show (349 : Int) + 2 ≠ 349 + 3 by decide), aUp_at]
          by_cases z : i = mem 605 0
          · rw [if_pos ⟨rfl, z⟩, if_pos z]
          · rw [if_neg (fun w => z w.2), if_neg z, aUp_rn (show (349 : Int) + 2 ≠ 349 + 1 by decide)]
        have c3 : mc (349 + 3) i = if i = mem 605 0 then s else mem (349 + 3) i := by
          rw [← hmc, aUp_rn (show (349 : Int) + 3 ≠ 349 by decide), aUp_at]
          by_cases z : i = mem 605 0
          · rw [if_pos ⟨rfl, z⟩, if_pos z]
          · rw [if_neg (fun w => z w.2), if_neg z, aUp_rn (show (349 : Int) + 3 ≠ 349 + 2 by decide), aUp_rn (show (349 : Int) + 3 ≠ 349 + 1 by decide)]
        have d1 : mm 605 (144 + 3 * i) = if i = mem 605 0 then k else mem 605 (144 + 3 * i) := by
          rw [mm5, if_neg (show ¬ 144 + 3 * i = 0 by omega), if_neg (show ¬ 144 + 3 * i = 146 + 3 * mem 605 0 by omega), if_neg (show ¬ 144 + 3 * i = 145 + 3 * mem 605 0 by omega)]
          by_cases z : i = mem 605 0
          · rw [if_pos (show 144 + 3 * i = 144 + 3 * mem 605 0 by omega), if_pos z]
          · rw [if_neg (show ¬ 144 + 3 * i = 144 + 3 * mem 605 0 by omega), if_neg z]
        have d2 : mm 605 (145 + 3 * i) = if i = mem 605 0 then c else mem 605 (145 + 3 * i) := by
          rw [mm5, if_neg (show ¬ 145 + 3 * i = 0 by omega), if_neg (show ¬ 145 + 3 * i = 146 + 3 * mem 605 0 by omega)]
          by_cases z : i = mem 605 0
          · rw [if_pos (show 145 + 3 * i = 145 + 3 * mem 605 0 by omega), if_pos z]
          · rw [if_neg (show ¬ 145 + 3 * i = 145 + 3 * mem 605 0 by omega), if_neg (show ¬ 145 + 3 * i = 144 + 3 * mem 605 0 by omega), if_neg z]
        have d3 : mm 605 (146 + 3 * i) = if i = mem 605 0 then s else mem 605 (146 + 3 * i) := by
          rw [mm5, if_neg (show ¬ 146 + 3 * i = 0 by omega)]
          by_cases z : i = mem 605 0
          · rw [if_pos (show 146 + 3 * i = 146 + 3 * mem 605 0 by omega), if_pos z]
          · rw [if_neg (show ¬ 146 + 3 * i = 146 + 3 * mem 605 0 by omega), if_neg (show ¬ 146 + 3 * i = 145 + 3 * mem 605 0 by omega), if_neg (show ¬ 146 + 3 * i = 144 + 3 * mem 605 0 by omega), if_neg z]
        rw [spl_c (by decide), spl_c (by decide), spl_c (by decide), c1, c2, c3, d1, d2, d3]
        by_cases z : i = mem 605 0
        · rw [if_pos z, if_pos z, if_pos z, if_pos z, if_pos z, if_pos z]
          exact ⟨rfl, rfl, rfl, a, b, a2, b2, by omega, by omega⟩
        · rw [if_neg z, if_neg z, if_neg z, if_neg z, if_neg z, if_neg z]
          exact ⟨g1, g2, g3, g4⟩
    · unfold iLw
      rw [s5, mmi 2 (by decide) (by decide), sc 2 9 (by decide) (by omega)]
      exact hC.2.2.2.1
  · rw [f1] at u
    intro rr
    refine s_ans (k := 1197) hE rr (by decide) (fun q => r602 hI.1 ht (by decide) (by decide) fun _ => rfl) ?_
    exact mgo _ _ (funext fun i => e604 mem (-5) (fun _ _ _ => rfl) 605 i (by decide) (by omega)) ⟨fun q => absurd q (by omega), fun _ => tel (-5) (by decide) (by decide) (by decide)⟩
