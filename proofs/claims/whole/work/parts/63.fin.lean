-- how a call that changes something ends
def aAns (m : Mm) (r : Int) : Mm := if r < 0 then aUp (aUp m 0 13 r) 602 (-r) (m 602 (-r) + 1) else aUp m 0 13 0
def aTel (m : Mm) (r : Int) : Mm := if r < 0 then aUp (aUp m 603 1 r) 604 (-r) (m 604 (-r) + 1) else aUp m 603 1 0
theorem s_ans {E : EN} (hE : Ep E) {k : Nat} {mem : Mm} {Q : Int → Mm → Prop} {r : Int} (hr : R32 r) (h7 : -7 < r) (h3 : r < 0 → R32 (mem 602 (-r) + 1)) (hQ : Q r (aAns mem r)) : CI E mX11_answered (k + 1) mem [aR 0, aI r] Q := by
  unfold aAns at hQ
  refine eX11_answered hr (rX11_answered_0 hE ⟨fun c _ => ?_, fun c _ => ?_⟩)
  · rw [if_neg (by omega)] at hQ
    exact s_granted hE hr hQ
  · rw [if_pos c] at hQ
    exact s_refused hE h7 c (h3 c) hQ
theorem s_refA {E : EN} (hE : Ep E) {k : Nat} {mem : Mm} {Q : Int → Mm → Prop} {r : Int} (h7 : -7 < r) (h0 : r < 0) (h3 : R32 (mem 602 (-r) + 1)) (hQ : Q r (aAns mem r)) : CI E mX11_refused k mem [aR 0, aI r] Q := by
  unfold aAns at hQ
  rw [if_pos h0] at hQ
  exact s_refused hE h7 h0 h3 hQ
theorem s_graA {E : EN} (hE : Ep E) {k : Nat} {mem : Mm} {Q : Int → Mm → Prop} {r : Int} (hr : R32 r) (h0 : 0 ≤ r) (hQ : Q r (aAns mem r)) : CI E mX11_granted k mem [aR 0, aI r] Q := by
  unfold aAns at hQ
  rw [if_neg (by omega)] at hQ
  exact s_granted hE hr hQ
theorem m_tel {E : EN} (hE : Ep E) {k : Nat} {mem : Mm} {Q : Int → Mm → Prop} {r : Int} (hr : R32 r) (h7 : -7 < r) (h3 : r < 0 → R32 (mem 604 (-r) + 1)) (hQ : Q r (aTel mem r)) : CI E mX12_tell k mem [aR 603, aI r] Q := by
  unfold aTel at hQ
  by_cases c : r < 0
  · rw [if_pos c] at hQ
    exact s_tellN hE h7 c (h3 c) hQ
  · rw [if_neg c] at hQ
    exact s_tellP hE hr (by omega) hQ
theorem aAns_K {m : Mm} {r o i : Int} (h : isK o i) : aAns m r o i = m o i := by
  unfold aAns
  split
  · rw [K_602 h, K_lat h]
  · rw [K_lat h]
theorem aTel_K {m : Mm} {r o i : Int} (h : isK o i) : aTel m r o i = m o i := by
  unfold aTel
  split
  · rw [K_604 h, K_sta h]
  · rw [K_sta h]
theorem aAns_M {m : Mm} {r o i : Int} (h : 603 ≤ o) : aAns m r o i = m o i := by
  unfold aAns
  split
  · rw [aUp_rn (by omega), aUp_rn (by omega)]
  · rw [aUp_rn (by omega)]
theorem aTel_C {m : Mm} {r o i : Int} (h : o < 603) : aTel m r o i = m o i := by
  unfold aTel
  split
  · rw [aUp_rn (by omega), aUp_rn (by omega)]
  · rw [aUp_rn (by omega)]
/-- the refusals' part behind both: the class's m0 .. mc, then the model's from ms on -/
theorem iRf_fin {n : Nat} {m0 mc mm : Mm} {r : Int} (h7 : -7 < r) (hI : iRf n m0) (c1 : ∀ j, mc 602 j = m0 602 j) (c2 : ∀ j, mm 604 j = m0 604 j) (c3 : ∀ o i, (o = 0 ∧ i = 13) ∨ o = 602 → mm o i = aAns mc r o i) : iRf (n + 1) (aTel mm r) := by
  obtain ⟨e0, e⟩ := hI
  have f0 : aTel mm r 0 13 = aAns mc r 0 13 := (aTel_C (by decide)).trans (c3 0 13 (Or.inl ⟨rfl, rfl⟩))
  have f2 : ∀ j, aTel mm r 602 j = aAns mc r 602 j := fun j => (aTel_C (by decide)).trans (c3 602 j (Or.inr rfl))
  by_cases c : r < 0
  · refine ⟨?_, fun j a b => ?_⟩
    · rw [f0]
      unfold aAns aTel
      rw [if_pos c, if_pos c, aUp_rn (by decide), aUp_re, aUp_rn (by decide), aUp_re]
    · rw [f2]
      unfold aAns aTel
      rw [if_pos c, if_pos c]
      obtain ⟨g1, g2, g3⟩ := e j a b
      by_cases z : j = -r
      · rw [z, aUp_re, aUp_re, c1, c2, ← z, g1]
        rw [g1] at g2 g3
        exact ⟨rfl, by omega, by omega⟩
      · rw [aUp_ri z, aUp_ri z, aUp_rn (by decide), aUp_rn (by decide), c1, c2]
        exact ⟨g1, g2, by omega⟩
  · refine ⟨?_, fun j a b => ?_⟩
    · rw [f0]
      unfold aAns aTel
      rw [if_neg c, if_neg c, aUp_re, aUp_re]
    · rw [f2]
      unfold aAns aTel
      rw [if_neg c, if_neg c, aUp_rn (by decide), aUp_rn (by decide), c1, c2]
      obtain ⟨g1, g2, g3⟩ := e j a b
      exact ⟨g1, g2, by omega⟩
/-- all but the yard that stands, its past, the tapes, the small numbers -/
def jF (m m2 : Mm) : Prop := ∀ o i, ¬ scr o i → isK o i → ¬ (2 ≤ o ∧ o ≤ 174) → o ≠ 605 → o ≠ 608 → o ≠ 609 → o ≠ 591 → o ≠ 592 → o ≠ 612 → ¬ (o = 603 ∧ i ≠ 60) → o ≠ 0 → o ≠ 1 → m2 o i = m o i
theorem jC_yard {m m2 : Mm} (hC : jC m) (hF : jF m m2) (ho : ∀ i, i < 3 ∨ 144 ≤ i → m2 605 i = m 605 i) (hok : rOk 999 (m2 605)) (hR : yR m2 2 (m2 605)) (h9 : m2 2 9 = m 2 9) (hP : iPast m2) (hS : iSm m2) (hT : iTp m2) : jC m2 := by
  obtain ⟨-, -, ⟨-, -, hf, hl⟩, hlw, -, i0, i1, hd, hk⟩ := hC
  -- a memory alike m2 on the rest, m on the yard
  have big : ∀ o i, (o = 606 ∨ o = 607 ∨ (348 < o ∧ o < 355) ∨ (409 ≤ o ∧ o < 411) ∨ (421 ≤ o ∧ o < 427) ∨ o = 481 ∨ (492 ≤ o ∧ o < 498) ∨ (618 ≤ o ∧ o ≤ 620) ∨ o = 633 ∨ o = 635 ∨ o = 186 ∨ o = 585 ∨ o = 586 ∨ o = 588) → m2 o i = m o i := by
    intro o i h
    obtain ⟨u, v⟩ := nscr_big (o := o) (i := i) (by omega)
    exact hF o i u v (by omega) (by omega) (by omega) (by omega) (by omega) (by omega) (by omega) (by omega) (by omega) (by omega)
  have txs : ∀ l t D, (l = 353 ∨ l = 425 ∨ l = 496) → 0 ≤ t → t < 6 → TxS m (l + 2 + 9 * t) 10 D → TxS m2 (l + 2 + 9 * t) 10 D := by
    intro l t D hl h0 h1
    refine TxS_fr fun o i u v => ?_
    obtain ⟨w1, w2⟩ := nscr_tx (l := l) (t := t) (o := o) (i := i) hl ⟨h0, h1⟩ u v
    exact hF o i w1 w2 (by omega) (by omega) (by omega) (by omega) (by omega) (by omega) (by omega) (by omega) (by omega) (by omega)
  have lwr : ∀ l r r2, (l = 353 ∨ l = 425 ∨ l = 496) → (∀ i, i < 3 ∨ 144 ≤ i → r2 i = r i) → lR m l r → lR m2 l r2 := by
    intro l r r2 hl hr ⟨l1, l2, l3, l4, l5, l6, l7⟩
    refine ⟨by rw [big l 1 (by omega), hr 1 (by omega)]; exact l1, by rw [hr 1 (by omega)]; exact l2, by rw [hr 1 (by omega)]; exact l3, by rw [big l 2 (by omega), hr 2 (by omega)]; exact l4, by rw [hr 2 (by omega)]; exact l5, by rw [hr 1 (by omega), hr 2 (by omega)]; exact l6, fun i a b => ?_⟩
    rw [hr 1 (by omega)] at b
    obtain ⟨D, d1, d2⟩ := l7 i a b
    exact ⟨D, txs l i D hl a (by omega) d1, slotS_fr (fun j u => hr j (by omega)) d2⟩
  have fdr : ∀ f r r2, (f = 349 ∨ f = 421 ∨ f = 492) → (∀ i, i < 3 ∨ 144 ≤ i → r2 i = r i) → fR m f r → fR m2 f r2 := by
    intro f r r2 hf hr h
    exact fR_cg (fun i q => hr i (by omega)) (fR_fr (fun o i u v => big o i (by omega)) h)
  have img : ∀ k, k = 0 ∨ k = 1 → iImg m k → iImg m2 k := by
    intro k hk ⟨q1, q2, q3⟩
    have e : imR m2 k = imR m k := funext fun i => big _ _ (by omega)
    refine ⟨by rw [big (410 + 71 * k) 3 (by omega), big 607 k (by omega)]; exact q1, by rw [big 607 k (by omega)]; exact q2, fun u => ?_⟩
    rw [big 607 k (by omega)] at u
    obtain ⟨f1, f2, f3, f4⟩ := q3 u
    rw [e]
    refine ⟨f1, yR_fr f2 ?_ (fun o i a b => ?_), fdr _ _ _ (by omega) (fun _ _ => rfl) f3, lwr _ _ _ (by omega) (fun _ _ => rfl) f4⟩
    · obtain ⟨w1, w2⟩ := nscr_yd (y := 411 + 71 * k) (o := 411 + 71 * k) (i := 10) (by omega) (by omega) (by omega) (by omega)
      exact hF _ _ w1 w2 (by omega) (by omega) (by omega) (by omega) (by omega) (by omega) (by omega) (by omega) (by omega) (by omega)
    · obtain ⟨w1, w2⟩ := nscr_yd (y := 411 + 71 * k) (o := o) (i := i) (by omega) (by omega) (by omega) (by omega)
      exact hF _ _ w1 w2 (by omega) (by omega) (by omega) (by omega) (by omega) (by omega) (by omega) (by omega) (by omega) (by omega)
  have e60 : m2 603 60 = m 603 60 := hF 603 60 (by unfold scr isTx; omega) (by unfold isK; omega) (by omega) (by omega) (by omega) (by omega) (by omega) (by omega) (by omega) (by omega) (by omega) (by omega)
  have e581 : m2 581 10 = m 581 10 := hF 581 10 (by unfold scr isTx; omega) (by unfold isK; omega) (by omega) (by omega) (by omega) (by omega) (by omega) (by omega) (by omega) (by omega) (by omega) (by omega)
  refine ⟨hT, hS, ⟨hok, hR, fdr _ _ _ (Or.inl rfl) ho hf, lwr _ _ _ (Or.inl rfl) ho hl⟩, ?_, hP, img 0 (Or.inl rfl) i0, img 1 (Or.inr rfl) i1, ?_, ?_⟩
  · unfold iLw
    rw [h9, ho 2 (by omega)]
    exact hlw
  · unfold iDr
    rw [e60, e581]
    rcases hd with q | ⟨q1, q2, q3, q4⟩
    · exact Or.inl q
    · refine Or.inr ⟨q1, q2, q3, fun p a b => ?_⟩
      rw [big 585 p (by omega), big 586 p (by omega), big 588 p (by omega), big 635 _ (by omega), big 635 _ (by omega), big 635 _ (by omega)]
      exact q4 p a b
  · unfold iKs at hk ⊢
    simp only [big 618 _ (by omega), big 619 _ (by omega), big 620 _ (by omega), big 633 _ (by omega)]
    exact hk
/-- an act by both sides -/
theorem fin_act {n : Nat} {m0 mc mm : Mm} {L : LW} {r2 : Rw} {P : PS} {r : Int} (hI : iAll jC n m0) (h7 : -7 < r) (ha : aFr m0 mc) (h9 : mc 2 9 = m0 2 9) (hV : cV mc r2 P L) (hb : bFr (aUp (aAns mc r) 603 0 0) mm) (hW : mV mm r2 P L) (hok : rOk 999 r2) (hP : pOk P) (ho : ∀ i, i < 3 ∨ 144 ≤ i → r2 i = m0 605 i) (h43 : mc 1 6 = mm 603 43) (hb0 : 0 ≤ mc 1 6) (hb1 : mc 1 6 ≤ 10) : iAll jC (n + 1) (aTel mm r) := by
  have nt : ∀ o : Int, o < 363 → ¬ isTx (o - 8) := fun o h => by unfold isTx; omega
  have bs : ∀ o i, o < 603 → mm o i = aAns mc r o i := fun o i h => (hb o i (by omega) (by omega) (by omega) (by omega) (by omega) (by omega) (by omega)).trans (aUp_rn (by omega))
  have bM : ∀ o i, 603 ≤ o → o ≠ 605 → ¬ (o = 608 ∧ i < 1232) → o ≠ 609 → o ≠ 621 → o ≠ 623 → o ≠ 624 → ¬ (o = 603 ∧ (i = 8 ∨ i = 34 ∨ i = 38 ∨ i = 39 ∨ i = 40 ∨ i = 42 ∨ i = 43)) → ¬ (o = 603 ∧ i = 0) → mm o i = m0 o i := fun o i h a b c d e f g k => (hb o i a b c d e f g).trans ((aUp_at _ _ _ _ _ _).trans ((if_neg k).trans ((aAns_M h).trans (ha o i (by omega) (by unfold isTx; omega) (by omega)))))
  -- cells of the class behind all
  have cC : ∀ o i, o < 602 → isK o i → aTel mm r o i = mc o i := fun o i h k => (aTel_C (by omega)).trans ((bs o i (by omega)).trans (aAns_K k))
  have cM : ∀ o i, isK o i → aTel mm r o i = mm o i := fun o i k => aTel_K k
  have k603 : ∀ i, i ≠ 0 → i ≠ 1 → isK 603 i := fun i a b => by unfold isK; omega
  have kO : ∀ o i, o ≠ 0 → o ≠ 602 → o ≠ 604 → o ≠ 603 → isK o i := fun o i a b c d => by unfold isK; omega
  refine ⟨iRf_fin h7 hI.1 (fun j => ha 602 j (by omega) (by unfold isTx; omega) (by omega)) (fun j => bM 604 j (by omega) (by omega) (by omega) (by omega) (by omega) (by omega) (by omega) (by omega) (by omega)) (fun o i q => bs o i (by omega)), ?_⟩
  have hC := hI.2
  have e605 : (aTel mm r) 605 = r2 := (funext fun i => cM 605 i (kO _ _ (by decide) (by decide) (by decide) (by decide))).trans hW.1
  have hc2 : ∀ o i, 2 ≤ o → o ≤ 174 → aTel mm r o i = mc o i := fun o i a b => cC o i (by omega) (kO _ _ (by omega) (by omega) (by omega) (by omega))
  refine jC_yard hC (fun o i u v w1 w2 w3 w4 w5 w6 w7 w8 w9 w10 => ?_) (fun i q => by rw [e605]; exact ho i q) (by rw [e605]; exact hok) (by rw [e605]; exact yR_fr hV.1 (hc2 _ _ (by omega) (by omega)) fun o i a b => hc2 o i (by omega) (by omega)) ((hc2 2 9 (by omega) (by omega)).trans h9) ?_ ?_ ?_
  · by_cases q : o < 603
    · rw [cC o i (by unfold isK at v; omega) v]
      exact ha o i w1 (fun z => u (Or.inl z)) (by omega)
    · rw [cM o i v]
      exact bM o i (by omega) w2 (by omega) w4 (fun z => u (by unfold scr; omega)) (fun z => u (by unfold scr; omega)) (fun z => u (by unfold scr; omega)) (by omega) (by omega)
  · refine iPast_of (P := P) (pC_fr hP.2.1 (fun o i a b => hc2 o i (by omega) b) hV.2.1) (pM_row (fun i _ => cM 605 i (kO _ _ (by decide) (by decide) (by decide) (by decide))) (fun i _ => cM 608 i (kO _ _ (by decide) (by decide) (by decide) (by decide))) (fun i => cM 609 i (kO _ _ (by decide) (by decide) (by decide) (by decide))) (cM 603 8 (k603 8 (by decide) (by decide))) hP.2.1 hW.2.1) hP fun k a b => ?_
    rw [cC 186 k (by omega) (kO _ _ (by decide) (by decide) (by decide) (by decide)), ha 186 k (by omega) (nt 186 (by decide)) (by omega)]
    exact (hC.2.2.2.2.1.2.2.2.1 k a b).2
  · obtain ⟨s1, s2, s3, s4, s5, s6, s7, s8, s9⟩ := hC.2.1
    have g0 : ∀ i, i = 11 ∨ i = 12 → aTel mm r 0 i = m0 0 i := fun i q => (cC 0 i (by omega) (by unfold isK; omega)).trans (ha 0 i (by omega) (nt 0 (by decide)) (by omega))
    have g3 : ∀ i, i = 11 ∨ i = 18 ∨ i = 56 → aTel mm r 603 i = m0 603 i := fun i q => (cM 603 i (k603 i (by omega) (by omega))).trans (bM 603 i (by omega) (by omega) (by omega) (by omega) (by omega) (by omega) (by omega) (by omega) (by omega))
    have g16 : aTel mm r 1 6 = mc 1 6 := cC 1 6 (by omega) (kO _ _ (by decide) (by decide) (by decide) (by decide))
    have g19 : aTel mm r 1 9 = m0 1 9 := (cC 1 9 (by omega) (kO _ _ (by decide) (by decide) (by decide) (by decide))).trans (ha 1 9 (by omega) (nt 1 (by decide)) (by omega))
    refine ⟨by rw [g0 11 (by omega), g3 11 (by omega)]; exact s1, by rw [g0 12 (by omega), g3 18 (by omega)]; exact s2, by rw [g19, g3 56 (by omega)]; exact s3, by rw [g16, cM 603 43 (k603 43 (by decide) (by decide))]; exact h43, (cM 603 20 (k603 20 (by decide) (by decide))).trans hW.2.2.2, by rw [g0 11 (by omega)]; exact s6, by rw [g0 11 (by omega)]; exact s7, by rw [g16]; exact hb0, by rw [g16]; exact hb1⟩
  · obtain ⟨t1, t2, t3, t4⟩ := hC.1
    have g1 : aTel mm r 591 2 = m0 591 2 := (cC 591 2 (by omega) (kO _ _ (by decide) (by decide) (by decide) (by decide))).trans (ha 591 2 (by omega) (by unfold isTx; omega) (by omega))
    have g2 : aTel mm r 603 13 = m0 603 13 := (cM 603 13 (k603 13 (by decide) (by decide))).trans (bM 603 13 (by omega) (by omega) (by omega) (by omega) (by omega) (by omega) (by omega) (by omega) (by omega))
    have g3 : ∀ i, aTel mm r 592 i = m0 592 i := fun i => (cC 592 i (by omega) (kO _ _ (by decide) (by decide) (by decide) (by decide))).trans (ha 592 i (by omega) (by unfold isTx; omega) (by omega))
    have g4 : ∀ i, aTel mm r 612 i = m0 612 i := fun i => (cM 612 i (kO _ _ (by decide) (by decide) (by decide) (by decide))).trans (bM 612 i (by omega) (by omega) (by omega) (by omega) (by omega) (by omega) (by omega) (by omega) (by omega))
    refine ⟨by rw [g1, g2]; exact t1, by rw [g1]; exact t2, by rw [g1]; exact t3, fun i a b => ?_⟩
    rw [g1] at b
    rw [g3, g4]
    exact t4 i a b
