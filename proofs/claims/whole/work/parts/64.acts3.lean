-- bury, buy, raise, pass
def aOk (r : Rw) (A : AT) : Prop := rOk 999 A.2.1 ∧ pOk A.2.2 ∧ (∀ i, i < 3 ∨ 80 ≤ i → A.2.1 i = r i) ∧ -7 < A.1 ∧ A.1 < 1000
theorem aBury_ok {L : LW} {r : Rw} {P : PS} {f c sm : Int} (hok : rOk 999 r) (hP : pOk P) (hs : sm = 0 ∨ sm = 1) : aOk r (aBury L r P f c sm) := by
  have h0 := hok.1
  have h1 := hok.2.1
  unfold aBury
  split
  · exact ⟨hok, hP, fun _ _ => rfl, by dsimp only; omega, by dsimp only; omega⟩
  · rename_i hg
    have hg := Classical.not_not.mp hg
    split
    · exact ⟨hok, hP, fun _ _ => rfl, by dsimp only; omega, by dsimp only; omega⟩
    · rename_i hl
      split
      · exact ⟨hok, hP, fun _ _ => rfl, by dsimp only; omega, by dsimp only; omega⟩
      · have hl : rLi L r f c = true := by
          cases z : rLi L r f c with
          | true => rfl
          | false => exact absurd z hl
        exact ⟨rAd_ok hok (by omega) hg.1.1 hg.1.2 hg.2.1 hg.2.2 (by omega) (by omega) (rLi_oc hl), psh_ok hP hok (by decide) (by decide), fun i q => rAd_out h0 h1 (by omega), by dsimp only; omega, by dsimp only; omega⟩
theorem aBuy_ok {r : Rw} {P : PS} {c : Int} (hok : rOk 999 r) (hP : pOk P) : aOk r (aBuy r P c) := by
  unfold aBuy
  split
  · exact ⟨hok, hP, fun _ _ => rfl, by dsimp only; omega, by dsimp only; omega⟩
  · rename_i hg
    have hg := Classical.not_not.mp hg
    split
    · exact ⟨hok, hP, fun _ _ => rfl, by dsimp only; omega, by dsimp only; omega⟩
    · have b := hok.2.2.2.1 c hg.1 hg.2
      exact ⟨rOk_bought hok hg.1 hg.2, psh_ok hP hok (by decide) (by decide), fun i q => rUp_n (by omega), by dsimp only; omega, by dsimp only; omega⟩
theorem aRaise_ok {r : Rw} {P : PS} {p : Int} (hok : rOk 999 r) (hP : pOk P) : aOk r (aRaise r P p) := by
  unfold aRaise
  split
  · exact ⟨hok, hP, fun _ _ => rfl, by dsimp only; omega, by dsimp only; omega⟩
  · rename_i hg
    have hg := Classical.not_not.mp hg
    have h1 := hok.2.1
    have b := hok.2.2.1 p hg.1 (by omega)
    exact ⟨rRm_ok hok hg.1 hg.2, psh_ok hP hok (by decide) (by decide), fun i q => rRm_out hg.1 h1 q, by dsimp only; omega, by dsimp only; omega⟩
theorem rTn_ok9 {L : LW} {r : Rw} (hok : rOk 999 r) (h : r 3 < 999) : rOk 999 (rTn L r).1 := by
  have h1 : rOk 998 r := ⟨hok.1, hok.2.1, hok.2.2.1, hok.2.2.2.1, hok.2.2.2.2.1, by omega, hok.2.2.2.2.2.2⟩
  exact (rTn_ok (L := L) h1).1
theorem aPass_ok {L : LW} {r : Rw} {P : PS} (hok : rOk 999 r) (hP : pOk P) : aOk r (aPass L r P) := by
  unfold aPass
  split
  · exact ⟨hok, hP, fun _ _ => rfl, by dsimp only; omega, by dsimp only; omega⟩
  · have m := rTn_mv (L := L) hok.2.1
    exact ⟨rTn_ok9 hok (by omega), psh_ok hP hok (by decide) (by decide), fun i q => rKp_out (rTn_ok (L := L) hok).2 q, by dsimp only; omega, by dsimp only; omega⟩
/-- all that a call of an act starts from -/
theorem act_start {n : Nat} {m : Mm} (hI : iAll jC n m) (hn : n < 600) : ∃ L P, cV m (m 605) P L ∧ pOk P ∧ rOk 999 (m 605) ∧ (∀ mc r, aFr m mc → mV (aUp (aAns mc r) 603 0 0) (m 605) P L ∧ (aUp (aAns mc r) 603 0 0) 603 43 = m 1 6) ∧ (∀ mc r, -7 < r → aFr m mc → r < 0 → R32 (mc 602 (-r) + 1)) ∧ ∀ mm : Mm, ∀ mc r, aFr m mc → bFr (aUp (aAns mc r) 603 0 0) mm → -7 < r → r < 0 → R32 (mm 604 (-r) + 1) := by
  have hC := hI.2
  obtain ⟨L, y, l⟩ := jC_law hC
  obtain ⟨P, p1, p2, p3⟩ := iPast_get hC.2.2.2.2.1
  have cM : ∀ mc r, aFr m mc → ∀ o i, 603 ≤ o → ¬ (o = 603 ∧ i = 0) → (aUp (aAns mc r) 603 0 0) o i = m o i := fun mc r ha o i a b => (aUp_at _ _ _ _ _ _).trans ((if_neg b).trans ((aAns_M a).trans (ha o i (by omega) (by unfold isTx; omega) (by omega))))
  refine ⟨L, P, ⟨hC.2.2.1.2.1, p1, y⟩, p3, hC.2.2.1.1, fun mc r ha => ⟨⟨funext fun i => cM mc r ha 605 i (by decide) (by omega), pM_row (fun i _ => cM mc r ha 605 i (by decide) (by omega)) (fun i _ => cM mc r ha 608 i (by decide) (by omega)) (fun i => cM mc r ha 609 i (by decide) (by omega)) (cM mc r ha 603 8 (by decide) (by decide)) p3.2.1 p2, mL_eq (funext fun i => cM mc r ha 605 i (by decide) (by omega)) l, (cM mc r ha 603 20 (by decide) (by decide)).trans (i20 hC)⟩, (cM mc r ha 603 43 (by decide) (by decide)).trans hC.2.1.2.2.2.1.symm⟩, fun mc r h7 ha h0 => ?_, fun mm mc r ha hb h7 h0 => ?_⟩
  · obtain ⟨e1, e2, e3⟩ := hI.1.2 (-r) (by omega) (by omega)
    rw [ha 602 (-r) (by omega) (by unfold isTx; omega) (by omega)]
    exact ⟨by omega, by omega⟩
  · obtain ⟨e1, e2, e3⟩ := hI.1.2 (-r) (by omega) (by omega)
    rw [hb 604 (-r) (by omega) (by omega) (by omega) (by omega) (by omega) (by omega) (by omega), cM mc r ha 604 (-r) (by omega) (by omega), ← e1]
    exact ⟨by omega, by omega⟩
theorem m_buryBad {E : EN} (hE : Ep E) {k : Nat} {mem : Mm} {Q : Int → Mm → Prop} {f c sm : Int} (hf : R32 f) (hc : R32 c) (hs : R32 sm) (hs1 : ¬ (sm = 0 ∨ sm = 1)) (hQ : Q (-1) mem) : CI E mX12_buryNow (k + 2) mem [aR 603, aI f, aI c, aI sm] Q :=
  eX12_buryNow hf hc hs (rX12_buryNow_0 hE fun r1 => s_in hE r1 (by decide) (by decide) (fun a b => ⟨fun d => absurd d (by decide), fun _ _ => m_isCell (k := k) hE hc (fun a2 b2 => ⟨fun d => absurd d (by decide), fun _ r3 => s_in hE r3 (by decide) (by decide) (fun a3 b3 => absurd (show sm = 0 ∨ sm = 1 by omega) hs1) (fun a3 => ⟨fun d => absurd rfl d, fun _ => hQ⟩)⟩) (fun a2 => ⟨fun _ => hQ, fun d => absurd rfl d⟩)⟩) (fun a => ⟨fun _ => hQ, fun d => absurd rfl d⟩))
theorem st_bury {E : EN} (hE : Ep E) : stI E 1199 (iAll jC) mX11_bury mX12_bury 3 := by
  intro t mem av ht hl hr hI
  obtain ⟨f, c, s, rfl⟩ := three_arg hl
  have hf : R32 f := hr f (by simp)
  have hc : R32 c := hr c (by simp)
  have hs : R32 s := hr s (by simp)
  obtain ⟨L, P, hV, hP, hok, hst, hrc, hrm⟩ := act_start hI ht
  have hb0 := hI.2.2.1.2.2.2.2.2.2.2.1
  have hb1 := hI.2.2.1.2.2.2.2.2.2.2.2
  refine eX11_bury (k := 1198) hf hc hs (rX11_bury_0 hE fun _ => s_isYesNo hE hs (fun a => ⟨fun _ _ _ _ => ?_, fun d => absurd d (by decide)⟩) (fun a => ⟨fun d => absurd rfl d, fun _ => ?_⟩))
  · obtain ⟨o1, o2, o3, o4, o5⟩ := aBury_ok (L := L) (f := f) (c := c) hok hP a
    refine s_layDown (k := 1193) hE hV hok hP hf hc hs fun mc ha h9 h1 hV2 rr => s_ans (k := 1197) hE rr o4 (hrc mc _ o4 ha) ?_
    obtain ⟨hW, e43⟩ := hst mc (aBury L (mem 605) P f c s).1 ha
    refine eX12_bury (k := 1198) hf hc hs (rX12_bury_0 hE fun _ _ _ => m_buryNow (k := 1191) hE hW hok hP hf hc hs a fun mm hb h43 hW2 rr2 => m_tel hE rr2 o4 (hrm mm mc _ ha hb o4) ⟨rfl, ?_⟩)
    exact fin_act hI o4 ha h9 hV2 hb hW2 o1 o2 (fun i q => o3 i (by omega)) (by rw [h1, h43, e43]) (by rw [h1]; exact hb0) (by rw [h1]; exact hb1)
  · refine s_refA hE (by decide) (by decide) (hrc mem (-1) (by decide) aFr_rf (by decide)) ?_
    obtain ⟨hW, e43⟩ := hst mem (-1) aFr_rf
    refine eX12_bury (k := 1198) hf hc hs (rX12_bury_0 hE fun _ _ _ => m_buryBad (k := 1196) hE hf hc hs a fun rr2 => m_tel hE rr2 (by decide) (hrm _ mem (-1) aFr_rf bFr_rf (by decide)) ⟨rfl, ?_⟩)
    exact fin_act hI (by decide) aFr_rf rfl hV bFr_rf hW hok hP (fun _ _ => rfl) e43.symm hb0 hb1
theorem st_buy {E : EN} (hE : Ep E) : stI E 1199 (iAll jC) mX11_buy mX12_buy 1 := by
  intro t mem av ht hl hr hI
  obtain ⟨c, rfl⟩ := one_arg hl
  have hc : R32 c := hr c (by simp)
  obtain ⟨L, P, hV, hP, hok, hst, hrc, hrm⟩ := act_start hI ht
  have hb0 := hI.2.2.1.2.2.2.2.2.2.2.1
  have hb1 := hI.2.2.1.2.2.2.2.2.2.2.2
  obtain ⟨o1, o2, o3, o4, o5⟩ := aBuy_ok (c := c) hok hP
  refine eX11_buy (k := 1198) hc (rX11_buy_0 hE fun _ => s_purchase (k := 1195) hE hV hP hc fun mc ha h9 h1 hV2 rr => s_ans (k := 1197) hE rr o4 (hrc mc _ o4 ha) ?_)
  obtain ⟨hW, e43⟩ := hst mc (aBuy (mem 605) P c).1 ha
  refine eX12_buy (k := 1198) hc (rX12_buy_0 hE fun _ => m_buyNow (k := 1196) hE hW hP hc fun mm hb h43 hW2 rr2 => m_tel hE rr2 o4 (hrm mm mc _ ha hb o4) ⟨rfl, ?_⟩)
  exact fin_act hI o4 ha h9 hV2 hb hW2 o1 o2 (fun i q => o3 i (by omega)) (by rw [h1, h43, e43]) (by rw [h1]; exact hb0) (by rw [h1]; exact hb1)
theorem st_raise {E : EN} (hE : Ep E) : stI E 1199 (iAll jC) mX11_raise mX12_raise 1 := by
  intro t mem av ht hl hr hI
  obtain ⟨c, rfl⟩ := one_arg hl
  have hc : R32 c := hr c (by simp)
  obtain ⟨L, P, hV, hP, hok, hst, hrc, hrm⟩ := act_start hI ht
  have hb0 := hI.2.2.1.2.2.2.2.2.2.2.1
  have hb1 := hI.2.2.1.2.2.2.2.2.2.2.2
  obtain ⟨o1, o2, o3, o4, o5⟩ := aRaise_ok (p := c) hok hP
  refine eX11_raise (k := 1198) hc (rX11_raise_0 hE fun _ => s_takeUp (k := 1195) hE hV hok hP hc fun mc ha h9 h1 hV2 rr => s_ans (k := 1197) hE rr o4 (hrc mc _ o4 ha) ?_)
  obtain ⟨hW, e43⟩ := hst mc (aRaise (mem 605) P c).1 ha
  refine eX12_raise (k := 1198) hc (rX12_raise_0 hE fun _ => m_raiseNow (k := 1196) hE hW hok hP hc fun mm hb h43 hW2 rr2 => m_tel hE rr2 o4 (hrm mm mc _ ha hb o4) ⟨rfl, ?_⟩)
  exact fin_act hI o4 ha h9 hV2 hb hW2 o1 o2 (fun i q => o3 i (by omega)) (by rw [h1, h43, e43]) (by rw [h1]; exact hb0) (by rw [h1]; exact hb1)
theorem st_pass {E : EN} (hE : Ep E) : stI E 1199 (iAll jC) mX11_pass mX12_pass 0 := by
  intro t mem av ht hl hr hI
  obtain rfl := no_args hl
  obtain ⟨L, P, hV, hP, hok, hst, hrc, hrm⟩ := act_start hI ht
  have hb0 := hI.2.2.1.2.2.2.2.2.2.2.1
  have hb1 := hI.2.2.1.2.2.2.2.2.2.2.2
  have hm := rTn_mv (L := L) hok.2.1
  obtain ⟨o1, o2, o3, o4, o5⟩ := aPass_ok (L := L) hok hP
  refine eX11_pass (k := 1198) (rX11_pass_0 hE (s_bringYear (k := 1193) hE hV hok hP fun mc ha h9 h1 hV2 h6 h7 rr => s_ans (k := 1197) hE rr o4 (hrc mc _ o4 ha) ?_))
  obtain ⟨hW, e43⟩ := hst mc (aPass L (mem 605) P).1 ha
  refine eX12_pass (k := 1198) (rX12_pass_0 hE (m_passNow (k := 1190) hE hW hok hP fun mm hb h43 hW2 rr2 => m_tel hE rr2 o4 (hrm mm mc _ ha hb o4) ⟨rfl, ?_⟩))
  refine fin_act hI o4 ha h9 hV2 hb hW2 o1 o2 (fun i q => o3 i (by omega)) (by rw [h6, h43, e43]) ?_ ?_
  · rw [h6]; split <;> omega
  · rw [h6]; split <;> omega
