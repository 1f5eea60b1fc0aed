-- the pair orders()
theorem ord_jC {mem mc mm : Mm} {r : Rw} {P : PS} (hC : jC mem) (hc : ∀ o i, o < 603 → ¬ scr o i → ¬ (2 ≤ o ∧ o ≤ 174) → o ≠ 591 → ¬ (o = 0 ∧ (i = 12 ∨ i = 13)) → ¬ (o = 1 ∧ (i = 6 ∨ i = 9)) → mc o i = mem o i) (h9 : mc 2 9 = mem 2 9) (hc2 : mc 591 2 = 0)
    (hm : ∀ o i, 603 ≤ o → ¬ scr o i → o ≠ 605 → ¬ (o = 608 ∧ i < 1232) → o ≠ 609 → ¬ (o = 603 ∧ (i = 8 ∨ i = 13 ∨ i = 18 ∨ i = 20 ∨ i = 43 ∨ i = 56)) → mm o i = mem o i)
    (hR : yR mc 2 r) (hP : pC mc P) (hPm : pM mm P) (hok : pOk P) (hr : rOk 999 r) (h5 : mm 605 = r) (ho : ∀ i, i < 3 ∨ 80 ≤ i → r i = mem 605 i) (m13 : mm 603 13 = 0) (m20 : mm 603 20 = 0) (h12 : mc 0 12 = mm 603 18) (h19 : mc 1 9 = mm 603 56) (h16 : mc 1 6 = mm 603 43) (hb : 0 ≤ mc 1 6 ∧ mc 1 6 ≤ 10) : jC (spl mc mm) := by
  have s5 : (spl mc mm) 605 = r := (funext fun i => spl_m (by decide)).trans h5
  have sc : ∀ o, o < 603 → ∀ i, spl mc mm o i = mc o i := fun o h i => spl_c h
  refine jC_yard hC (fun o i u v w1 w2 w3 w4 w5 w6 w7 w8 w9 w10 => ?_) (fun i q => by rw [s5]; exact ho i (by omega)) (by rw [s5]; exact hr) (by rw [s5]; exact yR_fr hR (sc _ (by decide) _) (fun o i a b => sc o (by omega) i)) ((sc _ (by decide) _).trans h9) ?_ ?_ ?_
  · by_cases q : o < 603
    · rw [sc o q]
      exact hc o i q u w1 w5 (by omega) (by omega)
    · rw [spl_m (by omega)]
      refine hm o i (by omega) u w2 (by omega) w4 (by omega)
  · refine iPast_of (P := P) (pC_fr hok.2.1 (fun o i a b => sc o (by omega) i) hP) ⟨(spl_m (by decide)).trans hPm.1, fun k a b => ?_⟩ hok fun k a b => ?_
    · obtain ⟨g1, g2⟩ := hPm.2 k a b
      refine ⟨?_, (spl_m (by decide)).trans g2⟩
      rw [← g1]
      funext i
      unfold snR
      rw [spl_m (by decide), spl_m (by decide)]
    · rw [sc 186 (by decide), hc 186 k (by decide) (by unfold scr isTx; omega) (by omega) (by decide) (by omega) (by omega)]
      exact (hC.2.2.2.2.1.2.2.2.1 k a b).2
  · obtain ⟨s1, s2, s3, s4, s5', s6, s7, s8, s9⟩ := hC.2.1
    have a0 : spl mc mm 0 11 = mem 0 11 := (sc _ (by decide) _).trans (hc _ _ (by decide) (by unfold scr isTx; omega) (by omega) (by decide) (by omega) (by omega))
    have b11 : spl mc mm 603 11 = mem 603 11 := (spl_m (by decide)).trans (hm _ _ (by decide) (by unfold scr isTx; omega) (by decide) (by decide) (by decide) (by decide))
    refine ⟨by rw [a0, b11]; exact s1, by rw [sc _ (by decide), spl_m (by decide)]; exact h12, by rw [sc _ (by decide), spl_m (by decide)]; exact h19, by rw [sc _ (by decide), spl_m (by decide)]; exact h16, by rw [spl_m (by decide)]; exact m20, by rw [a0]; exact s6, by rw [a0]; exact s7, by rw [sc _ (by decide)]; exact hb.1, by rw [sc _ (by decide)]; exact hb.2⟩
  · have e : spl mc mm 591 2 = 0 := (sc _ (by decide) _).trans hc2
    refine ⟨by rw [e, spl_m (by decide), m13], by rw [e]; decide, by rw [e]; decide, fun i a b => ?_⟩
    rw [e] at b
    omega
/-- the model's memory behind all -/
def mE (mem mb m : Mm) : Prop := (∀ o i, o < 603 → m o i = mb o i) ∧ ∀ o i, 603 ≤ o → ¬ scr o i → o ≠ 605 → ¬ (o = 608 ∧ i < 1232) → o ≠ 609 → ¬ (o = 603 ∧ (i = 8 ∨ i = 13 ∨ i = 18 ∨ i = 20 ∨ i = 43 ∨ i = 56)) → m o i = mem o i
theorem scr_614 {o i : Int} (h : ¬ scr o i) : ¬ (613 ≤ o ∧ o ≤ 617) ∧ o ≠ 634 ∧ ¬ (621 ≤ o ∧ o ≤ 632) ∧ o ≠ 610 ∧ o ≠ 611 ∧ ¬ (o = 608 ∧ 1232 ≤ i) ∧ ¬ (o = 603 ∧ i ≠ 1 ∧ i ≠ 8 ∧ i ≠ 11 ∧ i ≠ 13 ∧ i ≠ 18 ∧ i ≠ 20 ∧ i ≠ 43 ∧ i ≠ 56 ∧ i ≠ 60) := by
  unfold scr at h
  refine ⟨fun z => h (by omega), fun z => h (by omega), fun z => h (by omega), fun z => h (by omega), fun z => h (by omega), fun z => h (by omega), fun z => h (by omega)⟩
theorem mOF_g {m m2 : Mm} (h : mOF m m2) (o i : Int) (z : ¬ (o = 605 ∨ (o = 608 ∧ i < 1232) ∨ o = 609 ∨ (621 ≤ o ∧ o ≤ 624) ∨ (o = 603 ∧ (i = 8 ∨ i = 20 ∨ i = 34 ∨ (38 ≤ i ∧ i ≤ 43) ∨ i = 54 ∨ i = 55 ∨ i = 57)))) : m2 o i = m o i := h o i (by omega) (by omega) (by omega) (by omega) (by omega) (by omega) (by omega) (by omega)
theorem mFt_g {m m2 : Mm} (h : mFt m m2) (o i : Int) (z : ¬ ((613 ≤ o ∧ o ≤ 617) ∨ o = 634 ∨ (o = 603 ∧ ((13 ≤ i ∧ i ≤ 21) ∨ i = 23 ∨ i = 26 ∨ i = 29 ∨ i = 30)))) : m2 o i = m o i := h o i (by omega) (by omega) (by omega) (by omega) (by omega) (by omega) (by omega)
/-- the model's orders() from its memory mb, its cells above 602 those of mem -/
theorem m_orders {E : EN} (hE : Ep E) {mem mb : Mm} {Z : Int → Mm → Prop} {L : LW} {P : PS} {s0 : RS} {T : Rw} {nT : Int} (hs0 : s0 = (mem 605, P, 0, -1, mem 603 43)) (hT : tOk T nT) (h13 : mem 603 13 = nT) (h612 : ∀ i, 0 ≤ i → i < nT → mem 612 i = T i) (hK : iKs2 mem) (hb43 : 0 ≤ mem 603 43 ∧ mem 603 43 ≤ 10) (hrok : rOk 999 (mem 605)) (hP : pM mem P) (hok : pOk P) (hL : mL mem L) (hmb : ∀ o i, 603 ≤ o → mb o i = mem o i)
    (hBad : ∀ x, pText true T nT 12 0 0 = .inr x → ∀ m2, mE mem mb m2 → m2 605 = mem 605 → pM m2 P → m2 603 43 = mem 603 43 → m2 603 56 = -1 → m2 603 18 = x → m2 603 13 = 0 → m2 603 20 = 0 → CI E mX12_tell 1198 m2 [aR 603, aI (-6)] Z)
    (hG : ∀ l, pText true T nT 12 0 0 = .inl l → ∀ s2 m2, oAll L l 0 s0 = (0, (l.length : Int), s2) → mE mem mb m2 → m2 603 56 = -1 → m2 603 18 = -1 → m2 603 13 = 0 → mO m2 s2 L → oOk (mem 605) 240 s2 → R32 (m2 603 54) → CI E mX12_tell 1198 m2 [aR 603, aI (m2 603 54)] Z)
    (hB : ∀ l, pText true T nT 12 0 0 = .inl l → ∀ a i2 s2 m2, a < 0 → oAll L l 0 s0 = (a, i2, s2) → mE mem mb m2 → m2 605 = mem 605 → pM m2 P → m2 603 43 = mem 603 43 → m2 603 56 = i2 → m2 603 18 = -1 → m2 603 13 = 0 → m2 603 20 = 0 → R32 a → CI E mX12_tell 1198 m2 [aR 603, aI a] Z)
    (hcl : ∀ l, pText true T nT 12 0 0 = .inl l → ∀ cl ∈ l, clOk cl) : CI E mX12_orders 1199 mb [aR 603] Z := by
  have f0 : ∀ o i, ¬ (o = 603 ∧ (i = 0 ∨ i = 56)) → (aUp (aUp mb 603 0 0) 603 56 (-1)) o i = mb o i := fun o i z => by rw [aUp_nn (by omega), aUp_nn (by omega)]
  have f56 : (aUp (aUp mb 603 0 0) 603 56 (-1)) 603 56 = -1 := aUp_re
  have hk := hok.1
  have hk2 := hok.2.1
  refine eX12_orders (k := 1198) (rX12_orders_0 (k := 1198) hE ?_)
  generalize (aUp (aUp mb 603 0 0) 603 56 (-1)) = m0 at *
  have g0 : ∀ o i, 603 ≤ o → ¬ (o = 603 ∧ (i = 0 ∨ i = 56)) → m0 o i = mem o i := fun o i a z => (f0 o i z).trans (hmb o i a)
  have hK0 : iKs2 m0 := iKs2_fr (fun o i z => g0 o i (by omega) (by omega)) hK
  -- what is left alone by reading the text
  have T1 : ∀ m2, mFt m0 m2 → (∀ o i, o < 603 → m2 o i = mb o i) ∧ (∀ o i, 603 ≤ o → ¬ ((613 ≤ o ∧ o ≤ 617) ∨ o = 634 ∨ (o = 603 ∧ (i = 0 ∨ i = 56 ∨ (13 ≤ i ∧ i ≤ 21) ∨ i = 23 ∨ i = 26 ∨ i = 29 ∨ i = 30))) → m2 o i = mem o i) ∧ m2 603 56 = -1 := fun m2 h => ⟨fun o i a => (mFt_g h o i (by omega)).trans (f0 o i (by omega)), fun o i a z => (mFt_g h o i (by omega)).trans (g0 o i a (by omega)), (mFt_g h _ _ (by decide)).trans f56⟩
  have pMc : ∀ m2 : Mm, (∀ i, m2 605 i = mem 605 i) → (∀ i, 0 ≤ i → i < 1232 → m2 608 i = mem 608 i) → (∀ i, 0 ≤ i → i < 16 → m2 609 i = mem 609 i) → m2 603 8 = mem 603 8 → pM m2 P := by
    intro m2 h5 h8 h9 hn
    refine ⟨hn.trans hP.1, fun k a b => ?_⟩
    obtain ⟨c1, c2⟩ := hP.2 k a b
    refine ⟨?_, (h9 k a (by omega)).trans c2⟩
    rw [← c1]
    funext i
    unfold snR
    by_cases z : 3 ≤ i ∧ i < 80
    · rw [if_pos z, if_pos z]; exact h8 _ (by omega) (by omega)
    · rw [if_neg z, if_neg z]; exact h5 i
  have onBad : ∀ x, pText true T nT 12 0 0 = .inr x → ∀ m2, mFt m0 m2 → m2 603 18 = x → m2 603 13 = 0 → m2 603 20 = 0 → CI E mX12_tell 1198 m2 [aR 603, aI (-6)] Z := by
    intro x hx m2 a1 a2 a3 a4
    obtain ⟨u1, u2, u3⟩ := T1 m2 a1
    have v5 : ∀ i, m2 605 i = mem 605 i := fun i => u2 605 i (by decide) (by omega)
    exact hBad x hx m2 ⟨u1, fun o i a b c d e f => by have := scr_614 b; exact u2 o i a (by omega)⟩ (funext v5) (pMc m2 v5 (fun i _ _ => u2 608 i (by decide) (by omega)) (fun i _ _ => u2 609 i (by decide) (by omega)) (u2 603 8 (by decide) (by decide))) (u2 603 43 (by decide) (by decide)) u3 a2 a3 a4
  have onOk : ∀ l, pText true T nT 12 0 0 = .inl l → ∀ m2 S, mFt m0 m2 → m2 603 18 = -1 → m2 603 13 = 0 → m2 603 20 = 0 → m2 603 21 = (l.length : Int) → l.length ≤ 12 → m2 603 23 = S → 0 ≤ S → S ≤ 400 → (∀ (i : Nat) cl, l[i]? = some cl → mOr m2 S i cl) → CV E mX12_keepAll 1198 m2 [aR 603, aI 17] (fun m3 => VM E mX12_orders 1199 m3 82 [(0, aR 603), (1, aI (m3 603 8)), (2, aI (m3 603 43)), (3, aI 0)] [] (retI Z)) := by
    intro l hl m2 S a1 a18 a13 a20 a21 aln a23 aS0 aS a634
    obtain ⟨u1, u2, u3⟩ := T1 m2 a1
    have v5 : ∀ i, m2 605 i = mem 605 i := fun i => u2 605 i (by decide) (by omega)
    have v8 : ∀ i, m2 608 i = mem 608 i := fun i => u2 608 i (by decide) (by omega)
    have v9 : ∀ i, m2 609 i = mem 609 i := fun i => u2 609 i (by decide) (by omega)
    have vn : m2 603 8 = mem 603 8 := u2 603 8 (by decide) (by decide)
    have v43 : m2 603 43 = mem 603 43 := u2 603 43 (by decide) (by decide)
    refine m_keep hE (by decide) (by decide) ?_
    have k1 : ∀ o i, ¬ (o = 608 ∧ 1232 ≤ i) → (fun (o i : Int) => if o = 608 ∧ 77 * 17 ≤ i ∧ i < 77 * 17 + 77 then m2 605 (3 + (i - 77 * 17)) else m2 o i) o i = m2 o i := fun o i z => if_neg (by omega)
    have k2 : ∀ i, 3 ≤ i → i < 80 → (fun (o i : Int) => if o = 608 ∧ 77 * 17 ≤ i ∧ i < 77 * 17 + 77 then m2 605 (3 + (i - 77 * 17)) else m2 o i) 608 (1309 + (i - 3)) = m2 605 i := fun i a b => (if_pos (by omega)).trans (by congr 1; omega)
    generalize (fun (o i : Int) => if o = 608 ∧ 77 * 17 ≤ i ∧ i < 77 * 17 + 77 then m2 605 (3 + (i - 77 * 17)) else m2 o i) = m3 at *
    have x1 : m3 603 8 = P.1 := (k1 _ _ (by decide)).trans (vn.trans hP.1)
    have x2 : m3 603 43 = mem 603 43 := (k1 _ _ (by decide)).trans v43
    rw [x1, x2]
    refine m_ordB (K := 1188) hE fun m5 b1 b2 b3 b4 b5 => ?_
    have w1 : ∀ o i, ¬ (o = 610 ∨ o = 611 ∨ (o = 603 ∧ (i = 54 ∨ i = 55)) ∨ (o = 608 ∧ 1232 ≤ i)) → m5 o i = m2 o i := fun o i a => (b1 o i (by omega) (by omega) (by omega)).trans (k1 o i (by omega))
    have y5 : ∀ i, m5 605 i = mem 605 i := fun i => (w1 605 i (by omega)).trans (v5 i)
    have V5 : mV m5 (mem 605) P L := ⟨funext y5, pMc m5 y5 (fun i _ _ => (w1 608 i (by omega)).trans (v8 i)) (fun i _ _ => (w1 609 i (by omega)).trans (v9 i)) ((w1 603 8 (by decide)).trans vn), mL_eq (funext y5) hL, (w1 603 20 (by decide)).trans a20⟩
    have O5 : mO m5 s0 L := by
      rw [hs0]
      exact ⟨V5, b4, b5, (w1 603 43 (by decide)).trans v43⟩
    have ok5 : oOk (mem 605) (20 * 0) s0 := by
      rw [hs0]
      exact ⟨hrok, hok, fun _ _ => rfl, ⟨(by decide : (0 : Int) ≤ 0), (by decide : (0 : Int) ≤ 20 * 0)⟩, ⟨(by decide : (-1 : Int) ≤ -1), (by decide : (-1 : Int) ≤ 1000)⟩, hb43.1, hb43.2⟩
    refine m_ordC (K := 1188) (m0 := m5) (S := S) (L := L) (r0 := mem 605) (n := (l.length : Int)) hE (by omega) ((w1 603 21 (by decide)).trans a21) aS ⟨by omega, by omega⟩ l 0 s0 m5 (fun j cl h => ?_) (fun cl h => ⟨hcl l hl cl h, pText_v _ _ _ _ hl cl h⟩) (by decide) (by omega) O5 ok5 mOF_rf (fun m7 s2 c1 c2 c3 c4 c5 => ?_) (fun a i2 m7 s2 ca c1 ci cj c2 c4 c5 r1 => ?_)
    · rw [Int.zero_add]
      exact mOr_fr (s := S) (fun x _ => ⟨w1 614 x (by omega), w1 615 x (by omega)⟩) (Int.le_refl _) (fun x _ _ => w1 634 x (by omega)) (a634 j cl h)
    · refine hG l hl s2 m7 c1 ⟨fun o i a => ?_, fun o i a b c d e f => ?_⟩ ?_ ?_ ?_ c3 c4 c5
      · exact (mOF_g c2 o i (by omega)).trans ((w1 o i (by omega)).trans (u1 o i a))
      · have := scr_614 b
        exact (mOF_g c2 o i (by omega)).trans ((w1 o i (by omega)).trans (u2 o i a (by omega)))
      · exact (mOF_g c2 _ _ (by decide)).trans ((w1 _ _ (by decide)).trans u3)
      · exact (mOF_g c2 _ _ (by decide)).trans ((w1 _ _ (by decide)).trans a18)
      · exact (mOF_g c2 _ _ (by decide)).trans ((w1 _ _ (by decide)).trans a13)
    · refine m_giveBk (k := 1197) hE r1 fun m8 d1 d2 d3 d4 d5 ra => ?_
      have gs : ∀ o i, ¬ (o = 603 ∧ (i = 43 ∨ i = 56)) → (aUp (aUp m8 603 43 (mem 603 43)) 603 56 i2) o i = m8 o i := fun o i z => by rw [aUp_nn (by omega), aUp_nn (by omega)]
      have n5 : ∀ i, (aUp (aUp m8 603 43 (mem 603 43)) 603 56 i2) 605 i = mem 605 i := by
        intro i
        rw [gs _ _ (by omega)]
        by_cases z : 3 ≤ i ∧ i < 80
        · rw [d2 i z.1 z.2, mOF_g c2 _ _ (by omega), b1 _ _ (by decide) (by decide) (by omega), k2 i z.1 z.2]
          exact v5 i
        · rw [d1 _ _ (by omega) (by omega) (by decide) (by omega)]
          exact c4 i (by omega)
      have n8 : ∀ i, 0 ≤ i → i < 1232 → (aUp (aUp m8 603 43 (mem 603 43)) 603 56 i2) 608 i = mem 608 i := by
        intro i a b
        rw [gs _ _ (by omega), d3 i a b, mOF_g c2 _ _ (by omega), b2 i a b, k1 _ _ (by omega)]
        exact v8 i
      have n9 : ∀ i, 0 ≤ i → i < 16 → (aUp (aUp m8 603 43 (mem 603 43)) 603 56 i2) 609 i = mem 609 i := by
        intro i a b
        rw [gs _ _ (by omega), d4 i a b, mOF_g c2 _ _ (by omega), b3 i a b, k1 _ _ (by omega)]
        exact v9 i
      have n0 : (aUp (aUp m8 603 43 (mem 603 43)) 603 56 i2) 603 8 = mem 603 8 := by
        rw [gs _ _ (by decide), d5]
        exact hP.1.symm
      have nn : ∀ o i, ¬ (o = 605 ∨ o = 608 ∨ o = 609 ∨ (o = 603 ∧ (i = 8 ∨ i = 43 ∨ i = 56))) → (aUp (aUp m8 603 43 (mem 603 43)) 603 56 i2) o i = m7 o i := fun o i z => (gs o i (by omega)).trans (d1 o i (by omega) (by omega) (by omega) (by omega))
      refine hB l hl a i2 s2 _ ca c1 ⟨fun o i z => ?_, fun o i z b c d e f => ?_⟩ (funext n5) (pMc _ n5 n8 n9 n0) ?_ aUp_re ?_ ?_ ?_ ra
      · exact (nn o i (by omega)).trans ((mOF_g c2 o i (by omega)).trans ((w1 o i (by omega)).trans (u1 o i z)))
      · have := scr_614 b
        exact (nn o i (by omega)).trans ((mOF_g c2 o i (by omega)).trans ((w1 o i (by omega)).trans (u2 o i z (by omega))))
      · rw [aUp_nn (by omega), aUp_re]
      · exact (nn _ _ (by decide)).trans ((mOF_g c2 _ _ (by decide)).trans ((w1 _ _ (by decide)).trans a18))
      · exact (nn _ _ (by decide)).trans ((mOF_g c2 _ _ (by decide)).trans ((w1 _ _ (by decide)).trans a13))
      · exact (nn _ _ (by decide)).trans c5
  have LL := m_ordL (K := 1189) (m0 := m0) (Q := Z) (R := pText true T nT 12 0 0) hE hT hK0 onBad onOk
  refine m_begin (k := 1195) (od := true) hE hT ((g0 _ _ (by decide) (by decide)).trans h13) (fun i a b => (g0 _ _ (by decide) (by omega)).trans (h612 i a b)) fun m1 a1 a2 a3 => ?_
  have hK1 : iKs2 m1 := iKs2_fr (fun o i z => mFt_g a1 o i (by omega)) hK0
  have hb0 := tF_b (T := T) (n := nT) (p := 0) hT.1
  refine m_readOrder (K := 1189) hE hT a2 hK1 a3 ⟨by decide, by decide⟩ (by decide) hT.1 (by decide) (by decide) (by decide) (by omega) (fun y hy m2 b1 b2 b3 => ?_) (fun q2 d2 cl _ hq2 m2 s2 bo b5 b6 b7 b8 => ?_)
  · refine LL.1 m2 y (mFt_tr a1 (mFt_q b1)) b2 b3 ?_
    rcases hy with ⟨y1, y2⟩ | ⟨y1, y2⟩
    · exact absurd y1 (by decide)
    · unfold pText
      rw [y2]
  · obtain ⟨b1, b2, b3, b4⟩ := bo
    have hbd := pCl_b hT.2.1 (by decide) hT.1 (by decide) (by decide) hq2
    refine LL.2 11 m2 q2 d2 s2 [cl] rfl (mFt_tr a1 (mFt_q b1)) b5 b4 hbd.1 hbd.2.1 hbd.2.2.1 hbd.2.2.2 b6 b7 (fun i c2 h => ?_) ?_
    · cases i with
      | zero => obtain rfl := Option.some.inj h; exact b8
      | succ i => cases h
    · conv => rhs; unfold pText
      rw [hq2]
      rfl
