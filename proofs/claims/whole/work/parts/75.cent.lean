-- centuries: the draws
theorem jC_dr {m m2 : Mm} (hC : jC m) (hF : ∀ o i, ¬ scr o i → isK o i → ¬ (580 ≤ o ∧ o ≤ 590) → o ≠ 635 → ¬ (o = 603 ∧ i = 60) → m2 o i = m o i) (hI : iDr m2) : jC m2 := by
  obtain ⟨hT, hS, hfull, hlw, hP, i0, i1, hd, hk⟩ := hC
  have big : ∀ o i, (o = 605 ∨ o = 606 ∨ o = 607 ∨ (348 < o ∧ o < 355) ∨ (618 ≤ o ∧ o ≤ 620) ∨ o = 633 ∨ o = 186) → m2 o i = m o i := by
    intro o i h
    obtain ⟨u, v⟩ : ¬ scr o i ∧ isK o i := by unfold scr isK isTx; omega
    exact hF o i u v (by omega) (by omega) (by omega)
  have e5 : m2 605 = m 605 := funext fun i => big 605 i (Or.inl rfl)
  have yd : ∀ y o i, (y = 2 ∨ isPy y) → y ≤ o → o ≤ y + 8 → (o = y → i = 10) → m2 o i = m o i := fun y o i hy a b c => by
    obtain ⟨w1, w2⟩ := nscr_yd (y := y) (o := o) (i := i) (hy.elim Or.inl fun q => Or.inr (Or.inl q)) a b (by omega)
    refine hF _ _ w1 w2 ?_ ?_ ?_ <;> (unfold isPy at hy; omega)
  have k3 : ∀ i, i = 8 ∨ i = 11 ∨ i = 13 ∨ i = 18 ∨ i = 20 ∨ i = 43 ∨ i = 56 → m2 603 i = m 603 i := fun i q => hF 603 i (by unfold scr isTx; omega) (by unfold isK; omega) (by omega) (by decide) (by omega)
  have tx : ∀ l i o j, (l = 353 ∨ l = 425 ∨ l = 496) → 0 ≤ i → i < 6 → l + 2 + 9 * i ≤ o → o ≤ l + 2 + 9 * i + 7 → m2 o j = m o j := fun l i o j hl h0 h1 u v => by
    obtain ⟨w1, w2⟩ := nscr_tx (l := l) (t := i) (o := o) (i := j) hl ⟨h0, h1⟩ u v
    exact hF o j w1 w2 (by omega) (by omega) (by omega)
  have img : ∀ k, k = 0 ∨ k = 1 → iImg m k → iImg m2 k := by
    intro k hk ⟨q1, q2, q3⟩
    have e7 : m2 607 k = m 607 k := big 607 k (by omega)
    have e3 : m2 (410 + 71 * k) 3 = m (410 + 71 * k) 3 := hF _ _ (by unfold scr isTx; omega) (by unfold isK; omega) (by omega) (by omega) (by omega)
    refine ⟨by rw [e3, e7]; exact q1, by rw [e7]; exact q2, fun u => ?_⟩
    rw [e7] at u
    refine full_cg (r := imR m k) (fun i a b => big 606 _ (by omega)) (full_fr (fun o i a b c => ?_) (fun o i a b => ?_) (fun o i a b c d => ?_) (by omega) (q3 u))
    · obtain ⟨w1, w2⟩ := nscr_yd (y := 411 + 71 * k) (o := o) (i := i) (by omega) a (by omega) (by omega)
      exact hF _ _ w1 w2 (by omega) (by omega) (by omega)
    · exact hF _ _ (by unfold scr isTx; omega) (by unfold isK; omega) (by omega) (by omega) (by omega)
    · refine hF _ _ (fun z => ?_) (by unfold isK; omega) (by omega) (by omega) (by omega)
      unfold scr at z
      rcases z with z | z
      · exact c z
      · omega
  refine ⟨?_, ?_, ?_, ?_, ?_, ?_, ?_, ?_, ?_⟩
  · exact iC_tp hT (hF _ _ (by unfold scr isTx; omega) (by unfold isK; omega) (by omega) (by decide) (by omega)) (k3 13 (by omega)) (fun i => hF _ _ (by unfold scr isTx; omega) (by unfold isK; omega) (by omega) (by decide) (by omega)) (fun i => hF _ _ (by unfold scr isTx; omega) (by unfold isK; omega) (by omega) (by decide) (by omega))
  · exact iC_sm hS (fun i q => hF _ _ (by unfold scr isTx; omega) (by unfold isK; omega) (by omega) (by decide) (by omega)) (fun i q => hF _ _ (by unfold scr isTx; omega) (by unfold isK; omega) (by omega) (by decide) (by omega)) fun i q => k3 i (by omega)
  · rw [e5]
    exact ⟨hfull.1, yR_fr hfull.2.1 (yd 2 2 10 (Or.inl rfl) (by decide) (by decide) fun _ => rfl) (fun o i a b => yd 2 o i (Or.inl rfl) (by omega) b fun q => by omega), fR_fr (fun o i a b => big o i (by omega)) hfull.2.2.1, lR_row (big _ _ (by omega)) (big _ _ (by omega)) (fun _ _ => rfl) (fun i o j h0 h1 u v => tx 353 i o j (Or.inl rfl) h0 h1 u v) hfull.2.2.2⟩
  · unfold iLw
    rw [e5, hF 2 9 (by unfold scr isTx; omega) (by unfold isK; omega) (by omega) (by decide) (by omega)]
    exact hlw
  · obtain ⟨p1, p2, p3, p4, p5, p6⟩ := hP
    have e13 : ∀ k, m2 13 k = m 13 k := fun k => hF _ _ (by unfold scr isTx; omega) (by unfold isK; omega) (by omega) (by decide) (by omega)
    have e8 : m2 603 8 = m 603 8 := k3 8 (by omega)
    have e68 : ∀ i, i < 1232 → m2 608 i = m 608 i := fun i q => hF _ _ (by unfold scr isTx; omega) (by unfold isK; omega) (by omega) (by decide) (by omega)
    refine ⟨by rw [e8, hF 12 2 (by unfold scr isTx; omega) (by unfold isK; omega) (by omega) (by decide) (by omega)]; exact p1, by rw [e8]; exact p2, by rw [e8]; exact p3, fun k a b => by rw [e13, big 186 k (by omega)]; exact p4 k a b, fun j k a b c d e => by rw [e13, e13] at e; exact p5 j k a b c d e, fun k a b => ?_⟩
    rw [e8] at b
    obtain ⟨q1, q2, q3, q4⟩ := p6 k a b
    have hy := (p4 k a (by omega)).1
    have hs : ∀ i, 3 ≤ i → i < 144 → snR m2 k i = snR m k i := fun i u v => by
      unfold snR
      by_cases y : 3 ≤ i ∧ i < 80
      · rw [if_pos y, if_pos y]; exact e68 _ (by omega)
      · rw [if_neg y, if_neg y, e5]
    rw [e13, hF 14 k (by unfold scr isTx; omega) (by unfold isK; omega) (by omega) (by decide) (by omega), hF 609 k (by unfold scr isTx; omega) (by unfold isK; omega) (by omega) (by decide) (by omega)]
    exact ⟨yR_cg hs (yR_fr q1 (yd _ _ 10 (Or.inr hy) (by omega) (by omega) fun _ => rfl) (fun o i u v => yd _ o i (Or.inr hy) (by omega) v fun q => by omega)), rOk_cg hs q2, q3, q4⟩
  · exact img 0 (Or.inl rfl) i0
  · exact img 1 (Or.inr rfl) i1
  · exact hI
  · unfold iKs at hk ⊢
    have e1 : ∀ i, m2 618 i = m 618 i := fun i => big 618 i (by omega)
    have e2 : ∀ i, m2 619 i = m 619 i := fun i => big 619 i (by omega)
    have e3 : ∀ i, m2 620 i = m 620 i := fun i => big 620 i (by omega)
    have e4 : ∀ i, m2 633 i = m 633 i := fun i => big 633 i (by omega)
    simp only [e1, e2, e3, e4]
    exact hk

def rnd (z : Int) : Int := Int.tmod (z * 1103 + 12345) 1000003
theorem rnd_b {z : Int} (h : 0 ≤ z) : 0 ≤ rnd z ∧ rnd z < 1000003 := ⟨Int.tmod_nonneg _ (by omega), Int.tmod_lt_of_pos _ (by decide)⟩
theorem tmd_b {z p : Int} (h : 0 ≤ z) (hp : 0 < p) : 0 ≤ Int.tmod z p ∧ Int.tmod z p < p := ⟨Int.tmod_nonneg _ h, Int.tmod_lt_of_pos _ hp⟩
def cBeg (L : LW) (r : Rw) (z : Int) : Rw := if (rnd z).tmod 10 < r 5 then rAg r else (rTn L r).1
def cAdd (L : LW) (r : Rw) (a b : Int) : Rw := if rLi L r (b.tmod 6) (a.tmod 32) = true ∧ r 7 < 10 then rAd r (b.tmod 6) (a.tmod 32) 0 else r
def cLp (L : LW) : Nat → Rw → Int → Rw
  | 0, r, _ => r
  | n + 1, r, z => if 999 ≤ r 3 then r else cLp L n (cAdd L (cBeg L r z) (rnd (rnd z)) (rnd (rnd (rnd z)))) (rnd (rnd (rnd z)))
theorem rOk_998 {r : Rw} (h : rOk 999 r) (h3 : r 3 < 999) : rOk 998 r := by
  obtain ⟨o1, o2, o3, o4, o5, o6, o7⟩ := h
  exact ⟨o1, o2, o3, o4, o5, by omega, o7⟩
theorem cBeg_ok {L : LW} {r : Rw} {z : Int} (h : rOk 999 r) (h3 : r 3 < 999) : rOk 999 (cBeg L r z) := by
  unfold cBeg
  split
  · exact rAg_ok (rOk_998 h h3)
  · exact (rTn_ok (rOk_998 h h3)).1
theorem cAdd_ok {L : LW} {r : Rw} {a b : Int} (h : rOk 999 r) (ha : 0 ≤ a) (hb : 0 ≤ b) : rOk 999 (cAdd L r a b) := by
  unfold cAdd
  split
  · rename_i q
    have g := tmd_b ha (show (0 : Int) < 32 by decide)
    have g2 := tmd_b hb (show (0 : Int) < 6 by decide)
    exact rAd_ok h q.2 g2.1 g2.2 g.1 g.2 (Int.le_refl 0) (by decide) (rLi_oc q.1)
  · exact h
theorem cLp_ok {L : LW} : ∀ (n : Nat) (r : Rw) (z : Int), rOk 999 r → 0 ≤ z → rOk 999 (cLp L n r z)
  | 0, _, _, h, _ => h
  | n + 1, r, z, h, hz => by
    unfold cLp
    split
    · exact h
    · have a1 := rnd_b hz
      have a2 := rnd_b a1.1
      have a3 := rnd_b a2.1
      exact cLp_ok n _ _ (cAdd_ok (cBeg_ok h (by omega)) a2.1 a3.1) a3.1
/-- the class's sheet of draws -/
def cD (m0 m : Mm) (L : LW) (r : Rw) (z : Int) : Prop := (∀ o i, (o < 580 ∨ 590 < o) → ¬ isTx (o - 8) → m o i = m0 o i) ∧ yR m 581 r ∧ yL m 581 L ∧ m 580 1 = z
theorem isYd581 : isYd 581 := by unfold isYd; omega
theorem cD_y {m0 m m2 : Mm} {L : LW} {r r2 : Rw} {z : Int} (h : cD m0 m L r z) (hy : yFr 581 m m2) (h9 : m2 581 9 = m 581 9) (hR : yR m2 581 r2) : cD m0 m2 L r2 z :=
  ⟨fun o i a b => (hy o i (by omega) b).trans (h.1 o i a b), hR, yL_q isYd581 h.2.2.1 h9 hy, (hy 580 1 (by decide) (by unfold isTx; omega)).trans h.2.2.2⟩
theorem yL_580 {m m2 : Mm} {L : LW} (h : yL m 581 L) (hf : ∀ o i, o ≠ 580 → m2 o i = m o i) : yL m2 581 L := by
  unfold yL
  rw [hf 581 9 (by decide)]
  rcases h with h | ⟨h, D, h2, h3⟩
  · exact Or.inl h
  · exact Or.inr ⟨h, D, TxS_fr (fun o i u v => hf o i (by unfold isTx at h; omega)) h2, h3⟩
theorem s_draw {E : EN} (hE : Ep E) {k : Nat} {m0 mem : Mm} {Q : Int → Mm → Prop} {L : LW} {r : Rw} {z p : Int} (hp : 0 < p) (hp2 : p < 1000) (hz : 0 ≤ z) (hz2 : z ≤ 1000003) (h : cD m0 mem L r z) (hQ : ∀ m2 : Mm, cD m0 m2 L r (rnd z) → Q ((rnd z).tmod p) m2) : CI E mX0_draw k mem [aR 580, aI p] Q := by
  obtain ⟨h1, h2, h3, h4⟩ := h
  have b := rnd_b hz
  have b2 := tmd_b b.1 hp
  refine eX0_draw ⟨by omega, by omega⟩ (rX0_draw_0 hE ?_)
  rw [h4]
  refine ⟨⟨by omega, by omega⟩, ⟨by omega, by omega⟩, fun q => absurd q (by omega), fun _ => ⟨by omega, ⟨show (_ : Int) ≤ (rnd z).tmod p by omega, show (rnd z).tmod p < (_ : Int) by omega⟩, hQ _ ⟨fun o i a c => (aUp_nn (by omega)).trans (h1 o i a c), yR_fr h2 (aUp_nn (by omega)) fun o i a c => aUp_nn (by omega), ?_, aUp_re⟩⟩⟩
  exact yL_580 h3 fun o i a => aUp_nn (by omega)
theorem s_cen_t {E : EN} (hE : Ep E) {m0 mem : Mm} {Q : Int → Mm → Prop} {L : LW} {r : Rw} {z N x : Int} (hz : 0 ≤ z) (hz2 : z ≤ 1000003) (hok : rOk 999 r) (hx : 0 ≤ x) (hx2 : x < 1000) (h : cD m0 mem L r z) (nx : ∀ m2 : Mm, cD m0 m2 L (cAdd L r (rnd z) (rnd (rnd z))) (rnd (rnd z)) → VM E mX0_run (1197 + 1) m2 28 [(0, aR 580), (3, aI N), (4, aI (x + 1))] [] (retI Q)) : CI E mX0_draw 1197 mem [aR 580, aI 32] (fun r5 m4 => (CI E mX0_draw 1197 m4 [aR 580, aI 6] (fun r7 m6 => (R32 r7 → R32 r5 → CI E mX10_isOpenTo 1197 m6 [aR 581, aI r7, aI r5] (fun r9 m8 => ((r9 = 0 → (R32 (x + 1)) ∧ VM E mX0_run (1197 + 1) m8 28 [(0, aR 580), (3, aI N), (4, aI (x + 1))] [] (retI Q)) ∧ (¬ r9 = 0 → (R32 r7 → R32 r5 → CV E mX10_add 1197 m8 [aR 581, aI r7, aI r5, aI 0] (fun m11 => (R32 (x + 1)) ∧ VM E mX0_run (1197 + 1) m11 28 [(0, aR 580), (3, aI N), (4, aI (x + 1))] [] (retI Q))))))))) ) := by
  have b1 := rnd_b hz
  have b2 := rnd_b b1.1
  have g1 := tmd_b b1.1 (show (0 : Int) < 32 by decide)
  have g2 := tmd_b b2.1 (show (0 : Int) < 6 by decide)
  refine s_draw hE (by decide) (by decide) hz hz2 h fun m1 h1 => s_draw hE (by decide) (by decide) b1.1 (by omega) h1 fun m2 h2 => fun rf rc => s_yLi (k := 1193) hE isYd581 h2.2.1 h2.2.2.1 (by decide) hok g2.1 g2.2 g1.1 g1.2 fun m3 q3 => ?_
  have h3 : cD m0 m3 L r (rnd (rnd z)) := cD_y h2 (qFr_y q3) (q3 581 9 (by decide) (by unfold isTx; omega)) (yR_fr h2.2.1 (q3 581 10 (by decide) (by unfold isTx; omega)) fun o i u v => q3 o i (by omega) (by unfold isTx; omega))
  have sx : R32 (x + 1) := ⟨by omega, by omega⟩
  by_cases c : rLi L r ((rnd (rnd z)).tmod 6) ((rnd z).tmod 32) = true
  · rw [if_pos c]
    refine ⟨fun q => absurd q (by decide), fun _ _ _ => ?_⟩
    by_cases c7 : r 7 < 10
    · refine s_yAd hE isYd581 h3.2.1 hok c7 rf rc (by decide) fun m4 q4 R4 => ⟨sx, nx m4 ?_⟩
      have e : cAdd L r (rnd z) (rnd (rnd z)) = rAd r ((rnd (rnd z)).tmod 6) ((rnd z).tmod 32) 0 := if_pos ⟨c, c7⟩
      rw [e]
      exact cD_y h3 (fun o i u v => q4 o i (by omega) (by omega)) (q4 581 9 (by decide) (by decide)) R4
    · have e : cAdd L r (rnd z) (rnd (rnd z)) = r := if_neg fun q => c7 q.2
      rw [e] at nx
      have e7 : m3 581 10 = r 7 := h3.2.1.1
      exact eX10_add rf rc (by decide) (rX10_add_0 hE isYd581 ⟨fun _ => ⟨sx, nx m3 h3⟩, fun u => absurd u (by omega)⟩)
  · rw [if_neg c]
    have e : cAdd L r (rnd z) (rnd (rnd z)) = r := if_neg fun q => c q.1
    rw [e] at nx
    exact ⟨fun _ => ⟨sx, nx m3 h3⟩, fun q => absurd rfl q⟩
theorem s_cen_l {E : EN} (hE : Ep E) {m0 : Mm} {Q : Int → Mm → Prop} {L : LW} {N : Int} (hN : N ≤ 100) : ∀ (n : Nat) (mem : Mm) (r : Rw) (z x : Int), cD m0 mem L r z → rOk 999 r → 0 ≤ z → z ≤ 1000003 → 0 ≤ x → x + n = N → (∀ m2 z2, cD m0 m2 L (cLp L n r z) z2 → Q (cLp L n r z 7) m2) → VM E mX0_run (1197 + 1) mem 28 [(0, aR 580), (3, aI N), (4, aI x)] [] (retI Q) := by
  intro n
  induction n with
  | zero =>
    intro mem r z x h hok hz hz2 hx hn hQ
    refine rX0_run_28 (p0 := 2) (p1 := 0) hE isYd2 ⟨fun _ => ?_, fun u => absurd u (by omega)⟩
    rw [show mem 581 10 = r 7 from h.2.1.1]
    exact hQ mem z h
  | succ n ih =>
    intro mem r z x h hok hz hz2 hx hn hQ
    have e3 : mem 589 0 = r 3 := h.2.1.2.2.2 0 (by decide) (by decide)
    refine rX0_run_28 (p0 := 2) (p1 := 0) hE isYd2 ⟨fun u => absurd u (by omega), fun u => ⟨fun c => ?_, fun c => ?_⟩⟩
    · rw [e3] at c
      rw [show mem 581 10 = r 7 from h.2.1.1]
      have e : cLp L (n + 1) r z = r := if_pos c
      rw [e] at hQ
      exact hQ mem z h
    · rw [e3] at c
      have e : cLp L (n + 1) r z = cLp L n (cAdd L (cBeg L r z) (rnd (rnd z)) (rnd (rnd (rnd z)))) (rnd (rnd (rnd z))) := if_neg (by omega)
      rw [e] at hQ
      have b1 := rnd_b hz
      have b2 := rnd_b b1.1
      have b3 := rnd_b b2.1
      have nx : ∀ m2 : Mm, cD m0 m2 L (cAdd L (cBeg L r z) (rnd (rnd z)) (rnd (rnd (rnd z)))) (rnd (rnd (rnd z))) → VM E mX0_run (1197 + 1) m2 28 [(0, aR 580), (3, aI N), (4, aI (x + 1))] [] (retI Q) := fun m2 h2 =>
        ih m2 _ _ (x + 1) h2 (cAdd_ok (cBeg_ok hok c) b2.1 b3.1) b3.1 (by omega) (by omega) (by omega) hQ
      refine s_draw hE (by decide) (by decide) hz hz2 h fun m1 h1 => ?_
      have e5 : m1 589 2 = r 5 := h1.2.1.2.2.2 2 (by decide) (by decide)
      rw [e5]
      refine ⟨fun d => ?_, fun d => ?_⟩
      · have eb : cBeg L r z = (rTn L r).1 := if_neg (by omega)
        rw [eb] at nx
        refine s_turn (k := 1193) hE isYd581 h1.2.1 h1.2.2.1 (by decide) hok fun m2 a b c2 => s_cen_t hE b1.1 (by omega) (by rw [← eb]; exact cBeg_ok hok c) hx (by omega) (cD_y h1 a b c2.1) nx
      · have eb : cBeg L r z = rAg r := if_pos d
        rw [eb] at nx
        refine s_yAge (k := 1196) hE isYd581 h1.2.1 (by decide) hok fun m2 a c2 b _ _ => s_cen_t hE b1.1 (by omega) (by rw [← eb]; exact cBeg_ok hok c) hx (by omega) (cD_y h1 a b c2) nx
