-- TEST: the loop, and all of it
theorem c_landN {E : EN} (hE : Ep E) {k : Nat} {mem : Mm} {Q : Mm → Prop} {t : Int} (ht : isTx t) (hQ : Q mem) : CV E mX9_land k mem [aR t, aI (-1)] Q :=
  eX9_land (by decide) (rX9_land_0 hE ht ⟨fun _ => hQ, fun z => absurd z (by decide)⟩)
theorem c_landP {E : EN} (hE : Ep E) {k : Nat} {mem : Mm} {Q : Mm → Prop} {t j : Int} (ht : isTx t) (j0 : 0 ≤ j) (j1 : j < 400) (hQ : Q (aUp mem (t + 7) j (mem t 8))) : CV E mX9_land k mem [aR t, aI j] Q :=
  eX9_land ⟨by omega, by omega⟩ (rX9_land_0 hE ht ⟨fun z => absurd z (by omega), fun _ => ⟨fun z => absurd z (by omega), fun _ => ⟨⟨j0, j1⟩, hQ⟩⟩⟩)
theorem c_land {E : EN} (hE : Ep E) {k : Nat} {mem : Mm} {Q : Mm → Prop} {t : Int} {T : Rw} {n : Int} {od : Bool} {q c s j : Int} (ht : isTx t) (h : cSt mem t T n od q c s) (j0 : 0 ≤ j) (j1 : j < 400) (hQ : ∀ m2, cFr t j mem m2 → cSt m2 t T n od q c s → m2 (t + 7) j = s → (∀ i, m2 (t + 6) i = mem (t + 6) i) → (∀ i, ¬ i = j → m2 (t + 7) i = mem (t + 7) i) → Q m2) : CV E mX9_land k mem [aR t, aI j] Q := by
  refine c_landP hE ht j0 j1 ?_
  rw [h.2.2.2.2]
  have ht2 := ht
  unfold isTx at ht2
  have g : ∀ o i, ¬ (o = t + 7 ∧ i = j) → (aUp mem (t + 7) j s) o i = mem o i := fun o i z => aUp_nn z
  obtain ⟨⟨⟨x1, x2⟩, x3, x4, x5, x6⟩, x7, x8, x9, x10⟩ := h
  exact hQ _ (fun o i _ _ z => g o i (by omega)) ⟨⟨⟨(g _ _ (by omega)).trans x1, fun i y z => (g _ _ (by omega)).trans (x2 i y z)⟩, (g _ _ (by omega)).trans x3, (g _ _ (by omega)).trans x4, (g _ _ (by omega)).trans x5, fun y => (g _ _ (by omega)).trans (x6 y)⟩, (g _ _ (by omega)).trans x7, (g _ _ (by omega)).trans x8, (g _ _ (by omega)).trans x9, (g _ _ (by omega)).trans x10⟩ aUp_re (fun i => g _ _ (by omega)) fun i hi => g _ _ (by omega)
/-- a jump that waits: what stands ahead of it -/
def cPn (N : Int) (m : Mm) (t : Int) (L : Nat) (o a x s0 s1 : Int) (fa : Rw → Int) : Prop := (x = -1 ∧ a = -1 ∧ s1 = s0) ∨ (a = o ∧ 0 ≤ x ∧ s1 = x + 1 ∧ tB fa ∧ m (t + 6) x = cdC o ∧ cSg N m t L s0 x fa)
theorem cPn_le {N : Int} {m : Mm} {t : Int} {L : Nat} {o a x s0 s1 : Int} {fa : Rw → Int} (h : cPn N m t L o a x s0 s1 fa) : s0 ≤ s1 := by
  rcases h with ⟨-, -, e⟩ | ⟨-, -, e, -, -, g⟩
  · omega
  · have := g.2.1; omega
theorem cPn_fr {N : Int} {m m2 : Mm} {t s : Int} {L : Nat} {o a x s0 s1 : Int} {fa : Rw → Int} (ht : isTx t) (hf : cFr t s m m2) (hs : s1 ≤ s) (h : cPn N m t L o a x s0 s1 fa) : cPn N m2 t L o a x s0 s1 fa := by
  rcases h with e | ⟨e1, e2, e3, e4, e5, e6⟩
  · exact Or.inl e
  · exact Or.inr ⟨e1, e2, e3, e4, (hf _ _ (by unfold isTx at ht; omega) (by omega) (by omega)).trans e5, cFr_sg ht hf (by omega) e6⟩
theorem c_tst_l {E : EN} (hE : Ep E) (hSt : aStr E) {k : Nat} {m0 : Mm} {Q : Int → Mm → Prop} {t : Int} {T : Rw} {n : Int} {od : Bool} {N dp : Int} {L : Nat} {el : Int → Int → PR} {s0 p0 : Int} {R : PR} (ht : isTx t) (hT : tOk T n) (hL : L + 1 < 40) (hel : cEl E mX7_readPlain (k + 6) dp t T n od N L el) (hok : qOk T n el tB) (hs0 : 0 ≤ s0) (hsp : s0 ≤ tF T n p0)
    (hF : ∀ x, R = .inr x → ∀ m2, cFr t s0 m0 m2 → m2 591 7 = x → Q 0 m2) (hO : ∀ q d f, R = .inl (q, d, f) → ∀ m2 s2, cFr t s0 m0 m2 → cSt m2 t T n od q d s2 → s2 - s0 ≤ tF T n q - tF T n p0 → cSg N m2 t L s0 s2 f → Q 1 m2) :
    ∀ (d : Nat) (mem : Mm) (p c a b x2 x3 x4 s s1 : Int) (fa fb : Rw → Int), cSt mem t T n od p c s → 0 ≤ p → p ≤ n → 0 ≤ c → c ≤ 50 → 401 - p ≤ d → 0 ≤ x4 → 2 * x4 ≤ p → cFr t s0 m0 mem →
      cPn N mem t L 30 a x3 s0 s1 fa → cPn N mem t L 29 b x2 s1 s fb →
      s - s0 ≤ tF T n p - tF T n p0 → pLoop el (fun q => oAnd (tW T n q)) (fun q => oOr (tW T n q)) (tT T n) d p c a fa b fb = R →
      VM E mX7_readTest (k + 6 + 1) mem 7 [(0, aR 591), (1, aI dp), (2, aI x2), (3, aI x3), (4, aI x4)] [] (retI Q) := by
  have hT1 := hT.2.1
  have machc := machC N
  intro d
  induction d with
  | zero => intro mem p c a b x2 x3 x4 s s1 fa fb _ _ h1 _ _ h2; exact absurd h2 (by omega)
  | succ d ih =>
    intro mem p c a b x2 x3 x4 s s1 fa fb hst hp hpn hc hc2 hd hx4 hx4p hfr hA hB hcnt hR
    have hs10 := cPn_le hA
    have hss1 := cPn_le hB
    have hbF := tF_b (T := T) hpn
    unfold pLoop at hR
    refine rX7_readTest_7 (k := k + 6) hE hSt ⟨fun z => absurd z (by omega), fun _ _ => hel mem _ p c s hst hp hpn hc hc2 (by omega) (by omega) (fun x hx m2 f2 e7 => ⟨fun z => absurd rfl z, fun _ => ?_⟩) (fun q d2 f he m1 s2 f1 st1 hs2 sg1 => ⟨fun _ => ⟨by rw [st1.2.1]; exact ht, fun r2 => ?_⟩, fun z => absurd z (by decide)⟩)⟩
    · rw [hx] at hR
      exact hF x hR.symm m2 (cFr_tr hfr f2 (by omega)) e7
    rw [he] at hR
    dsimp only at hR
    obtain ⟨k1, k2, k3, k4, k5⟩ := hok p c q d2 f hp hpn hc hc2 he
    have hbq := tF_b (T := T) k2
    have hq0 : 0 ≤ q := by omega
    have hsg1 := sg1.2.1
    have vt : tB (cmb b fb f) := by
      rcases hB with ⟨-, e, -⟩ | ⟨e, -, -, e3, -⟩
      · unfold cmb; rw [if_pos e]; exact k5
      · exact cmb_t (Or.inr (by omega)) e3 k5
    -- behind "and" and its landing
    have F2 : ∀ (m4 : Mm), cFr t s0 m0 m4 → cSt m4 t T n od q d2 s2 → cPn N m4 t L 30 a x3 s0 s1 fa → cSg N m4 t L s1 s2 (cmb b fb f) → (CI E mX7_isWord (k + 6) m4 [aR 591, aF (strA E 5)] (fun r6 m5 => ((r6 = 0 → (isTx (m5 591 4)) ∧ (R32 x3 → CV E mX9_land (k + 6) m5 [aR (m5 591 4), aI x3] (fun m8 => (CI E mX7_isWord (k + 6) m8 [aR 591, aF (strA E 6)] (fun r10 m9 => ((¬ r10 = 0 → (isTx (m9 591 4)) ∧ (CI E mX9_emit (k + 6) m9 [aR (m9 591 4), aI 4, aI 0] (fun r13 m12 => (CV E mX7_advance (k + 6) m12 [aR 591] (fun m14 => (R32 (x4 + 1)) ∧ VM E mX7_readTest (k + 6 + 1) m14 7 [(0, aR 591), (1, aI dp), (2, aI (-1)), (3, aI r13), (4, aI (x4 + 1))] [] (retI Q)))))) ∧ (r10 = 0 → Q 1 m9))))))) ∧ (¬ r6 = 0 → (isTx (m5 591 4)) ∧ (CI E mX9_emit (k + 6) m5 [aR (m5 591 4), aI 3, aI 0] (fun r18 m17 => (CV E mX7_advance (k + 6) m17 [aR 591] (fun m19 => (R32 (x4 + 1)) ∧ VM E mX7_readTest (k + 6 + 1) m19 7 [(0, aR 591), (1, aI dp), (2, aI r18), (3, aI x3), (4, aI (x4 + 1))] [] (retI Q))))))))) := by
      intro m4 g1 g2 gA g3
      refine c_isWord hE hSt hT g2.1 hq0 k2 (Or.inl (by decide)) rfl (fun w => ⟨fun z => absurd z (by decide), fun _ => ⟨by rw [g2.2.1]; exact ht, ?_⟩⟩) (fun w => ⟨fun _ => ⟨by rw [g2.2.1]; exact ht, fun r3 => ?_⟩, fun z => absurd rfl z⟩)
      · have ho : oAnd (tW T n q) = 29 := by unfold oAnd; rw [if_pos w]
        rw [ho, if_pos (by decide)] at hR
        have nx := nx_b (T := T) k2 (by rw [tW_s (T := T) (n := n) (p := q) (by omega)]; decide)
        have hbx := tF_b (T := T) nx.2.1
        rw [g2.2.1]
        refine c_emit hE ht g2 (by omega) (by omega) (by decide) (by decide) fun m5 a1 a2 a3 a4 _ => c_advS hE ht hT a2 hq0 k2 fun m6 b1 b2 => ⟨⟨by omega, by omega⟩, ?_⟩
        have fr6 : cFr t s2 m4 m6 := cFr_tr a1 (cFr_4 b1) (Int.le_refl _)
        have ht2 := ht
        unfold isTx at ht2
        refine ih m6 (tT T n q) d2 a 29 s2 x3 (x4 + 1) (s2 + 1) s1 fa _ b2 (by omega) nx.2.1 k3 k4 (by omega) (by omega) (by omega) (cFr_tr g1 fr6 (by omega)) (cPn_fr ht fr6 (by omega) gA) (Or.inr ⟨rfl, by omega, rfl, vt, ?_, cFr_sg ht fr6 (Int.le_refl s2) g3⟩) (by omega) hR
        rw [b1 _ _ (by omega)]
        exact a3
      · have ho : oAnd (tW T n q) = -1 := by unfold oAnd; rw [if_neg w]
        rw [ho, if_neg (by decide)] at hR
        have F3 : ∀ m8, cFr t s0 m0 m8 → cSt m8 t T n od q d2 s2 → cSg N m8 t L s0 s2 (cmb a fa (cmb b fb f)) → tB (cmb a fa (cmb b fb f)) → (CI E mX7_isWord (k + 6) m8 [aR 591, aF (strA E 6)] (fun r10 m9 => ((¬ r10 = 0 → (isTx (m9 591 4)) ∧ (CI E mX9_emit (k + 6) m9 [aR (m9 591 4), aI 4, aI 0] (fun r13 m12 => (CV E mX7_advance (k + 6) m12 [aR 591] (fun m14 => (R32 (x4 + 1)) ∧ VM E mX7_readTest (k + 6 + 1) m14 7 [(0, aR 591), (1, aI dp), (2, aI (-1)), (3, aI r13), (4, aI (x4 + 1))] [] (retI Q)))))) ∧ (r10 = 0 → Q 1 m9)))) := by
          intro m8 h1 h2 h3 h4
          refine c_isWord hE hSt hT h2.1 hq0 k2 (Or.inl (by decide)) rfl (fun w2 => ⟨fun _ => ⟨by rw [h2.2.1]; exact ht, ?_⟩, fun z => absurd z (by decide)⟩) (fun w2 => ⟨fun z => absurd rfl z, fun _ => ?_⟩)
          · have ho2 : oOr (tW T n q) = 30 := by unfold oOr; rw [if_pos w2]
            rw [ho2, if_pos (by decide)] at hR
            have nx := nx_b (T := T) k2 (by rw [tW_s (T := T) (n := n) (p := q) (by omega)]; decide)
            have hbx := tF_b (T := T) nx.2.1
            rw [h2.2.1]
            refine c_emit hE ht h2 (by omega) (by omega) (by decide) (by decide) fun m5 a1 a2 a3 a4 _ => c_advS hE ht hT a2 hq0 k2 fun m6 b1 b2 => ⟨⟨by omega, by omega⟩, ?_⟩
            have fr6 : cFr t s2 m8 m6 := cFr_tr a1 (cFr_4 b1) (Int.le_refl _)
            have ht2 := ht
            unfold isTx at ht2
            refine ih m6 (tT T n q) d2 30 (-1) (-1) s2 (x4 + 1) (s2 + 1) (s2 + 1) _ f0 b2 (by omega) nx.2.1 k3 k4 (by omega) (by omega) (by omega) (cFr_tr h1 fr6 (by omega)) (Or.inr ⟨rfl, by omega, rfl, h4, ?_, cFr_sg ht fr6 (Int.le_refl s2) h3⟩) (Or.inl ⟨rfl, rfl, rfl⟩) (by omega) hR
            rw [b1 _ _ (by omega)]
            exact a3
          · have ho2 : oOr (tW T n q) = -1 := by unfold oOr; rw [if_neg w2]
            rw [ho2, if_neg (by decide)] at hR
            exact hO q d2 _ hR.symm m8 s2 h1 h2 (by omega) h3
        rw [g2.2.1]
        rcases gA with ⟨u1, u2, u3⟩ | ⟨u1, u2, u3, u4, u5, u6⟩
        · subst u1
          refine c_landN hE ht (F3 m4 g1 g2 ?_ ?_)
          · rw [cmb_n u2, ← u3]
            exact g3
          · rw [cmb_n u2]
            exact vt
        · subst u1
          have hu6 := u6.2.1
          have hu60 := u6.1
          refine c_land hE ht g2 u2 (by omega) fun m8 b1 b2 b3 b4 b5 => F3 m8 (cFr_tr g1 b1 (by omega)) b2 ?_ (cmb_t (Or.inr (Or.inr rfl)) u4 vt)
          refine sg_jmp (cd := cdC) machc (lim := 40) (j := x3) (by omega) (sg_fr (fun i z1 z2 => ⟨b4 i, b5 i (by omega)⟩) u6) ?_ (Or.inr rfl) ((b4 x3).trans u5) b3 u4
          rw [← u3]
          exact sg_fr (fun i z1 z2 => ⟨b4 i, b5 i (by omega)⟩) g3
    have hA1 := cPn_fr ht f1 hss1 hA
    rw [st1.2.1]
    rcases hB with ⟨u1, u2, u3⟩ | ⟨u1, u2, u3, u4, u5, u6⟩
    · subst u1
      refine c_landN hE ht (F2 m1 (cFr_tr hfr f1 (by omega)) st1 hA1 ?_)
      rw [cmb_n u2, ← u3]
      exact sg1
    · subst u1
      have hu6 := u6.2.1
      refine c_land hE ht st1 u2 (by omega) fun m8 b1 b2 b3 b4 b5 => F2 m8 (cFr_tr (cFr_tr hfr f1 (by omega)) b1 (by omega)) b2 (cPn_fr ht b1 (by omega) hA1) ?_
      refine sg_jmp (cd := cdC) machc (lim := 40) (j := x2) (by omega) (sg_fr (fun i z1 z2 => ⟨b4 i, b5 i (by omega)⟩) (cFr_sg ht f1 (by omega) u6)) ?_ (Or.inl rfl) ((b4 x2).trans ((f1 _ _ (by unfold isTx at ht; omega) (by omega) (by omega)).trans u5)) b3 u4
      rw [← u3]
      exact sg_fr (fun i z1 z2 => ⟨b4 i, b5 i (by omega)⟩) sg1
theorem c_readTest {E : EN} (hE : Ep E) (hSt : aStr E) {k : Nat} {t : Int} {T : Rw} {n : Int} {od : Bool} {N dp : Int} {L : Nat} {el : Int → Int → PR} (ht : isTx t) (hT : tOk T n) (hdp : R32 dp) (hL : L + 1 < 40) (hel : cEl E mX7_readPlain (k + 6) dp t T n od N L el) (hok : qOk T n el tB) : cEl E mX7_readTest (k + 6 + 1) dp t T n od N L (lpT T n el) := by
  intro mem Q p c s hst hp hpn hc hc2 hs0 hsp hF hO
  refine eX7_readTest hdp (rX7_readTest_0 (k := k + 6) hE ?_)
  exact c_tst_l hE hSt (m0 := mem) (s0 := s) (p0 := p) ht hT hL hel hok hs0 hsp hF hO 401 mem p c (-1) (-1) (-1) (-1) 0 s s f0 f0 hst hp hpn hc hc2 (by omega) (by omega) (by omega) cFr_rf (Or.inl ⟨rfl, rfl, rfl⟩) (Or.inl ⟨rfl, rfl, rfl⟩) (by omega) rfl
theorem c_plainB {E : EN} (hE : Ep E) (hSt : aStr E) {t : Int} {T : Rw} {n : Int} {od : Bool} {N : Int} (ht : isTx t) (hT : tOk T n) (hN : N = if od = true then 78 else 10) : ∀ (b k : Nat) (dp : Int), 2 * b + 10 ≤ k → dp = 8 - (b : Int) → b ≤ 8 → cEl E mX7_readPlain k dp t T n od N 0 (pPlain od T n b) := by
  intro b
  induction b with
  | zero =>
    intro k dp hk hdp hb
    obtain ⟨j, rfl⟩ : ∃ j, k = j + 6 + 1 := ⟨k - 7, by omega⟩
    exact c_plain hE hSt ht hT (by decide) hdp hb (c_sum hE hSt ht hT hN 0 (j + 6) 1 dp (by omega) (by decide) hdp hb) fun b' z => absurd z (by omega)
  | succ b ih =>
    intro k dp hk hdp hb
    obtain ⟨j, rfl⟩ : ∃ j, k = j + 1 + 6 + 1 := ⟨k - 8, by omega⟩
    refine c_plain hE hSt ht hT (by decide) hdp hb (c_sum hE hSt ht hT hN (b + 1) (j + 1 + 6) 1 dp (by omega) (by omega) hdp hb) fun b' z => ?_
    obtain rfl : b' = b := by omega
    exact c_readTest (k := j) hE hSt ht hT ⟨by omega, by omega⟩ (by decide) (ih (j + 6) (dp + 1) (by omega) (by omega) (by omega)) (pPlain_ok hT.2.1 b')
theorem c_test {E : EN} (hE : Ep E) (hSt : aStr E) {t : Int} {T : Rw} {n : Int} {od : Bool} {N : Int} (ht : isTx t) (hT : tOk T n) (hN : N = if od = true then 78 else 10) (k : Nat) (hk : 27 ≤ k) : cEl E mX7_readTest k 0 t T n od N 0 (pTest od T n 8) := by
  obtain ⟨j, rfl⟩ : ∃ j, k = j + 6 + 1 := ⟨k - 7, by omega⟩
  exact c_readTest hE hSt ht hT (by decide) (by decide) (c_plainB hE hSt ht hT hN 8 (j + 6) 0 (by omega) (by decide) (by decide)) (pPlain_ok hT.2.1 8)
