-- TEST: the loop; readExpression
def jOf (o j c1 : Int) (f : Rw → Int) : List PE := if o = -1 then [] else [(o, j, c1, f)]
def mJn (od : Bool) (x y : Int → Int) (o a j s0 s1 : Int) (fa : Rw → Int) : Prop := (a = -1 ∧ s1 = s0) ∨ (a = o ∧ 0 ≤ j ∧ j < 400 ∧ s1 = j + 1 ∧ x j = o ∧ tB fa ∧ mSg od x y s0 j fa)
theorem mJn_pd {od : Bool} {x y : Int → Int} {o a j s0 s1 : Int} {fa : Rw → Int} (ho : o = 29 ∨ o = 30) (h : mJn od x y o a j s0 s1 fa) : pdOk od x y (jOf a j s0 fa) s1 s0 := by
  rcases h with ⟨a1, a2⟩ | ⟨a1, a2, a3, a4, a5, a6, a7⟩
  · unfold jOf
    rw [if_pos a1]
    exact a2
  · unfold jOf
    rw [if_neg (by omega)]
    exact Or.inr (Or.inl ⟨by show a = 29 ∨ a = 30; omega, a4, by show x j = a; rw [a5, a1], a6, a7, rfl⟩)
theorem mJn_le {od : Bool} {x y : Int → Int} {o a j s0 s1 : Int} {fa : Rw → Int} (h : mJn od x y o a j s0 s1 fa) : s0 ≤ s1 := by
  rcases h with ⟨a1, a2⟩ | ⟨a1, a2, a3, a4, a5, a6, a7⟩
  · omega
  · have := a7.2.1; omega
theorem mJn_fr {od : Bool} {m m2 : Mm} {o a j s0 s1 s : Int} {fa : Rw → Int} (hc : mCd s m m2) (hs : s1 ≤ s) (h : mJn od (m 614) (m 615) o a j s0 s1 fa) : mJn od (m2 614) (m2 615) o a j s0 s1 fa := by
  rcases h with q | ⟨a1, a2, a3, a4, a5, a6, a7⟩
  · exact Or.inl q
  · exact Or.inr ⟨a1, a2, a3, a4, (hc j (by omega)).1.trans a5, a6, mSg_cd hc (by omega) a7⟩
theorem jOf_G {o j c1 : Int} {f g : Rw → Int} (ho : ¬ o = 28) : pdG (jOf o j c1 f) g = cmb o f g := by
  unfold jOf
  by_cases c : o = -1
  · rw [if_pos c]; exact (cmb_n c).symm
  · rw [if_neg c]
    show (if o = 28 then neg true g else cmb o f g) = _
    rw [if_neg ho]
theorem jOf_T {o j c1 : Int} {f g : Rw → Int} (ho : o = -1 ∨ 28 ≤ o) (hg : tB g) : pdT (jOf o j c1 f) g := by
  unfold jOf
  by_cases c : o = -1
  · rw [if_pos c]; exact True.intro
  · rw [if_neg c]
    refine ⟨?_, True.intro⟩
    show (if 28 ≤ o then tB g else vB g)
    rw [if_pos (by omega)]
    exact hg
theorem jOf_m {o j c1 : Int} {f : Rw → Int} {e : PE} (h : e ∈ jOf o j c1 f) : e.1 = o ∧ e.2.1 = j ∧ ¬ o = -1 := by
  unfold jOf at h
  by_cases c : o = -1
  · rw [if_pos c] at h; cases h
  · rw [if_neg c] at h
    have := List.mem_singleton.mp h
    rw [this]
    exact ⟨rfl, rfl, c⟩
theorem jOf_l {o j c1 : Int} {f : Rw → Int} : ((jOf o j c1 f).length : Int) ≤ 1 := by
  unfold jOf
  by_cases c : o = -1
  · rw [if_pos c]; show ((0 : Nat) : Int) ≤ 1; omega
  · rw [if_neg c]; show ((1 : Nat) : Int) ≤ 1; omega
theorem m_emitS {E : EN} (hE : Ep E) {k : Nat} {mem : Mm} {Q : Mm → Prop} {T : Rw} {n : Int} {od : Bool} {p c s opd v : Int} {P : List (Int × Int)} (h : mSt mem T n od p c s P opd) (s0 : 0 ≤ s) (s1 : s < 400) (rv : R32 v) (hQ : ∀ m2, mFr mem m2 → mCd s mem m2 → mSt m2 T n od p c (s + 1) P opd → m2 614 s = v → Q m2) : CV E mX12_emit k mem [aR 603, aI v, aI 0] Q := by
  refine m_emit hE h.2.2.2.1 s0 s1 rv (by decide) ?_
  have fs : ∀ o' i, ¬ (o' = 603 ∧ i = 23) → ¬ ((o' = 614 ∨ o' = 615) ∧ i = s) → (aUp (aUp (aUp mem 614 s v) 615 s 0) 603 23 (s + 1)) o' i = mem o' i := fun o' i x y => by rw [aUp_nn (by omega), aUp_nn (by omega), aUp_nn (by omega)]
  obtain ⟨b1, b2, b3, b4, b5, b6, b7, b8⟩ := h
  refine hQ _ (fun o' i x1 x2 x3 x4 x5 => fs o' i (by omega) (by omega)) (fun i u => ⟨fs _ _ (by omega) (by omega), fs _ _ (by omega) (by omega)⟩) ⟨mTk_fr b1 fun o' i z => fs o' i (by omega) (by omega), (fs _ _ (by omega) (by omega)).trans b2, (fs _ _ (by omega) (by omega)).trans b3, aUp_re, (fs _ _ (by omega) (by omega)).trans b5, (fs _ _ (by omega) (by omega)).trans b6, (fs _ _ (by omega) (by omega)).trans b7, plS_fr _ (fun j _ _ => ⟨fs _ _ (by omega) (by omega), fs _ _ (by omega) (by omega)⟩) b8⟩ ?_
  rw [aUp_nn (by omega), aUp_nn (by omega), aUp_re]
theorem w_len {T : Rw} {n p h : Int} {u : List Int} (hpn : p ≤ n) (hh : hsh (lFn u) 0 u.length = h) (h0 : ¬ h = 0) (u0 : 0 < u.length) (u1 : u.length ≤ 10) (hu : ∀ c ∈ u, 97 ≤ c ∧ c ≤ 122) (hw : tW T n p = h) : tT T n p - tF T n p = (u.length : Int) := by
  have s1 := tW_s (T := T) (n := n) (p := p) (by omega)
  have b := tT_b (T := T) hpn
  have := b.2.2 (by omega)
  have w1 : tW T n p = (if tT T n p - tF T n p ≤ 10 then hsh T (tF T n p) (tT T n p - tF T n p).toNat else -1) := if_pos s1
  exact ((tok_w (T := T) (f := tF T n p) (z := tT T n p - tF T n p) (u := u) (by omega) (fun j u v => tT_le s1 u (by omega)) u0 u1 hu).mpr (by rw [hh, ← w1]; exact hw)).1
theorem and_len {T : Rw} {n p : Int} (hpn : p ≤ n) (h : tW T n p = 1476) : tF T n p + 3 ≤ tT T n p := by
  have := w_len (T := T) (u := [97, 110, 100]) hpn (by decide : _ = (1476 : Int)) (by decide) (by decide) (by decide) (by decide) h
  have h4 : ((([97, 110, 100] : List Int).length : Nat) : Int) = 3 := rfl
  omega
theorem or_len {T : Rw} {n p : Int} (hpn : p ≤ n) (h : tW T n p = 498) : tF T n p + 2 ≤ tT T n p := by
  have := w_len (T := T) (u := [111, 114]) hpn (by decide : _ = (498 : Int)) (by decide) (by decide) (by decide) (by decide) h
  have h4 : ((([111, 114] : List Int).length : Nat) : Int) = 2 := rfl
  omega
theorem m_tst_l {E : EN} (hE : Ep E) {K : Nat} {tst : Int} {Q : Mm → Prop} {T : Rw} {n : Int} {od : Bool} {el : Int → Int → PR} {opd s0 p0 : Int} {R : PR} {P : List (Int × Int)} {m0 : Mm} (hT : tOk T n) (hel : mPl E K tst Q T n od el opd) (hok : qOk T n el tB) (hK0 : iKs2 m0) (hPk : plK P) (hP : P = [] ∨ ∃ e l, P = e :: l ∧ 31 ≤ e.1) (h32 : ¬ innL P = 32) (h1 : innL P = -1 → ¬ tst = 0) (hs00 : 0 ≤ s0) (hsp : s0 + (P.length : Int) + 2 ≤ tF T n p0)
    (hF : ∀ x, R = .inr x → ∀ m2 r, mFr m0 m2 → mBad m2 x → mLp E K tst Q m2 r)
    (hX : ∀ q d f, R = .inl (q, d, f) → oAnd (tW T n q) = -1 → oOr (tW T n q) = -1 → ∀ m2 es cur s2 g, mFr m0 m2 → mCd s0 m0 m2 → mSt m2 T n od q d s2 (pl es ++ P) opd → plK (pl es ++ P) → (∀ e ∈ es, 20 ≤ e.1 ∧ e.1 ≤ 30) → pdOk od (m2 614) (m2 615) es cur s0 → mSg od (m2 614) (m2 615) cur s2 g → pdT es g → feq (pdG es g) f → s2 + (es.length : Int) - s0 ≤ tF T n q - tF T n p0 → mLp E K tst Q m2 2) :
    ∀ (d : Nat) (mem : Mm) (p c a b j1 j2 s s1 : Int) (fa fb : Rw → Int), mSt mem T n od p c s (pl (jOf b j2 s1 fb ++ jOf a j1 s0 fa) ++ P) opd → 0 ≤ p → p ≤ n → 0 ≤ c → c ≤ 50 → 401 - p ≤ d → mFr m0 mem → mCd s0 m0 mem → mJn od (mem 614) (mem 615) 30 a j1 s0 s1 fa → mJn od (mem 614) (mem 615) 29 b j2 s1 s fb →
      s + ((jOf b j2 s1 fb ++ jOf a j1 s0 fa).length : Int) - s0 ≤ tF T n p - tF T n p0 → pLoop el (fun q => oAnd (tW T n q)) (fun q => oOr (tW T n q)) (tT T n) d p c a fa b fb = R → mLp E K tst Q mem 0 := by
  have hT1 := hT.2.1
  intro d
  induction d with
  | zero => intro mem p c a b j1 j2 s s1 fa fb _ _ h1 _ _ h2; exact absurd h2 (by omega)
  | succ d ih =>
    intro mem p c a b j1 j2 s s1 fa fb hst hp hpn hc hc2 hd hfr hcd hA hB hcnt hR
    have hs10 := mJn_le hA
    have hss1 := mJn_le hB
    have hbF := tF_b (T := T) hpn
    have hll : ((pl (jOf b j2 s1 fb ++ jOf a j1 s0 fa) ++ P).length : Int) = ((jOf b j2 s1 fb ++ jOf a j1 s0 fa).length : Int) + P.length := by rw [List.length_append, pl_len]; omega
    have hlab : ((jOf b j2 s1 fb ++ jOf a j1 s0 fa).length : Int) = ((jOf b j2 s1 fb).length : Int) + (jOf a j1 s0 fa).length := by rw [List.length_append]; omega
    have an : a = -1 ∨ a = 30 := by rcases hA with ⟨u, -⟩ | ⟨u, -⟩; exact Or.inl u; exact Or.inr u
    have bn : b = -1 ∨ b = 29 := by rcases hB with ⟨u, -⟩ | ⟨u, -⟩; exact Or.inl u; exact Or.inr u
    have jK : ∀ e ∈ jOf b j2 s1 fb ++ jOf a j1 s0 fa, 29 ≤ e.1 ∧ e.1 ≤ 30 ∧ 0 ≤ e.2.1 ∧ e.2.1 < 400 := by
      intro e he
      rcases List.mem_append.mp he with q | q
      · obtain ⟨q1, q2, q3⟩ := jOf_m q
        rcases hB with ⟨u, -⟩ | ⟨u, v, w, -⟩
        · exact absurd u q3
        · omega
      · obtain ⟨q1, q2, q3⟩ := jOf_m q
        rcases hA with ⟨u, -⟩ | ⟨u, v, w, -⟩
        · exact absurd u q3
        · omega
    have hKj : plK (pl (jOf b j2 s1 fb ++ jOf a j1 s0 fa) ++ P) := plK_es (fun e he => by have := jK e he; omega) hPk
    have hin : innL (pl (jOf b j2 s1 fb ++ jOf a j1 s0 fa) ++ P) = innL P := innL_es _ fun e he => by have := jK e he; omega
    have hPj : pl (jOf b j2 s1 fb ++ jOf a j1 s0 fa) ++ P = [] ∨ ∃ e l, pl (jOf b j2 s1 fb ++ jOf a j1 s0 fa) ++ P = e :: l ∧ 28 ≤ e.1 := by
      generalize jOf b j2 s1 fb ++ jOf a j1 s0 fa = js at jK
      cases js with
      | nil =>
        rcases hP with u | ⟨e, l, u, v⟩
        · exact Or.inl u
        · exact Or.inr ⟨e, l, u, by omega⟩
      | cons e js => exact Or.inr ⟨(e.1, e.2.1), pl js ++ P, rfl, by have := jK e List.mem_cons_self; show 28 ≤ e.1; omega⟩
    unfold pLoop at hR
    refine hel mem p c s _ hst (iKs2_F hfr hK0) hp hpn hc hc2 (by omega) (by omega) hKj hPj (by rw [hin]; exact h32) (by rw [hin]; exact h1) (fun x hx m2 r f2 hb => ?_) (fun q d2 f he m1 es cur s2 g f1 cd1 st1 hK1 hes hpd1 hsg1 hT1' hG1 hc1 => ?_)
    · rw [hx] at hR
      exact hF x hR.symm m2 r (mFr_tr hfr f2) hb
    rw [he] at hR
    dsimp only at hR
    obtain ⟨k1, k2, k3, k4, k5⟩ := hok p c q d2 f hp hpn hc hc2 he
    have hbq := tF_b (T := T) k2
    have hq0 : 0 ≤ q := by omega
    have hs2c := hsg1.2.1
    have hles := pdOk_le es cur hpd1
    have fr1 := mFr_tr hfr f1
    have cd01 : mCd s0 m0 m1 := mCd_tr hcd cd1 (by omega)
    have hA1 := mJn_fr cd1 hss1 hA
    have hB1 := mJn_fr cd1 (Int.le_refl s) hB
    have pdB := mJn_pd (Or.inl rfl) hB1
    have pdA := mJn_pd (Or.inr rfl) hA1
    have tg : tB (pdG es g) := feq_t hG1 k5
    have GB : pdG (es ++ jOf b j2 s1 fb) g = cmb b fb (pdG es g) := by rw [pdG_ap]; exact jOf_G (by omega)
    have eB : feq (pdG (es ++ jOf b j2 s1 fb) g) (cmb b fb f) := by rw [GB]; exact feq_c hG1
    have tBf : tB (cmb b fb f) := by
      rcases hB with ⟨u, -⟩ | ⟨u, -, -, -, -, w, -⟩
      · rw [cmb_n u]; exact k5
      · exact cmb_t (by omega) w k5
    have tBg : tB (pdG (es ++ jOf b j2 s1 fb) g) := feq_t eB tBf
    have GA : pdG (es ++ jOf b j2 s1 fb ++ jOf a j1 s0 fa) g = cmb a fa (pdG (es ++ jOf b j2 s1 fb) g) := by rw [pdG_ap]; exact jOf_G (by omega)
    have eA : feq (pdG (es ++ jOf b j2 s1 fb ++ jOf a j1 s0 fa) g) (cmb a fa (cmb b fb f)) := by rw [GA]; exact feq_c eB
    have tAf : tB (cmb a fa (cmb b fb f)) := by
      rcases hA with ⟨u, -⟩ | ⟨u, -, -, -, -, w, -⟩
      · rw [cmb_n u]; exact tBf
      · exact cmb_t (by omega) w tBf
    have TB : pdT (es ++ jOf b j2 s1 fb) g := pdT_ap _ _ _ hT1' (jOf_T (by omega) tg)
    have TA : pdT (es ++ jOf b j2 s1 fb ++ jOf a j1 s0 fa) g := pdT_ap _ _ _ TB (jOf_T (by omega) tBg)
    have PB : pdOk od (m1 614) (m1 615) (es ++ jOf b j2 s1 fb) cur s1 := pdOk_ap pdB _ _ hpd1
    have PA : pdOk od (m1 614) (m1 615) (es ++ jOf b j2 s1 fb ++ jOf a j1 s0 fa) cur s0 := pdOk_ap pdA _ _ PB
    have pl1 : pl es ++ (pl (jOf b j2 s1 fb ++ jOf a j1 s0 fa) ++ P) = pl (es ++ jOf b j2 s1 fb) ++ (pl (jOf a j1 s0 fa) ++ P) := by rw [pl_ap, pl_ap, List.append_assoc, List.append_assoc]
    have pl2 : pl es ++ (pl (jOf b j2 s1 fb ++ jOf a j1 s0 fa) ++ P) = pl (es ++ jOf b j2 s1 fb ++ jOf a j1 s0 fa) ++ P := by rw [pl_ap, pl_ap, pl_ap, List.append_assoc, List.append_assoc, List.append_assoc]
    have ln1 : ((pl (es ++ jOf b j2 s1 fb) ++ (pl (jOf a j1 s0 fa) ++ P)).length : Int) = (es.length : Int) + (jOf b j2 s1 fb).length + (jOf a j1 s0 fa).length + P.length := by rw [List.length_append, pl_len, List.length_append, List.length_append, pl_len]; omega
    have ln2 : ((pl (es ++ jOf b j2 s1 fb ++ jOf a j1 s0 fa) ++ P).length : Int) = (es.length : Int) + (jOf b j2 s1 fb).length + (jOf a j1 s0 fa).length + P.length := by rw [List.length_append, pl_len, List.length_append, List.length_append]; omega
    have ln3 : ((es ++ jOf b j2 s1 fb ++ jOf a j1 s0 fa).length : Int) = (es.length : Int) + (jOf b j2 s1 fb).length + (jOf a j1 s0 fa).length := by rw [List.length_append, List.length_append]; omega
    have ln4 : ((es ++ jOf b j2 s1 fb).length : Int) = (es.length : Int) + (jOf b j2 s1 fb).length := by rw [List.length_append]; omega
    have ln5 : ((pl (jOf a j1 s0 fa) ++ P).length : Int) = ((jOf a j1 s0 fa).length : Int) + P.length := by rw [List.length_append, pl_len]; omega
    have la := jOf_l (o := a) (j := j1) (c1 := s0) (f := fa)
    have lb := jOf_l (o := b) (j := j2) (c1 := s1) (f := fb)
    have esA : ∀ e ∈ es ++ jOf b j2 s1 fb ++ jOf a j1 s0 fa, 20 ≤ e.1 ∧ e.1 ≤ 30 := by
      intro e he
      rw [List.append_assoc] at he
      rcases List.mem_append.mp he with w | w
      · have := hes e w; omega
      · have := jK e w; omega
    by_cases w : tW T n q = 1476
    · -- "and"
      have ho : oAnd (tW T n q) = 29 := by unfold oAnd; rw [if_pos w]
      rw [ho, if_pos (by decide)] at hR
      have nx := nx_b (T := T) k2 (by rw [tW_s (T := T) (n := n) (p := q) (by omega)]; decide)
      have hbx := tF_b (T := T) nx.2.1
      rw [pl1] at st1 hK1
      refine m_lp2 hE st1.2.1 (eX12_behindTest (k := K + 5) (rX12_behindTest_0 (k := K + 5) hE (m_isWord hE st1.1 (by decide) (by decide) (fun _ => ⟨fun _ => ?_, fun z => absurd z (by decide)⟩) (fun z => absurd w z))))
      refine rX12_behindTest_22 (k := K + 5) hE ⟨fun z => absurd z (by decide), fun _ => ?_⟩
      refine m_setS (k := K + 4) hE st1 (by decide) (by omega : 0 ≤ s1) ?_ hK1 (by omega) (fun e he => ?_) PB hsg1 TB fun m2 s3 g1 g2 g3 g4 g5 => ⟨fun z => absurd z (by decide), fun _ r => ?_⟩
      · by_cases ha : a = -1
        · have : pl (jOf a j1 s0 fa) = [] := by unfold jOf; rw [if_pos ha]; rfl
          rw [this]
          rcases hP with u | ⟨e, l, u, v⟩
          · exact Or.inl u
          · exact Or.inr ⟨e, l, u, by rw [bnd_0 v]; decide⟩
        · have : pl (jOf a j1 s0 fa) = [(a, j1)] := by unfold jOf; rw [if_neg ha]; rfl
          rw [this]
          refine Or.inr ⟨(a, j1), P, rfl, ?_⟩
          show bnd a < 2
          rw [an.resolve_left ha]
          decide
      · rcases List.mem_append.mp he with z | z
        · have := hes e z; exact bnd_2 (by omega)
        · obtain ⟨q1, q2, q3⟩ := jOf_m z
          rw [q1, bn.resolve_left q3]
          decide
      have sgB := sg_cg eB g5
      have e23 := g2.2.2.2.1
      have hs3 := sgB.2.1
      rw [e23] at r ⊢
      refine m_pushS hE g2 (by omega) (by decide) r fun m3 b1 b2 => ⟨fun z => absurd z (by decide), fun _ => m_emitS hE b2 (by omega) (by omega) (by decide) fun m4 c1 c2 c3 c4 => m_nextS (k := K + 4) hE hT c3 hq0 k2 fun m5 d1 d2' => ?_⟩
      have fr5 := mFr_tr (mFr_tr (mFr_tr (mFr_tr fr1 (mFr_s g1)) (mFr_p b1)) c1) (mFr_4 d1)
      have cd35 : mCd s3 m2 m5 := mCd_tr (mCd_tr (mCd_p b1) c2 (Int.le_refl _)) (mCd_4 d1) (Int.le_refl _)
      have cd1s : mCd s1 m1 m5 := mCd_tr (mCd_s g1) cd35 (by omega)
      have eo : jOf 29 s3 s1 (cmb b fb f) = [(29, s3, s1, cmb b fb f)] := by unfold jOf; rw [if_neg (by decide)]
      refine ih m5 (tT T n q) d2 a 29 j1 s3 (s3 + 1) s1 fa (cmb b fb f) (by rw [eo]; exact d2') (by omega) nx.2.1 k3 k4 (by omega) fr5 (mCd_tr cd01 cd1s hs10) (mJn_fr cd1s (Int.le_refl _) hA1) (Or.inr ⟨rfl, by omega, by omega, rfl, by rw [d1 _ _ (by omega)]; exact c4, tBf, mSg_cd cd35 (Int.le_refl _) sgB⟩) ?_ hR
      rw [eo]
      have h2 := nx.2.2
      have h3 : tF T n q + 2 ≤ tF T n (tT T n q) := by
        have := and_len (T := T) k2 w
        omega
      show s3 + 1 + (((jOf a j1 s0 fa).length + 1 : Nat) : Int) - s0 ≤ _
      omega
    · have ho : oAnd (tW T n q) = -1 := by unfold oAnd; rw [if_neg w]
      rw [ho, if_neg (by decide)] at hR
      rw [pl2] at st1 hK1
      by_cases w2 : tW T n q = 498
      · -- "or"
        have ho2 : oOr (tW T n q) = 30 := by unfold oOr; rw [if_pos w2]
        rw [ho2, if_pos (by decide)] at hR
        have nx := nx_b (T := T) k2 (by rw [tW_s (T := T) (n := n) (p := q) (by omega)]; decide)
        have hbx := tF_b (T := T) nx.2.1
        refine m_lp2 hE st1.2.1 (eX12_behindTest (k := K + 5) (rX12_behindTest_0 (k := K + 5) hE (m_isWord hE st1.1 (by decide) (by decide) (fun z => absurd z w) (fun _ => ⟨fun z => absurd rfl z, fun _ => m_isWord hE st1.1 (by decide) (by decide) (fun _ => ⟨fun z => absurd z (by decide), fun _ => ?_⟩) (fun z => absurd w2 z)⟩))))
        refine rX12_behindTest_22 (k := K + 5) hE ⟨fun _ => ?_, fun z => absurd rfl z⟩
        refine m_setS (k := K + 4) hE st1 (by decide) hs00 ?_ hK1 (by omega) (fun e he => bnd_1 (esA e he)) PA hsg1 TA fun m2 s3 g1 g2 g3 g4 g5 => ⟨fun _ r => ?_, fun z => absurd rfl z⟩
        · rcases hP with u | ⟨e, l, u, v⟩
          · exact Or.inl u
          · exact Or.inr ⟨e, l, u, by rw [bnd_0 v]; decide⟩
        have sgA := sg_cg eA g5
        have e23 := g2.2.2.2.1
        have hs3 := sgA.2.1
        rw [e23] at r ⊢
        refine m_pushS hE g2 (by omega) (by decide) r fun m3 b1 b2 => ⟨fun _ => m_emitS hE b2 (by omega) (by omega) (by decide) fun m4 c1 c2 c3 c4 => m_nextS (k := K + 4) hE hT c3 hq0 k2 fun m5 d1 d2' => ?_, fun z => absurd rfl z⟩
        have fr5 := mFr_tr (mFr_tr (mFr_tr (mFr_tr fr1 (mFr_s g1)) (mFr_p b1)) c1) (mFr_4 d1)
        have cd35 : mCd s3 m2 m5 := mCd_tr (mCd_tr (mCd_p b1) c2 (Int.le_refl _)) (mCd_4 d1) (Int.le_refl _)
        have cd1s : mCd s0 m1 m5 := mCd_tr (mCd_s g1) cd35 (by omega)
        have eo : jOf (-1) (-1) (s3 + 1) f0 ++ jOf 30 s3 s0 (cmb a fa (cmb b fb f)) = [(30, s3, s0, cmb a fa (cmb b fb f))] := by unfold jOf; rw [if_pos rfl, if_neg (by decide)]; rfl
        refine ih m5 (tT T n q) d2 30 (-1) s3 (-1) (s3 + 1) (s3 + 1) (cmb a fa (cmb b fb f)) f0 (by rw [eo]; exact d2') (by omega) nx.2.1 k3 k4 (by omega) fr5 (mCd_tr cd01 cd1s (Int.le_refl _)) (Or.inr ⟨rfl, by omega, by omega, rfl, by rw [d1 _ _ (by omega)]; exact c4, tAf, mSg_cd cd35 (Int.le_refl _) sgA⟩) (Or.inl ⟨rfl, rfl⟩) ?_ hR
        rw [eo]
        have h3 : tF T n q + 2 ≤ tF T n (tT T n q) := by
          have := or_len (T := T) k2 w2
          omega
        show s3 + 1 + ((1 : Nat) : Int) - s0 ≤ _
        omega
      · have ho2 : oOr (tW T n q) = -1 := by unfold oOr; rw [if_neg w2]
        rw [ho2, if_neg (by decide)] at hR
        exact hX q d2 _ hR.symm ho ho2 m1 (es ++ jOf b j2 s1 fb ++ jOf a j1 s0 fa) cur s2 g fr1 cd01 st1 hK1 esA PA hsg1 TA eA (by omega)
theorem m_test {E : EN} (hE : Ep E) {K : Nat} {tst : Int} {Q : Mm → Prop} {T : Rw} {n : Int} {od : Bool} {el : Int → Int → PR} {opd : Int} (hT : tOk T n) (hel : mPl E K tst Q T n od el opd) (hok : qOk T n el tB) : mTs E K tst Q T n od (lpT T n el) opd := by
  intro mem p c s P hst hK hp hpn hc hc2 hs0 hsp hPk hP h32 h1 hF hO
  have e : jOf (-1) (-1) s f0 ++ jOf (-1) (-1) s f0 = [] := by unfold jOf; rw [if_pos rfl]; rfl
  exact m_tst_l hE (m0 := mem) (s0 := s) (p0 := p) hT hel hok hK hPk hP h32 h1 hs0 hsp hF hO 401 mem p c (-1) (-1) (-1) (-1) s s f0 f0 (by rw [e]; exact hst) hp hpn hc hc2 (by omega) mFr_rf mCd_rf (Or.inl ⟨rfl, rfl⟩) (Or.inl ⟨rfl, rfl⟩) (by rw [e]; show s + ((0 : Nat) : Int) - s ≤ _; omega) rfl
theorem m_plainB {E : EN} (hE : Ep E) {K : Nat} {tst : Int} {Q : Mm → Prop} {T : Rw} {n : Int} {od : Bool} (hT : tOk T n) (rt : R32 tst) : ∀ (b : Nat) (opd : Int), b ≤ 8 → opd = 8 - (b : Int) → mPl E K tst Q T n od (pPlain od T n b) opd := by
  intro b
  induction b with
  | zero => intro opd hb ho; exact m_plain hE hT rt hb ho fun b' z => absurd z (by omega)
  | succ b ih =>
    intro opd hb ho
    refine m_plain hE hT rt hb ho fun b' z => ?_
    obtain rfl : b' = b := by omega
    exact m_test hE hT (ih (opd + 1) (by omega) (by omega)) (pPlain_ok hT.2.1 b')
theorem m_testB {E : EN} (hE : Ep E) {K : Nat} {tst : Int} {Q : Mm → Prop} {T : Rw} {n : Int} {od : Bool} (hT : tOk T n) (rt : R32 tst) : mTs E K tst Q T n od (pTest od T n 8) 0 := m_test hE hT (m_plainB hE hT rt 8 0 (by decide) (by decide)) (pPlain_ok hT.2.1 8)
