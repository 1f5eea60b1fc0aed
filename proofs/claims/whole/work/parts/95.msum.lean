-- the model's PART and SUM
def mPt (E : EN) (K : Nat) (tst : Int) (Q : Mm → Prop) (T : Rw) (n : Int) (od : Bool) (pf : Int → Int → PR) (opd : Int) : Prop := ∀ (kk : Nat) (mem : Mm) (p c s : Int) (P : List (Int × Int)), mSt mem T n od p c s P opd → iKs2 mem → 0 ≤ p → p ≤ n → 0 ≤ c → c ≤ 50 → 0 ≤ s → s + (P.length : Int) + 2 ≤ tF T n p → plK P →
  (∀ x, pf p c = .inr x → ∀ m2 r, mFr mem m2 → mBad m2 x → mLp E K tst Q m2 r) →
  (∀ q d f, pf p c = .inl (q, d, f) → ∀ m2 s2, mFr mem m2 → mCd s mem m2 → mSt m2 T n od q d s2 P opd → s2 - s ≤ tF T n q - tF T n p → mSg od (m2 614) (m2 615) s s2 f → mLp E K tst Q m2 3) →
  CI E mX12_readPart (kk + 5) mem [aR 603] (fun r m => mLp E K tst Q m r)
def mSm (E : EN) (K : Nat) (tst : Int) (Q : Mm → Prop) (T : Rw) (n : Int) (od : Bool) (pf : Int → Int → PR) (opd : Int) : Prop := ∀ (kk : Nat) (mem : Mm) (p c s : Int) (P : List (Int × Int)), mSt mem T n od p c s P opd → iKs2 mem → 0 ≤ p → p ≤ n → 0 ≤ c → c ≤ 50 → 0 ≤ s → s + (P.length : Int) + 2 ≤ tF T n p → plK P → (P = [] ∨ ∃ e l, P = e :: l ∧ 25 ≤ e.1) →
  (∀ x, pf p c = .inr x → ∀ m2 r, mFr mem m2 → mBad m2 x → mLp E K tst Q m2 r) →
  (∀ q d f, pf p c = .inl (q, d, f) → oMul (tG T n q) = -1 → oAdd (tG T n q) = -1 → ∀ m2 es cur s2 g, mFr mem m2 → mCd s mem m2 → mSt m2 T n od q d s2 (pl es ++ P) opd → plK (pl es ++ P) → (∀ e ∈ es, 20 ≤ e.1 ∧ e.1 ≤ 24) → pdOk od (m2 614) (m2 615) es cur s → mSg od (m2 614) (m2 615) cur s2 g → pdT es g → pdG es g = f → s2 + (es.length : Int) - s ≤ tF T n q - tF T n p → mLp E K tst Q m2 3) →
  CI E mX12_readPart (kk + 5) mem [aR 603] (fun r m => mLp E K tst Q m r)
theorem iKs2_F {m m2 : Mm} (h : mFr m m2) (hK : iKs2 m) : iKs2 m2 := iKs2_fr (fun o i z => h o i (by omega) (by omega) (by omega) (by omega) (by omega)) hK
theorem bnd_mul {o : Int} (h : 22 ≤ o ∧ o ≤ 24) : bnd o = 6 := by unfold bnd; rw [if_neg (by omega), if_neg (by omega), if_neg (by omega), if_neg (by omega), if_neg (by omega), if_pos (by omega)]
theorem bnd_add {o : Int} (h : 20 ≤ o ∧ o ≤ 21) : bnd o = 5 := by unfold bnd; rw [if_neg (by omega), if_neg (by omega), if_neg (by omega), if_neg (by omega), if_neg (by omega), if_neg (by omega)]
theorem bnd_hi {o : Int} (h : 25 ≤ o) : bnd o < 5 := by unfold bnd; repeat' split <;> omega
theorem bnd_lo {o : Int} (h : 20 ≤ o ∧ o ≤ 24) : 5 ≤ bnd o := by unfold bnd; repeat' split <;> omega
theorem plK_es {es : List PE} {P : List (Int × Int)} (h : ∀ e ∈ es, 20 ≤ e.1 ∧ e.1 ≤ 32 ∧ 0 ≤ e.2.1 ∧ e.2.1 < 400) (hP : plK P) : plK (pl es ++ P) := by
  intro x hx
  rcases List.mem_append.mp hx with q | q
  · obtain ⟨e, he, rfl⟩ := List.mem_map.mp q
    exact h e he
  · exact hP x q
theorem m_sum_l {E : EN} (hE : Ep E) {K : Nat} {tst : Int} {Q : Mm → Prop} {T : Rw} {n : Int} {od : Bool} {el : Int → Int → PR} {opd s0 p0 : Int} {R : PR} {P : List (Int × Int)} {m0 : Mm} (hT : tOk T n) (rt : R32 tst) (hel : mPt E K tst Q T n od el opd) (hok : qOk T n el vB) (hK0 : iKs2 m0) (hPk : plK P) (hP : P = [] ∨ ∃ e l, P = e :: l ∧ 25 ≤ e.1) (hs00 : 0 ≤ s0) (hsp : s0 + (P.length : Int) + 2 ≤ tF T n p0)
    (hF : ∀ x, R = .inr x → ∀ m2 r, mFr m0 m2 → mBad m2 x → mLp E K tst Q m2 r)
    (hX : ∀ q d f, R = .inl (q, d, f) → oMul (tG T n q) = -1 → oAdd (tG T n q) = -1 → ∀ m2 es cur s2 g, mFr m0 m2 → mCd s0 m0 m2 → mSt m2 T n od q d s2 (pl es ++ P) opd → plK (pl es ++ P) → (∀ e ∈ es, 20 ≤ e.1 ∧ e.1 ≤ 24) → pdOk od (m2 614) (m2 615) es cur s0 → mSg od (m2 614) (m2 615) cur s2 g → pdT es g → pdG es g = f → s2 + (es.length : Int) - s0 ≤ tF T n q - tF T n p0 → mLp E K tst Q m2 3) :
    ∀ (d kk : Nat) (mem : Mm) (p c a b s s1 : Int) (fa fb : Rw → Int), mSt mem T n od p c s (pl (eOf b s1 fb ++ eOf a s0 fa) ++ P) opd → 0 ≤ p → p ≤ n → 0 ≤ c → c ≤ 50 → 401 - p ≤ d → mFr m0 mem → mCd s0 m0 mem → mPn od (mem 614) (mem 615) 20 21 a s0 s1 fa → mPn od (mem 614) (mem 615) 22 24 b s1 s fb →
      s + ((eOf b s1 fb ++ eOf a s0 fa).length : Int) - s0 ≤ tF T n p - tF T n p0 → pLoop el (fun q => oMul (tG T n q)) (fun q => oAdd (tG T n q)) (tT T n) d p c a fa b fb = R →
      CI E mX12_readPart (kk + 5) mem [aR 603] (fun r m => mLp E K tst Q m r) := by
  have hT1 := hT.2.1
  intro d
  induction d with
  | zero => intro kk mem p c a b s s1 fa fb _ _ h1 _ _ h2; exact absurd h2 (by omega)
  | succ d ih =>
    intro kk mem p c a b s s1 fa fb hst hp hpn hc hc2 hd hfr hcd hA hB hcnt hR
    have hs10 := mPn_le hA
    have hss1 := mPn_le hB
    have hbF := tF_b (T := T) hpn
    have hll : ((pl (eOf b s1 fb ++ eOf a s0 fa) ++ P).length : Int) = ((eOf b s1 fb ++ eOf a s0 fa).length : Int) + P.length := by rw [List.length_append, pl_len]; omega
    have esK : ∀ e ∈ eOf b s1 fb ++ eOf a s0 fa, 20 ≤ e.1 ∧ e.1 ≤ 24 ∧ e.2.1 = 0 := by
      intro e he
      rcases List.mem_append.mp he with q | q
      · obtain ⟨q1, q2, q3⟩ := eOf_m q
        rcases hB with ⟨u, -⟩ | ⟨u, v, -⟩
        · exact absurd u q3
        · exact ⟨by omega, by omega, q2⟩
      · obtain ⟨q1, q2, q3⟩ := eOf_m q
        rcases hA with ⟨u, -⟩ | ⟨u, v, -⟩
        · exact absurd u q3
        · exact ⟨by omega, by omega, q2⟩
    have hKes : plK (pl (eOf b s1 fb ++ eOf a s0 fa) ++ P) := plK_es (fun e he => by have := esK e he; omega) hPk
    have an : a = -1 ∨ (20 ≤ a ∧ a ≤ 21) := by rcases hA with ⟨u, -⟩ | ⟨u, v, -⟩; exact Or.inl u; exact Or.inr ⟨u, v⟩
    have bn : b = -1 ∨ (22 ≤ b ∧ b ≤ 24) := by rcases hB with ⟨u, -⟩ | ⟨u, v, -⟩; exact Or.inl u; exact Or.inr ⟨u, v⟩
    unfold pLoop at hR
    refine hel kk mem p c s _ hst (iKs2_F hfr hK0) hp hpn hc hc2 (by omega) (by omega) hKes (fun x hx m2 r f2 hb => ?_) (fun q d2 f he m1 s2 f1 cd1 st1 hs2 sg1 => ?_)
    · rw [hx] at hR
      exact hF x hR.symm m2 r (mFr_tr hfr f2) hb
    rw [he] at hR
    dsimp only at hR
    obtain ⟨k1, k2, k3, k4, k5⟩ := hok p c q d2 f hp hpn hc hc2 he
    have hbq := tF_b (T := T) k2
    have hq0 : 0 ≤ q := by omega
    have hs12 := sg1.2.1
    have fr1 := mFr_tr hfr f1
    have cd01 : mCd s0 m0 m1 := mCd_tr hcd cd1 (by omega)
    have hA1 := mPn_fr cd1 hss1 hA
    have hB1 := mPn_fr cd1 (Int.le_refl s) hB
    have pdB := mPn_pd (by decide) (by decide) hB1
    have pdA := mPn_pd (by decide) (by decide) hA1
    have vB1 : vB (cmb b fb f) := by
      rcases hB with ⟨u, -⟩ | ⟨u, v, w, -⟩
      · rw [cmb_n u]; exact k5
      · exact cmb_v (Or.inr (by omega)) w k5
    have vA1 : vB (cmb a fa (cmb b fb f)) := by
      rcases hA with ⟨u, -⟩ | ⟨u, v, w, -⟩
      · rw [cmb_n u]; exact vB1
      · exact cmb_v (Or.inr (by omega)) w vB1
    have GB : pdG (eOf b s1 fb) f = cmb b fb f := eOf_G (by omega)
    have GA : pdG (eOf a s0 fa) (cmb b fb f) = cmb a fa (cmb b fb f) := eOf_G (by omega)
    have GG : pdG (eOf b s1 fb ++ eOf a s0 fa) f = cmb a fa (cmb b fb f) := by rw [pdG_ap, GB, GA]
    have TB : pdT (eOf b s1 fb) f := eOf_T (by omega) k5
    have TT : pdT (eOf b s1 fb ++ eOf a s0 fa) f := pdT_ap _ _ _ TB (by rw [GB]; exact eOf_T (by omega) vB1)
    by_cases hout : oMul (tG T n q) = -1 ∧ oAdd (tG T n q) = -1
    · -- out of the SUM
      obtain ⟨e1, e2⟩ := hout
      rw [if_neg (fun z => z e1), if_neg (fun z => z e2)] at hR
      exact hX q d2 _ hR.symm e1 e2 m1 (eOf b s1 fb ++ eOf a s0 fa) s s2 f fr1 cd01 st1 hKes (fun e he => ⟨(esK e he).1, (esK e he).2.1⟩) (pdOk_ap pdA _ _ pdB) sg1 TT GG (by omega)
    refine m_lp3 hE st1.2.1 (m_bsum (k := K + 5) hE st1 rt (fun o o0 o1 ho => ?_) (fun e1 e2 => absurd ⟨e1, e2⟩ hout))
    · have hsq : tS T n q = 3 := by
        refine tG_s fun z => ?_
        rw [z] at ho
        have u1 : oMul (-1) = -1 := by decide
        have u2 : oAdd (-1) = -1 := by decide
        rw [u1, u2] at ho
        omega
      have nx := nx_b (T := T) k2 (by rw [hsq]; decide)
      have hbx := tF_b (T := T) nx.2.1
      by_cases hm : oMul (tG T n q) = -1
      · -- between TERMs
        have ho2 : oAdd (tG T n q) = o := by rcases ho with h | h; omega; exact h.2
        have oc := (oAdd_c (tG T n q)).resolve_left (by omega)
        have o21 : o ≤ 21 := by omega
        rw [if_neg (fun z => z hm), if_pos (by omega), ho2] at hR
        rw [bnd_add ⟨o0, o21⟩]
        refine m_setS (k := K + 4) hE st1 (by decide) hs00 ?_ hKes (by omega) (fun e he => bnd_lo ⟨(esK e he).1, (esK e he).2.1⟩) (pdOk_ap pdA _ _ pdB) sg1 TT fun m2 s3 g1 g2 g3 g4 g5 => ?_
        · rcases hP with u | ⟨e, l, u, v⟩
          · exact Or.inl u
          · exact Or.inr ⟨e, l, u, bnd_hi v⟩
        rw [GG] at g5
        refine m_pushS hE g2 (by omega) ⟨by omega, by omega⟩ (by decide) fun m3 b1 b2 => m_nextS (k := K + 4) hE hT b2 hq0 k2 fun m4 c1 c2 => ?_
        have fr4 := mFr_tr (mFr_tr (mFr_tr fr1 (mFr_s g1)) (mFr_p b1)) (mFr_4 c1)
        have cd4 : mCd s0 m0 m4 := mCd_tr (mCd_tr (mCd_tr cd01 (mCd_s g1) (Int.le_refl _)) (mCd_p b1) (Int.le_refl _)) (mCd_4 c1) (Int.le_refl _)
        have sg4 : mSg od (m4 614) (m4 615) s0 s3 (cmb a fa (cmb b fb f)) := mSg_cd (s := s3) (mCd_tr (mCd_p b1) (mCd_4 c1) (Int.le_refl _)) (Int.le_refl _) g5
        have eo : eOf (-1) s3 f0 ++ eOf o s0 (cmb a fa (cmb b fb f)) = [(o, 0, s0, cmb a fa (cmb b fb f))] := by
          unfold eOf
          rw [if_pos rfl, if_neg (by omega)]
          rfl
        refine m_lp1 hE c2.2.1 (ih (K + 1) m4 (tT T n q) d2 o (-1) s3 s3 (cmb a fa (cmb b fb f)) f0 (by rw [eo]; exact c2) (by omega) nx.2.1 k3 k4 (by omega) fr4 cd4 (Or.inr ⟨o0, o21, vA1, sg4⟩) (Or.inl ⟨rfl, rfl⟩) ?_ hR)
        rw [eo]
        show s3 + (1 : Int) - s0 ≤ _
        omega
      · -- within a TERM
        have ho2 : oMul (tG T n q) = o := by rcases ho with h | h; exact h; exact absurd h.1 hm
        have oc := (oMul_c (tG T n q)).resolve_left hm
        rw [if_pos hm, ho2] at hR
        rw [bnd_mul (by omega)]
        have hpa : pl (eOf b s1 fb ++ eOf a s0 fa) ++ P = pl (eOf b s1 fb) ++ (pl (eOf a s0 fa) ++ P) := by rw [pl_ap, List.append_assoc]
        have hlab : ((eOf b s1 fb ++ eOf a s0 fa).length : Int) = ((eOf b s1 fb).length : Int) + (eOf a s0 fa).length := by rw [List.length_append]; omega
        have hlp : ((pl (eOf b s1 fb) ++ (pl (eOf a s0 fa) ++ P)).length : Int) = ((eOf b s1 fb ++ eOf a s0 fa).length : Int) + P.length := by rw [← hpa]; exact hll
        have hlp2 : ((pl (eOf a s0 fa) ++ P).length : Int) = ((eOf a s0 fa).length : Int) + P.length := by rw [List.length_append, pl_len]; omega
        rw [hpa] at st1 hKes
        refine m_setS (k := K + 4) hE st1 (by decide) (by omega : 0 ≤ s1) ?_ hKes (by omega) (fun e he => ?_) pdB sg1 TB fun m2 s3 g1 g2 g3 g4 g5 => ?_
        · by_cases ha : a = -1
          · have : pl (eOf a s0 fa) = [] := by unfold eOf; rw [if_pos ha]; rfl
            rw [this]
            rcases hP with u | ⟨e, l, u, v⟩
            · exact Or.inl u
            · exact Or.inr ⟨e, l, u, by have := bnd_hi v; omega⟩
          · have : pl (eOf a s0 fa) = [(a, 0)] := by unfold eOf; rw [if_neg ha]; rfl
            rw [this]
            refine Or.inr ⟨(a, 0), P, rfl, ?_⟩
            show bnd a < 6
            rw [bnd_add (an.resolve_left ha)]
            decide
        · obtain ⟨q1, q2, q3⟩ := eOf_m he
          rw [q1, bnd_mul (bn.resolve_left q3)]
          decide
        rw [GB] at g5
        have hKa : plK (pl (eOf a s0 fa) ++ P) := plK_ap _ _ hKes
        refine m_pushS hE g2 (by omega) ⟨by omega, by omega⟩ (by decide) fun m3 b1 b2 => m_nextS (k := K + 4) hE hT b2 hq0 k2 fun m4 c1 c2 => ?_
        have fr4 := mFr_tr (mFr_tr (mFr_tr fr1 (mFr_s g1)) (mFr_p b1)) (mFr_4 c1)
        have cd1s : mCd s1 m1 m4 := mCd_tr (mCd_tr (mCd_s g1) (mCd_p b1) (Int.le_refl _)) (mCd_4 c1) (Int.le_refl _)
        have cd4 : mCd s0 m0 m4 := mCd_tr cd01 cd1s hs10
        have sg4 : mSg od (m4 614) (m4 615) s1 s3 (cmb b fb f) := mSg_cd (s := s3) (mCd_tr (mCd_p b1) (mCd_4 c1) (Int.le_refl _)) (Int.le_refl _) g5
        have eo : eOf o s1 (cmb b fb f) = [(o, 0, s1, cmb b fb f)] := by unfold eOf; rw [if_neg (by omega)]
        refine m_lp1 hE c2.2.1 (ih (K + 1) m4 (tT T n q) d2 a o s3 s1 fa (cmb b fb f) (by rw [eo]; exact c2) (by omega) nx.2.1 k3 k4 (by omega) fr4 cd4 (mPn_fr cd1s (Int.le_refl _) hA1) (Or.inr ⟨by omega, by omega, vB1, sg4⟩) ?_ hR)
        rw [eo]
        show s3 + (((eOf a s0 fa).length + 1 : Nat) : Int) - s0 ≤ _
        omega
theorem m_sum {E : EN} (hE : Ep E) {K : Nat} {tst : Int} {Q : Mm → Prop} {T : Rw} {n : Int} {od : Bool} {el : Int → Int → PR} {opd : Int} (hT : tOk T n) (rt : R32 tst) (hel : mPt E K tst Q T n od el opd) (hok : qOk T n el vB) : mSm E K tst Q T n od (lpS T n el) opd := by
  intro kk mem p c s P hst hK hp hpn hc hc2 hs0 hsp hPk hP hF hO
  have e : eOf (-1) s f0 ++ eOf (-1) s f0 = [] := by unfold eOf; rw [if_pos rfl]; rfl
  exact m_sum_l hE (m0 := mem) (s0 := s) (p0 := p) hT rt hel hok hK hPk hP hs0 hsp hF hO 401 kk mem p c (-1) (-1) s s f0 f0 (by rw [e]; exact hst) hp hpn hc hc2 (by omega) mFr_rf mCd_rf (Or.inl ⟨rfl, rfl⟩) (Or.inl ⟨rfl, rfl⟩) (by rw [e]; show s + ((0 : Nat) : Int) - s ≤ _; omega) rfl
-- brackets
theorem m_openT {E : EN} (hE : Ep E) {k : Nat} {mem : Mm} {Q : Mm → Prop} {T : Rw} {n : Int} {od : Bool} {p c s opd o : Int} {P : List (Int × Int)} (hT : tOk T n) (h : mSt mem T n od p c s P opd) (hp : 0 ≤ p) (hpn : p ≤ n) (ho : 0 ≤ opd ∧ opd < 8) (hl : (P.length : Int) < 400) (r : R32 o) (hQ : ∀ m2, mFr mem m2 → (∀ i, mCd i mem m2) → mSt m2 T n od (tT T n p) c s ((o, 0) :: P) (opd + 1) → Q m2) : CV E mX12_openBracket (k + 3) mem [aR 603, aI o] Q := by
  refine eX12_openBracket (k := k + 2) r (rX12_openBracket_0 (k := k + 2) hE ?_)
  rw [h.2.2.2.2.2.2.1]
  refine ⟨fun z => absurd z (by omega), fun _ => m_mustS hE hT h hp hpn (by decide) (by decide) fun m1 a1 a2 => ⟨fun z => absurd a2.2.1 z, fun _ => ?_⟩⟩
  rw [a2.2.2.2.2.2.2.1]
  refine ⟨⟨by omega, by omega⟩, fun r2 => ?_⟩
  have fs : ∀ o' i, ¬ (o' = 603 ∧ i = 30) → (aUp m1 603 30 (opd + 1)) o' i = m1 o' i := fun o' i z => aUp_nn z
  have st2 : mSt (aUp m1 603 30 (opd + 1)) T n od (tT T n p) c s P (opd + 1) := by
    obtain ⟨b1, b2, b3, b4, b5, b6, b7, b8⟩ := a2
    exact ⟨mTk_fr b1 fun o' i z => fs o' i (by omega), (fs _ _ (by omega)).trans b2, (fs _ _ (by omega)).trans b3, (fs _ _ (by omega)).trans b4, (fs _ _ (by omega)).trans b5, (fs _ _ (by omega)).trans b6, aUp_re, plS_fr _ (fun j _ _ => ⟨fs _ _ (by omega), fs _ _ (by omega)⟩) b8⟩
  refine m_pushS hE st2 hl r2 (by decide) fun m2 d1 d2 => hQ m2 ?_ ?_ d2
  · exact mFr_tr (mFr_tr (mFr_4 a1) fun o' i x1 x2 x3 x4 x5 => fs o' i (by omega)) (mFr_p d1)
  · exact fun i => mCd_tr (mCd_tr (mCd_4 a1) (fun j _ => ⟨fs _ _ (by omega), fs _ _ (by omega)⟩) (Int.le_refl _)) (mCd_p d1) (Int.le_refl _)
theorem m_openF {E : EN} (hE : Ep E) {k : Nat} {mem : Mm} {Q : Mm → Prop} {o : Int} (hb : mem 603 19 = 0) (h8 : mem 603 30 = 8) (r : R32 o) (hQ : Q (aUp (aUp mem 603 19 1) 603 18 (mem 603 14))) : CV E mX12_openBracket (k + 3) mem [aR 603, aI o] Q := by
  have e : (aUp (aUp mem 603 19 1) 603 18 (mem 603 14)) 603 19 = 1 := (aUp_nn (by omega)).trans aUp_re
  refine eX12_openBracket (k := k + 2) r (rX12_openBracket_0 (k := k + 2) hE ⟨fun _ => m_mustF hE hb ⟨fun _ => hQ, fun z => absurd (e.symm.trans z) (by decide)⟩, fun z => absurd z (by omega)⟩)
theorem innL_es {l : List (Int × Int)} : ∀ es : List PE, (∀ e ∈ es, e.1 < 31) → innL (pl es ++ l) = innL l := by
  intro es
  induction es with
  | nil => intro _; rfl
  | cons e es ih =>
    intro h
    show (if 31 ≤ e.1 then e.1 else innL (pl es ++ l)) = innL l
    have := h e List.mem_cons_self
    rw [if_neg (by omega)]
    exact ih fun x hx => h x (List.mem_cons_of_mem _ hx)
theorem mSt_pop {m : Mm} {T : Rw} {n : Int} {od : Bool} {p c s opd : Int} {e : Int × Int} {P : List (Int × Int)} (h : mSt m T n od p c s (e :: P) opd) : mSt (aUp (aUp m 603 29 (P.length : Int)) 603 30 (opd - 1)) T n od p c s P (opd - 1) := by
  have fs : ∀ o' i, ¬ (o' = 603 ∧ (i = 29 ∨ i = 30)) → (aUp (aUp m 603 29 (P.length : Int)) 603 30 (opd - 1)) o' i = m o' i := fun o' i z => by rw [aUp_nn (by omega), aUp_nn (by omega)]
  obtain ⟨b1, b2, b3, b4, b5, b6, b7, b8⟩ := h
  exact ⟨mTk_fr b1 fun o' i z => fs o' i (by omega), (fs _ _ (by omega)).trans b2, (fs _ _ (by omega)).trans b3, (fs _ _ (by omega)).trans b4, (fs _ _ (by omega)).trans b5, (aUp_nn (by omega)).trans aUp_re, aUp_re, plS_fr _ (fun j _ _ => ⟨fs _ _ (by omega), fs _ _ (by omega)⟩) b8.2.2⟩
/-- behind a SUM in square brackets -/
theorem m_closeS {E : EN} (hE : Ep E) {K : Nat} {tst : Int} {Q : Mm → Prop} {T : Rw} {n : Int} {od : Bool} {m : Mm} {q d s2 opd s cur a2 : Int} {es : List PE} {g f : Rw → Int} {P : List (Int × Int)} (hT : tOk T n) (rt : R32 tst) (hq : 0 ≤ q) (hqn : q ≤ n) (e1 : oMul (tG T n q) = -1) (e2 : oAdd (tG T n q) = -1) (st : mSt m T n od q d s2 (pl es ++ (32, a2) :: P) opd) (hK : plK (pl es ++ (32, a2) :: P)) (hes : ∀ e ∈ es, 20 ≤ e.1 ∧ e.1 ≤ 24) (s00 : 0 ≤ s) (hpd : pdOk od (m 614) (m 615) es cur s) (hsg : mSg od (m 614) (m 615) cur s2 g) (hTT : pdT es g) (hG : pdG es g = f) (hcnt : s2 + ((pl es ++ (32, a2) :: P).length : Int) ≤ 398) (ho : 0 ≤ opd ∧ opd ≤ 8)
    (hF : ¬ tG T n q = 93 → ∀ m2 r, mFr m m2 → mBad m2 (tF T n q) → mLp E K tst Q m2 r)
    (hO : tG T n q = 93 → ∀ m2 s3, mFr m m2 → mCd s m m2 → mSt m2 T n od (tT T n q) d s3 P (opd - 1) → s3 ≤ s2 + (es.length : Int) → mSg od (m2 614) (m2 615) s s3 f → mLp E K tst Q m2 3) : mLp E K tst Q m 3 := by
  have hinn : innL (pl es ++ (32, a2) :: P) = 32 := by rw [innL_es es fun e he => by have := hes e he; omega]; rfl
  have hlen : ((pl es ++ (32, a2) :: P).length : Int) = es.length + (P.length + 1) := by rw [List.length_append, pl_len, List.length_cons]; omega
  have hs2 := hsg.2.1
  have hs1 := hsg.1
  refine m_lp3 hE st.2.1 (m_bsum (k := K + 5) hE st rt (fun o o0 o1 h => by rw [e1, e2] at h; omega) fun _ _ => ?_)
  refine m_inner hE st.2.2.2.2.2.1 st.2.2.2.2.2.2.2 (by omega) ?_
  rw [hinn]
  refine ⟨fun z => absurd rfl z, fun _ => ?_⟩
  refine m_isSign hE st.1 (by decide) (by decide) (fun g93 _ => m_mustS hE hT st hq hqn (by decide) (by decide) fun m1 b1 b2 => ⟨fun z => absurd b2.2.1 z, fun _ => ?_⟩) (fun g93 _ => m_mustF hE st.2.1 ?_)
  · refine m_setS (k := K + 4) hE b2 (by decide) s00 (Or.inr ⟨(32, a2), P, rfl, by show bnd 32 < 5; decide⟩) hK hcnt (fun e he => bnd_lo (hes e he)) (pdOk_fr es cur (fun i u => ⟨b1 _ _ (by omega), b1 _ _ (by omega)⟩) hpd) (sg_fr (fun i u v => ⟨b1 _ _ (by omega), b1 _ _ (by omega)⟩) hsg) hTT fun m2 s3 c1 c2 c3 c4 c5 => ?_
    have e29 : m2 603 29 = (P.length : Int) + 1 := by rw [c2.2.2.2.2.2.1]; simp
    rw [e29, c2.2.2.2.2.2.2.1, show (P.length : Int) + 1 - 1 = P.length by omega]
    refine ⟨⟨by omega, by omega⟩, ⟨by omega, by omega⟩, rX12_behindSum_150 (p0 := 0) hE ?_⟩
    have fs : mFp m2 (aUp (aUp m2 603 29 (P.length : Int)) 603 30 (opd - 1)) := fun o i _ _ z => by rw [aUp_nn (by omega), aUp_nn (by omega)]
    refine hO g93 _ s3 (mFr_tr (mFr_tr (mFr_4 b1) (mFr_s c1)) (mFr_p fs)) (mCd_tr (mCd_tr (mCd_4 b1) (mCd_s c1) (Int.le_refl _)) (mCd_p fs) (Int.le_refl _)) (mSt_pop c2) (by omega) ?_
    rw [hG] at c5
    exact mSg_cd (s := s3) (mCd_p fs) (Int.le_refl _) c5
  · have e : (aUp (aUp m 603 19 1) 603 18 (m 603 14)) 603 19 = 1 := (aUp_nn (by omega)).trans aUp_re
    refine ⟨fun _ => rX12_behindSum_150 (p0 := 0) hE (hF g93 _ 3 mFr_bad (m_bad st hK (by omega) (by omega))), fun z => absurd (e.symm.trans z) (by decide)⟩
theorem fnd_w {od : Bool} {h : Int} {k : Nat} (hk : (if od = true then (7 : Int) else 10) = (k : Int)) : fnd (wIx od h) 1 k = if wIx od h = -1 then -1 else wIx od h + 1 := by
  have := ixW_b od h
  unfold fnd
  by_cases c : wIx od h = -1
  · rw [if_pos c, if_neg (by omega)]
  · rw [if_neg c, if_pos (by omega)]
theorem m_partL {E : EN} (hE : Ep E) {Q : Int → Mm → Prop} {T : Rw} {n : Int} {od : Bool} {kk : Nat} {mem : Mm} {p c s opd : Int} {P : List (Int × Int)} (hT : tOk T n) (hst : mSt mem T n od p c s P opd) (hK : iKs2 mem) (hp : 0 ≤ p) (hpn : p ≤ n) (hc : 0 ≤ c) (hc2 : c ≤ 50) (s0 : 0 ≤ s) (hs : s + (P.length : Int) + 2 ≤ tF T n p) (hPk : plK P)
    (hF : ∀ x, pLeaf od T n p c = .inr x → ∀ m2, mFr mem m2 → mBad m2 x → Q 3 m2) (hO : ∀ q d f, pLeaf od T n p c = .inl (q, d, f) → ∀ m2, mFr mem m2 → mCd s mem m2 → mSt m2 T n od q d (s + 1) P opd → mSg od (m2 614) (m2 615) s (s + 1) f → Q 3 m2) :
    (((mem 603 20) = 0 → (CI E mX12_partAt (kk + 4) mem [aR 603] (fun r4 m3 => ((¬ (m3 603 16) = 2 → VM E mX12_readPart (kk + 4 + 1) m3 59 [(0, aR 603), (1, aI r4)] [] (retI Q)) ∧ ((m3 603 16) = 2 → ((1000 < (m3 603 17) → VM E mX12_readPart (kk + 4 + 1) m3 59 [(0, aR 603), (1, aI r4)] [] (retI Q)) ∧ ((m3 603 17) ≤ 1000 → VM E mX12_readPart (kk + 4 + 1) m3 61 [(0, aR 603), (1, aI r4), (2, aI 1)] [] (retI Q)))))))) ∧ (¬ (mem 603 20) = 0 → (CI E mX12_orderPartAt (kk + 4) mem [aR 603] (fun r6 m5 => ((¬ (m5 603 16) = 2 → VM E mX12_readPart (kk + 4 + 1) m5 59 [(0, aR 603), (1, aI r6)] [] (retI Q)) ∧ ((m5 603 16) = 2 → ((1000 < (m5 603 17) → VM E mX12_readPart (kk + 4 + 1) m5 59 [(0, aR 603), (1, aI r6)] [] (retI Q)) ∧ ((m5 603 17) ≤ 1000 → VM E mX12_readPart (kk + 4 + 1) m5 61 [(0, aR 603), (1, aI r6), (2, aI 1)] [] (retI Q))))))))) := by
  have hsrt := hst.1.2.2.2.1
  have fin : ∀ r4, r4 = (if wIx od (tW T n p) = -1 then -1 else wIx od (tW T n p) + 1) → ((¬ (mem 603 16) = 2 → VM E mX12_readPart (kk + 4 + 1) mem 59 [(0, aR 603), (1, aI r4)] [] (retI Q)) ∧ ((mem 603 16) = 2 → ((1000 < (mem 603 17) → VM E mX12_readPart (kk + 4 + 1) mem 59 [(0, aR 603), (1, aI r4)] [] (retI Q)) ∧ ((mem 603 17) ≤ 1000 → VM E mX12_readPart (kk + 4 + 1) mem 61 [(0, aR 603), (1, aI r4), (2, aI 1)] [] (retI Q))))) := by
    intro r4 hr
    rw [hsrt]
    have go : ∀ x2, ((tS T n p = 2 ∧ tN T n p ≤ 1000 ∧ x2 = 1) ∨ (¬ (tS T n p = 2 ∧ tN T n p ≤ 1000) ∧ x2 = 0)) → VM E mX12_readPart (kk + 4 + 1) mem 61 [(0, aR 603), (1, aI r4), (2, aI x2)] [] (retI Q) := fun x2 h => m_pLeaf (k := kk + 1) hE hT hst hp hpn hc hc2 s0 hs hPk hr h hF hO
    refine ⟨fun z => rjX12_readPart_59 hE (go 0 (Or.inr ⟨fun y => z y.1, rfl⟩)), fun z => ?_⟩
    have h17 := hst.1.2.2.2.2.2.2 z
    exact ⟨fun y => rjX12_readPart_59 hE (go 0 (Or.inr ⟨fun x => by omega, rfl⟩)), fun y => go 1 (Or.inl ⟨z, by omega, rfl⟩)⟩
  cases od with
  | false =>
    have e20 : mem 603 20 = 0 := hst.2.2.1
    exact ⟨fun _ => m_partAt (k := kk + 3) hE hst.1 hK (fin _ (fnd_w rfl)), fun z => absurd e20 z⟩
  | true =>
    have e20 : mem 603 20 = 1 := hst.2.2.1
    exact ⟨fun z => absurd (e20.symm.trans z) (by decide), fun _ => m_orderPartAt (k := kk + 3) hE hst.1 hK (fin _ (fnd_w rfl))⟩
theorem m_part {E : EN} (hE : Ep E) {K : Nat} {tst : Int} {Q : Mm → Prop} {T : Rw} {n : Int} {od : Bool} (hT : tOk T n) (rt : R32 tst) : ∀ (b : Nat) (opd : Int), b ≤ 8 → opd = 8 - (b : Int) → mPt E K tst Q T n od (pPart od T n b) opd := by
  have hT1 := hT.2.1
  -- no bracket here
  have lf : ∀ (b : Nat) (opd : Int) (kk : Nat) (mem : Mm) (p c s : Int) (P : List (Int × Int)), mSt mem T n od p c s P opd → iKs2 mem → 0 ≤ p → p ≤ n → 0 ≤ c → c ≤ 50 → 0 ≤ s → s + (P.length : Int) + 2 ≤ tF T n p → plK P →
      (∀ x, pLeaf od T n p c = .inr x → ∀ m2 r, mFr mem m2 → mBad m2 x → mLp E K tst Q m2 r) →
      (∀ q d f, pLeaf od T n p c = .inl (q, d, f) → ∀ m2 s2, mFr mem m2 → mCd s mem m2 → mSt m2 T n od q d s2 P opd → s2 - s ≤ tF T n q - tF T n p → mSg od (m2 614) (m2 615) s s2 f → mLp E K tst Q m2 3) → ¬ tG T n p = 91 → CI E mX12_readPart (kk + 5) mem [aR 603] (fun r m => mLp E K tst Q m r) := by
    intro b opd kk mem p c s P hst hK hp hpn hc hc2 hs0 hsp hPk hF hO g
    refine eX12_readPart (k := kk + 4) (rjX12_readPart_0 (k := kk + 4) hE (m_isSign hE hst.1 (by decide) (by decide) (fun z => absurd z g) (fun _ => ⟨fun _ => ?_, fun z => absurd rfl z⟩)))
    refine m_partL (Q := fun r m => mLp E K tst Q m r) hE hT hst hK hp hpn hc hc2 hs0 hsp hPk (fun x hx m2 a b => hF x hx m2 3 a b) (fun q d f hq m2 a1 a2 a3 a4 => hO q d f hq m2 (s + 1) a1 a2 a3 ?_ a4)
    have := pLeaf_ok p c q d f hp hpn hc hc2 hq
    have := tF_b (T := T) (p := q) (n := n) (by omega)
    omega
  intro b
  induction b with
  | zero =>
    intro opd hb8 hopd kk mem p c s P hst hK hp hpn hc hc2 hs0 hsp hPk hF hO
    have hbF := tF_b (T := T) hpn
    by_cases g : tG T n p = 91
    · have e : pPart od T n 0 p c = .inr (tF T n p) := if_pos g
      refine eX12_readPart (k := kk + 4) (rjX12_readPart_0 (k := kk + 4) hE (m_isSign hE hst.1 (by decide) (by decide) (fun _ => ⟨fun z => absurd z (by decide), fun _ => ?_⟩) (fun z => absurd g z)))
      exact m_openF (k := kk + 1) hE hst.2.1 (by rw [hst.2.2.2.2.2.2.1]; omega) (by decide) (hF _ e _ 1 mFr_bad (m_bad hst hPk hs0 (by omega)))
    · have e : pPart od T n 0 p c = pLeaf od T n p c := if_neg g
      rw [e] at hF hO
      exact lf 0 opd kk mem p c s P hst hK hp hpn hc hc2 hs0 hsp hPk hF hO g
  | succ b ih =>
    intro opd hb8 hopd kk mem p c s P hst hK hp hpn hc hc2 hs0 hsp hPk hF hO
    have hbF := tF_b (T := T) hpn
    by_cases g : tG T n p = 91
    · have e : pPart od T n (b + 1) p c = pClo T n 93 false (lpS T n (pPart od T n b) (tT T n p) c) := if_pos g
      rw [e] at hF hO
      have nx := nx_b (T := T) hpn (by rw [tG_s (T := T) (n := n) (p := p) (by omega)]; decide)
      have hbx := tF_b (T := T) nx.2.1
      refine eX12_readPart (k := kk + 4) (rjX12_readPart_0 (k := kk + 4) hE (m_isSign hE hst.1 (by decide) (by decide) (fun _ => ⟨fun z => absurd z (by decide), fun _ => ?_⟩) (fun z => absurd g z)))
      refine m_openT (k := kk + 1) hE hT hst hp hpn (by omega) (by omega) (by decide) fun m1 a1 a2 a3 => ?_
      have hlen : ((((32, 0) :: P : List (Int × Int)).length : Nat) : Int) = P.length + 1 := by simp
      have hK1 : plK ((32, 0) :: P) := plK_i hPk (by decide)
      refine m_lp1 hE a3.2.1 (m_sum hE hT rt (ih (opd + 1) (by omega) (by omega)) (pPart_ok hT1 b) (K + 1) m1 (tT T n p) c s _ a3 (iKs2_F a1 hK) (by omega) nx.2.1 hc hc2 hs0 (by omega) hK1 (Or.inr ⟨_, _, rfl, by decide⟩) (fun x hx m2 r f2 hb => hF x (by rw [hx]; rfl) m2 r (mFr_tr a1 f2) hb) (fun q d f hq o1 o2 m2 es cur s2 g2 f2 c2 st2 k2 hes hpd hsg hTT hG hcnt => ?_))
      obtain ⟨k1, k2', k3, k4, k5⟩ := lpS_ok hT1 (pPart_ok hT1 b) _ _ _ _ _ (by omega) nx.2.1 hc hc2 hq
      have hbq := tF_b (T := T) k2'
      have hl2 : ((pl es ++ ((32, 0) :: P)).length : Int) = es.length + (P.length + 1) := by rw [List.length_append, pl_len, List.length_cons]; omega
      refine m_closeS hE hT rt (by omega) k2' o1 o2 st2 k2 hes hs0 hpd hsg hTT hG (by omega) (by omega) (fun g3 m3 r f3 hb => hF _ (by rw [hq]; exact if_neg g3) m3 r (mFr_tr (mFr_tr a1 f2) f3) hb) (fun g3 m3 s3 f3 c3 st3 hs3 sg3 => ?_)
      have nx2 := nx_b (T := T) k2' (by rw [tG_s (T := T) (n := n) (p := q) (by omega)]; decide)
      have hbx2 := tF_b (T := T) nx2.2.1
      rw [show opd + 1 - 1 = opd by omega] at st3
      exact hO _ _ _ (by rw [hq]; exact if_pos g3) m3 s3 (mFr_tr (mFr_tr a1 f2) f3) (mCd_tr (mCd_tr (a2 s) c2 (Int.le_refl _)) c3 (Int.le_refl _)) st3 (by omega) sg3
    · have e : pPart od T n (b + 1) p c = pLeaf od T n p c := if_neg g
      rw [e] at hF hO
      exact lf 0 opd kk mem p c s P hst hK hp hpn hc hc2 hs0 hsp hPk hF hO g
theorem m_sumB {E : EN} (hE : Ep E) {K : Nat} {tst : Int} {Q : Mm → Prop} {T : Rw} {n : Int} {od : Bool} (hT : tOk T n) (rt : R32 tst) (b : Nat) (opd : Int) (hb : b ≤ 8) (ho : opd = 8 - (b : Int)) : mSm E K tst Q T n od (pSum od T n b) opd := m_sum hE hT rt (m_part hE hT rt b opd hb ho) (pPart_ok hT.2.1 b)
