-- the model's PLAIN
def feq (f g : Rw → Int) : Prop := ∀ w, wOk w → f w = g w
theorem feq_t {f g : Rw → Int} (h : feq f g) (hf : tB g) : tB f := fun w hw => by rw [h w hw]; exact hf w hw
theorem feq_c {o : Int} {h f g : Rw → Int} (e : feq f g) : feq (cmb o h f) (cmb o h g) := by
  intro w hw
  unfold cmb
  by_cases c : o = -1
  · rw [if_pos c, if_pos c]; exact e w hw
  · rw [if_neg c, if_neg c]
    show op2 o (h w) (f w) = op2 o (h w) (g w)
    rw [e w hw]
def par : Nat → Bool
  | 0 => false
  | k + 1 => !par k
def nts (k : Nat) : List PE := List.replicate k (28, 0, 0, f0)
theorem nts_s (k : Nat) : nts (k + 1) = (28, 0, 0, f0) :: nts k := rfl
theorem nts_m {k : Nat} {e : PE} (h : e ∈ nts k) : e = (28, 0, 0, f0) := (List.mem_replicate.mp h).2
theorem nts_l (k : Nat) : (nts k).length = k := List.length_replicate
theorem nts_pd {od : Bool} {x y : Int → Int} {s : Int} : ∀ k : Nat, pdOk od x y (nts k) s s := by
  intro k
  induction k with
  | zero => rfl
  | succ k ih => exact Or.inl ⟨rfl, ih⟩
theorem nts_T : ∀ (k : Nat) (g : Rw → Int), tB g → pdT (nts k) g := by
  intro k
  induction k with
  | zero => intro g _; exact True.intro
  | succ k ih => intro g h; exact ⟨h, ih (neg true g) (neg_t h)⟩
theorem neg_2 {f : Rw → Int} (h : tB f) : feq (neg true (neg true f)) f := by
  intro w hw
  have a := h w hw
  have := bRK_v
  show (if (if f w = bRK then bRK else 1 - f w) = bRK then bRK else 1 - (if f w = bRK then bRK else 1 - f w)) = f w
  by_cases c : f w = bRK
  · rw [if_pos c, if_pos rfl, c]
  · rw [if_neg c, if_neg (by omega)]
    omega
theorem nts_G : ∀ (k : Nat) (g : Rw → Int), tB g → feq (pdG (nts k) g) (neg (par k) g) := by
  intro k
  induction k with
  | zero => intro g _ w _; rfl
  | succ k ih =>
    intro g h w hw
    have a := ih (neg true g) (neg_t h) w hw
    show pdG (nts k) (neg true g) w = neg (!par k) g w
    rw [a]
    cases par k with
    | false => rfl
    | true => exact neg_2 h w hw
def mPl (E : EN) (K : Nat) (tst : Int) (Q : Mm → Prop) (T : Rw) (n : Int) (od : Bool) (pf : Int → Int → PR) (opd : Int) : Prop := ∀ (mem : Mm) (p c s : Int) (P : List (Int × Int)), mSt mem T n od p c s P opd → iKs2 mem → 0 ≤ p → p ≤ n → 0 ≤ c → c ≤ 50 → 0 ≤ s → s + (P.length : Int) + 2 ≤ tF T n p → plK P → (P = [] ∨ ∃ e l, P = e :: l ∧ 28 ≤ e.1) → ¬ innL P = 32 → (innL P = -1 → ¬ tst = 0) →
  (∀ x, pf p c = .inr x → ∀ m2 r, mFr mem m2 → mBad m2 x → mLp E K tst Q m2 r) →
  (∀ q d f, pf p c = .inl (q, d, f) → ∀ m2 es cur s2 g, mFr mem m2 → mCd s mem m2 → mSt m2 T n od q d s2 (pl es ++ P) opd → plK (pl es ++ P) → (∀ e ∈ es, 20 ≤ e.1 ∧ e.1 ≤ 28) → pdOk od (m2 614) (m2 615) es cur s → mSg od (m2 614) (m2 615) cur s2 g → pdT es g → feq (pdG es g) f → s2 + (es.length : Int) - s ≤ tF T n q - tF T n p → mLp E K tst Q m2 2) →
  mLp E K tst Q mem 0
def mTs (E : EN) (K : Nat) (tst : Int) (Q : Mm → Prop) (T : Rw) (n : Int) (od : Bool) (pf : Int → Int → PR) (opd : Int) : Prop := ∀ (mem : Mm) (p c s : Int) (P : List (Int × Int)), mSt mem T n od p c s P opd → iKs2 mem → 0 ≤ p → p ≤ n → 0 ≤ c → c ≤ 50 → 0 ≤ s → s + (P.length : Int) + 2 ≤ tF T n p → plK P → (P = [] ∨ ∃ e l, P = e :: l ∧ 31 ≤ e.1) → ¬ innL P = 32 → (innL P = -1 → ¬ tst = 0) →
  (∀ x, pf p c = .inr x → ∀ m2 r, mFr mem m2 → mBad m2 x → mLp E K tst Q m2 r) →
  (∀ q d f, pf p c = .inl (q, d, f) → oAnd (tW T n q) = -1 → oOr (tW T n q) = -1 → ∀ m2 es cur s2 g, mFr mem m2 → mCd s mem m2 → mSt m2 T n od q d s2 (pl es ++ P) opd → plK (pl es ++ P) → (∀ e ∈ es, 20 ≤ e.1 ∧ e.1 ≤ 30) → pdOk od (m2 614) (m2 615) es cur s → mSg od (m2 614) (m2 615) cur s2 g → pdT es g → feq (pdG es g) f → s2 + (es.length : Int) - s ≤ tF T n q - tF T n p → mLp E K tst Q m2 2) →
  mLp E K tst Q mem 0
theorem bnd_1 {o : Int} (h : 20 ≤ o ∧ o ≤ 30) : 1 ≤ bnd o := by unfold bnd; repeat' split <;> omega
theorem bnd_0 {o : Int} (h : 31 ≤ o) : bnd o = 0 := if_pos h
theorem bnd_2 {o : Int} (h : 20 ≤ o ∧ o ≤ 29) : 2 ≤ bnd o := by unfold bnd; repeat' split <;> omega
/-- behind a SUM: where a comparison may come or has come -/
theorem m_bs163 {E : EN} (hE : Ep E) {K : Nat} {tst : Int} {Q : Mm → Prop} {T : Rw} {n : Int} {od : Bool} {m : Mm} {q d s2 opd : Int} {PP : List (Int × Int)} (rt : R32 tst) (st : mSt m T n od q d s2 PP opd) (hl : (PP.length : Int) ≤ 400) (e1 : oMul (tG T n q) = -1) (e2 : oAdd (tG T n q) = -1) (h32 : ¬ innL PP = 32) (h1 : innL PP = -1 → ¬ tst = 0) (h : VM E mX12_behindSum (K + 5 + 1) m 163 [(0, aR 603)] [] (retI fun r m2 => mLp E K tst Q m2 r)) : mLp E K tst Q m 3 := by
  refine m_lp3 hE st.2.1 (m_bsum (k := K + 5) hE st rt (fun o o0 o1 z => by rw [e1, e2] at z; omega) fun _ _ => ?_)
  exact m_inner hE st.2.2.2.2.2.1 st.2.2.2.2.2.2.2 hl ⟨fun _ => ⟨fun _ => h, fun z => ⟨fun _ => h, fun y => absurd y (h1 z)⟩⟩, fun z => absurd z h32⟩
theorem cmL_es {l : List (Int × Int)} : ∀ es : List PE, (∀ e ∈ es, 20 ≤ e.1 ∧ e.1 ≤ 24) → cmL (pl es ++ l) = cmL l := by
  intro es
  induction es with
  | nil => intro _; rfl
  | cons e es ih =>
    intro h
    show (if 20 ≤ e.1 ∧ e.1 ≤ 24 then cmL (pl es ++ l) else _) = cmL l
    rw [if_pos (h e List.mem_cons_self)]
    exact ih fun x hx => h x (List.mem_cons_of_mem _ hx)
/-- the first SUM of a comparison is read: its sign -/
theorem m_cmpS {E : EN} (hE : Ep E) {K : Nat} {tst : Int} {Q : Mm → Prop} {T : Rw} {n : Int} {od : Bool} {m : Mm} {q d s2 opd s cur : Int} {es : List PE} {g f : Rw → Int} {P : List (Int × Int)} (hT : tOk T n) (hq : 0 ≤ q) (hqn : q ≤ n) (st : mSt m T n od q d s2 (pl es ++ P) opd) (hK : plK (pl es ++ P)) (hes : ∀ e ∈ es, 20 ≤ e.1 ∧ e.1 ≤ 24) (hP : P = [] ∨ ∃ e l, P = e :: l ∧ 28 ≤ e.1) (s00 : 0 ≤ s) (hpd : pdOk od (m 614) (m 615) es cur s) (hsg : mSg od (m 614) (m 615) cur s2 g) (hTT : pdT es g) (hG : pdG es g = f) (hcnt : s2 + ((pl es ++ P).length : Int) ≤ 398)
    (hF : oCmp (tG T n q) = -1 → ∀ m2 r, mFr m m2 → mBad m2 (tF T n q) → mLp E K tst Q m2 r)
    (hO : ∀ o, oCmp (tG T n q) = o → 25 ≤ o → o ≤ 27 → ∀ m2 s3, mFr m m2 → mCd s m m2 → mSt m2 T n od (tT T n q) d s3 ((o, 0) :: P) opd → s3 ≤ s2 + (es.length : Int) → mSg od (m2 614) (m2 615) s s3 f → mLp E K tst Q m2 1) : VM E mX12_behindSum (K + 5 + 1) m 163 [(0, aR 603)] [] (retI fun r m2 => mLp E K tst Q m2 r) := by
  have hlen : ((pl es ++ P).length : Int) = es.length + P.length := by rw [List.length_append, pl_len]; omega
  have hs2 := hsg.2.1
  have hs1 := hsg.1
  have hcm : cmL (pl es ++ P) = false := by
    rw [cmL_es es hes]
    rcases hP with rfl | ⟨e, l, rfl, he⟩
    · rfl
    · show (if 20 ≤ e.1 ∧ e.1 ≤ 24 then cmL l else decide (25 ≤ e.1 ∧ e.1 ≤ 27)) = false
      rw [if_neg (by omega)]
      exact decide_eq_false (by omega)
  have hP5 : P = [] ∨ ∃ e l, P = e :: l ∧ bnd e.1 < 5 := by
    rcases hP with u | ⟨e, l, u, v⟩
    · exact Or.inl u
    · exact Or.inr ⟨e, l, u, bnd_hi (by omega)⟩
  have op : ∀ o, oCmp (tG T n q) = o → 25 ≤ o → o ≤ 27 → CV E mX12_must (K + 5) m [aR 603, aI 1] (fun m12 => ((¬ (m12 603 19) = 0 → VM E mX12_behindSum (K + 5 + 1) m12 245 [] [] (retI fun r m2 => mLp E K tst Q m2 r)) ∧ ((m12 603 19) = 0 → (CV E mX12_settle (K + 5) m12 [aR 603, aI 5] (fun m13 => (CV E mX12_push (K + 5) m13 [aR 603, aI o, aI 0] (fun m14 => VM E mX12_behindSum (K + 5 + 1) m14 245 [] [] (retI fun r m2 => mLp E K tst Q m2 r)))))))) := by
    intro o ho o0 o1
    refine m_mustS (k := K + 3) hE hT st hq hqn (by decide) (by decide) fun m1 b1 b2 => ⟨fun z => absurd b2.2.1 z, fun _ => ?_⟩
    refine m_setS (k := K + 4) hE b2 (by decide) s00 hP5 hK hcnt (fun e he => bnd_lo (hes e he)) (pdOk_fr es cur (fun i u => ⟨b1 _ _ (by omega), b1 _ _ (by omega)⟩) hpd) (sg_fr (fun i u v => ⟨b1 _ _ (by omega), b1 _ _ (by omega)⟩) hsg) hTT fun m2 s3 c1 c2 c3 c4 c5 => ?_
    refine m_pushS hE c2 (by omega) ⟨by omega, by omega⟩ (by decide) fun m3 d1 d2 => rX12_behindSum_245 (p0 := 0) hE ?_
    rw [hG] at c5
    exact hO o ho o0 o1 m3 s3 (mFr_tr (mFr_tr (mFr_4 b1) (mFr_s c1)) (mFr_p d1)) (mCd_tr (mCd_tr (mCd_4 b1) (mCd_s c1) (Int.le_refl _)) (mCd_p d1) (Int.le_refl _)) d2 c4 (mSg_cd (s := s3) (mCd_p d1) (Int.le_refl _) c5)
  refine rX12_behindSum_163 (p0 := 0) (k := K + 5) hE (m_isCompared (k := K + 4) hE st.2.2.2.2.2.1 st.2.2.2.2.2.2.2 hK (by omega) ?_)
  rw [hcm]
  refine ⟨fun _ => ?_, fun z => absurd rfl z⟩
  refine m_isSign hE st.1 (by decide) (by decide) (fun g => ⟨fun z => absurd z (by decide), fun _ => op 25 (by rw [g]; decide) (by decide) (by decide)⟩) (fun g60 => ⟨fun _ => ?_, fun z => absurd rfl z⟩)
  refine m_isSign hE st.1 (by decide) (by decide) (fun g => ⟨fun z => absurd z (by decide), fun _ => op 26 (by rw [g]; decide) (by decide) (by decide)⟩) (fun g62 => ⟨fun _ => ?_, fun z => absurd rfl z⟩)
  refine m_isSign hE st.1 (by decide) (by decide) (fun g => ⟨fun z => absurd z (by decide), fun _ => op 27 (by rw [g]; decide) (by decide) (by decide)⟩) (fun g61 => ⟨fun _ => ?_, fun z => absurd rfl z⟩)
  have e : (aUp (aUp m 603 19 1) 603 18 (m 603 14)) 603 19 = 1 := (aUp_nn (by omega)).trans aUp_re
  exact m_mustF (k := K + 3) hE st.2.1 ⟨fun _ => rX12_behindSum_245 (p0 := 0) hE (hF (by unfold oCmp; rw [if_neg g60, if_neg g62, if_neg g61]) _ 1 mFr_bad (m_bad st hK (by omega) (by omega))), fun z => absurd (e.symm.trans z) (by decide)⟩
/-- the second SUM is read -/
theorem m_cmpT {E : EN} (hE : Ep E) {K : Nat} {tst : Int} {Q : Mm → Prop} {T : Rw} {n : Int} {od : Bool} {m : Mm} {q d s2 opd : Int} {o a : Int} {es : List PE} {P : List (Int × Int)} (st : mSt m T n od q d s2 (pl es ++ (o, a) :: P) opd) (hK : plK (pl es ++ (o, a) :: P)) (hes : ∀ e ∈ es, 20 ≤ e.1 ∧ e.1 ≤ 24) (ho : 25 ≤ o ∧ o ≤ 27) (hl : ((pl es ++ (o, a) :: P).length : Int) ≤ 400) (h : mLp E K tst Q m 2) : VM E mX12_behindSum (K + 5 + 1) m 163 [(0, aR 603)] [] (retI fun r m2 => mLp E K tst Q m2 r) := by
  have hcm : cmL (pl es ++ (o, a) :: P) = true := by
    rw [cmL_es es hes]
    show (if 20 ≤ o ∧ o ≤ 24 then cmL P else decide (25 ≤ o ∧ o ≤ 27)) = true
    rw [if_neg (by omega)]
    exact decide_eq_true ho
  refine rX12_behindSum_163 (p0 := 0) (k := K + 5) hE (m_isCompared (k := K + 4) hE st.2.2.2.2.2.1 st.2.2.2.2.2.2.2 hK hl ?_)
  rw [hcm]
  exact ⟨fun z => absurd z (by decide), fun _ => h⟩
/-- behind a TEST in round brackets -/
theorem m_closeT {E : EN} (hE : Ep E) {K : Nat} {tst : Int} {Q : Mm → Prop} {T : Rw} {n : Int} {od : Bool} {m : Mm} {q d s2 opd s cur a2 : Int} {es : List PE} {g f : Rw → Int} {P : List (Int × Int)} (hT : tOk T n) (hq : 0 ≤ q) (hqn : q ≤ n) (e1 : oAnd (tW T n q) = -1) (e2 : oOr (tW T n q) = -1) (st : mSt m T n od q d s2 (pl es ++ (31, a2) :: P) opd) (hK : plK (pl es ++ (31, a2) :: P)) (hes : ∀ e ∈ es, 20 ≤ e.1 ∧ e.1 ≤ 30) (s00 : 0 ≤ s) (hpd : pdOk od (m 614) (m 615) es cur s) (hsg : mSg od (m 614) (m 615) cur s2 g) (hTT : pdT es g) (hG : feq (pdG es g) f) (hcnt : s2 + ((pl es ++ (31, a2) :: P).length : Int) ≤ 398) (ho : 0 ≤ opd ∧ opd ≤ 8)
    (hF : ¬ tG T n q = 41 → ∀ m2 r, mFr m m2 → mBad m2 (tF T n q) → mLp E K tst Q m2 r)
    (hO : tG T n q = 41 → ∀ m2 s3, mFr m m2 → mCd s m m2 → mSt m2 T n od (tT T n q) d s3 P (opd - 1) → s3 ≤ s2 + (es.length : Int) → mSg od (m2 614) (m2 615) s s3 f → mLp E K tst Q m2 2) : mLp E K tst Q m 2 := by
  have hinn : innL (pl es ++ (31, a2) :: P) = 31 := by rw [innL_es es fun e he => by have := hes e he; omega]; rfl
  have hlen : ((pl es ++ (31, a2) :: P).length : Int) = es.length + (P.length + 1) := by rw [List.length_append, pl_len, List.length_cons]; omega
  have hs2 := hsg.2.1
  have hs1 := hsg.1
  have nand : ¬ tW T n q = 1476 := fun z => by rw [z] at e1; exact absurd e1 (by decide)
  have nor : ¬ tW T n q = 498 := fun z => by rw [z] at e2; exact absurd e2 (by decide)
  refine m_lp2 hE st.2.1 (eX12_behindTest (k := K + 5) (rX12_behindTest_0 (k := K + 5) hE ?_))
  refine m_isWord hE st.1 (by decide) (by decide) (fun z => absurd z nand) (fun _ => ⟨fun z => absurd rfl z, fun _ => ?_⟩)
  refine m_isWord hE st.1 (by decide) (by decide) (fun z => absurd z nor) (fun _ => ⟨fun _ => ?_, fun z => absurd rfl z⟩)
  refine m_inner hE st.2.2.2.2.2.1 st.2.2.2.2.2.2.2 (by omega) ?_
  rw [hinn]
  refine ⟨fun _ => ?_, fun z => absurd z (by decide)⟩
  refine m_isSign hE st.1 (by decide) (by decide) (fun g41 _ => m_mustS (k := K + 3) hE hT st hq hqn (by decide) (by decide) fun m1 b1 b2 => ⟨fun z => absurd b2.2.1 z, fun _ => ?_⟩) (fun g41 _ => m_mustF (k := K + 3) hE st.2.1 ?_)
  · refine m_setS (k := K + 4) hE b2 (by decide) s00 (Or.inr ⟨(31, a2), P, rfl, by show bnd 31 < 1; decide⟩) hK hcnt (fun e he => bnd_1 (hes e he)) (pdOk_fr es cur (fun i u => ⟨b1 _ _ (by omega), b1 _ _ (by omega)⟩) hpd) (sg_fr (fun i u v => ⟨b1 _ _ (by omega), b1 _ _ (by omega)⟩) hsg) hTT fun m2 s3 c1 c2 c3 c4 c5 => ?_
    have e29 : m2 603 29 = (P.length : Int) + 1 := by rw [c2.2.2.2.2.2.1]; simp
    rw [e29, c2.2.2.2.2.2.2.1, show (P.length : Int) + 1 - 1 = P.length by omega]
    refine ⟨⟨by omega, by omega⟩, ⟨by omega, by omega⟩, rX12_behindTest_128 hE ?_⟩
    have fs : mFp m2 (aUp (aUp m2 603 29 (P.length : Int)) 603 30 (opd - 1)) := fun o i _ _ z => by rw [aUp_nn (by omega), aUp_nn (by omega)]
    exact hO g41 _ s3 (mFr_tr (mFr_tr (mFr_4 b1) (mFr_s c1)) (mFr_p fs)) (mCd_tr (mCd_tr (mCd_4 b1) (mCd_s c1) (Int.le_refl _)) (mCd_p fs) (Int.le_refl _)) (mSt_pop c2) (by omega) (sg_cg hG (mSg_cd (s := s3) (mCd_p fs) (Int.le_refl _) c5))
  · have e : (aUp (aUp m 603 19 1) 603 18 (m 603 14)) 603 19 = 1 := (aUp_nn (by omega)).trans aUp_re
    exact ⟨fun _ => rX12_behindTest_128 hE (hF g41 _ 2 mFr_bad (m_bad st hK (by omega) (by omega))), fun z => absurd (e.symm.trans z) (by decide)⟩
