-- PLAIN behind its "not"s
theorem innL_ge {P : List (Int × Int)} {es : List PE} (hes : ∀ e ∈ es, e.1 < 31) (h : ¬ innL P = 32) : ¬ innL (pl es ++ P) = 32 := by rw [innL_es es hes]; exact h
theorem m_core {E : EN} (hE : Ep E) {K : Nat} {tst : Int} {Q : Mm → Prop} {T : Rw} {n : Int} {od : Bool} {b : Nat} {u : Bool} {opd : Int} {mem : Mm} {p c s : Int} {k : Nat} {P : List (Int × Int)} (hT : tOk T n) (rt : R32 tst) (hb8 : b ≤ 8) (hopd : opd = 8 - (b : Int)) (htst : ∀ b', b = b' + 1 → mTs E K tst Q T n od (lpT T n (pPlain od T n b')) (opd + 1))
    (hst : mSt mem T n od p c s (pl (nts k) ++ P) opd) (hK : iKs2 mem) (hp : 0 ≤ p) (hpn : p ≤ n) (hc : 0 ≤ c) (hc2 : c ≤ 50) (hs0 : 0 ≤ s) (hsp : s + ((pl (nts k) ++ P).length : Int) + 2 ≤ tF T n p) (hPk : plK P) (hP : P = [] ∨ ∃ e l, P = e :: l ∧ 28 ≤ e.1) (h32 : ¬ innL P = 32) (h1 : innL P = -1 → ¬ tst = 0) (hu : par k = u) (hnot : ¬ tW T n p = 14836)
    (hF : ∀ x, pCore od T n b u p c = .inr x → ∀ m2 r, mFr mem m2 → mBad m2 x → mLp E K tst Q m2 r)
    (hO : ∀ q d f, pCore od T n b u p c = .inl (q, d, f) → ∀ m2 es cur s2 g, mFr mem m2 → mCd s mem m2 → mSt m2 T n od q d s2 (pl es ++ P) opd → plK (pl es ++ P) → (∀ e ∈ es, 20 ≤ e.1 ∧ e.1 ≤ 28) → pdOk od (m2 614) (m2 615) es cur s → mSg od (m2 614) (m2 615) cur s2 g → pdT es g → feq (pdG es g) f → s2 + (es.length : Int) - (k : Int) - s ≤ tF T n q - tF T n p → mLp E K tst Q m2 2) :
    mLp E K tst Q mem 0 := by
  have hT1 := hT.2.1
  have hbF := tF_b (T := T) hpn
  have hkl : ((pl (nts k) ++ P).length : Int) = (k : Int) + P.length := by rw [List.length_append, pl_len, nts_l]; omega
  have hKn : plK (pl (nts k) ++ P) := plK_es (fun e he => by rw [nts_m he]; decide) hPk
  have hn31 : ∀ e ∈ nts k, e.1 < 31 := fun e he => by rw [nts_m he]; decide
  have hin : innL (pl (nts k) ++ P) = innL P := innL_es _ hn31
  have hPn : pl (nts k) ++ P = [] ∨ ∃ e l, pl (nts k) ++ P = e :: l ∧ 28 ≤ e.1 := by
    cases k with
    | zero => exact hP
    | succ k => exact Or.inr ⟨(28, 0), pl (nts k) ++ P, rfl, by show (28 : Int) ≤ 28; omega⟩
  refine m_lp0 hE hst.2.1 (eX12_readPlain (k := K + 5) (rX12_readPlain_0 (k := K + 5) hE ?_))
  refine m_isWord hE hst.1 (by decide) (by decide) (fun z => absurd z hnot) (fun _ => ⟨fun _ => ?_, fun z => absurd rfl z⟩)
  by_cases g : tG T n p = 40
  · refine m_isSign hE hst.1 (by decide) (by decide) (fun _ => ⟨fun z => absurd z (by decide), fun _ => ?_⟩) (fun z => absurd g z)
    cases b with
    | zero =>
      have e : pCore od T n 0 u p c = .inr (tF T n p) := if_pos g
      exact m_openF (k := K + 2) hE hst.2.1 (by rw [hst.2.2.2.2.2.2.1]; omega) (by decide) (hF _ e _ 0 mFr_bad (m_bad hst hKn hs0 (by omega)))
    | succ b =>
      have e : pCore od T n (b + 1) u p c = pClo T n 41 u (lpT T n (pPlain od T n b) (tT T n p) c) := if_pos g
      rw [e] at hF hO
      have nx := nx_b (T := T) hpn (by rw [tG_s (T := T) (n := n) (p := p) (by omega)]; decide)
      have hbx := tF_b (T := T) nx.2.1
      refine m_openT (k := K + 2) hE hT hst hp hpn (by omega) (by omega) (by decide) fun m1 a1 a2 a3 => ?_
      have hlen : ((((31, 0) :: (pl (nts k) ++ P) : List (Int × Int)).length : Nat) : Int) = k + P.length + 1 := by rw [List.length_cons]; omega
      refine htst b rfl m1 (tT T n p) c s _ a3 (iKs2_F a1 hK) (by omega) nx.2.1 hc hc2 hs0 (by omega) (plK_i hKn (by decide)) (Or.inr ⟨_, _, rfl, by decide⟩) (by decide : ¬ (31 : Int) = 32) (fun z => absurd z (by decide : ¬ (31 : Int) = -1)) (fun x hx m2 r f2 hb => hF x (by rw [hx]; rfl) m2 r (mFr_tr a1 f2) hb) (fun q d f hq o1 o2 m2 es cur s2 g2 f2 c2 st2 k2 hes hpd hsg hTT hG hcnt => ?_)
      obtain ⟨k1, k2', k3, k4, k5⟩ := lpT_ok hT1 (pPlain_ok hT1 b) _ _ _ _ _ (by omega) nx.2.1 hc hc2 hq
      have hbq := tF_b (T := T) k2'
      have hl2 : ((pl es ++ ((31, 0) :: (pl (nts k) ++ P))).length : Int) = es.length + (k + P.length + 1) := by rw [List.length_append, pl_len]; omega
      refine m_closeT hE hT (by omega) k2' o1 o2 st2 k2 hes hs0 hpd hsg hTT hG (by omega) (by omega) (fun g3 m3 r f3 hb => hF _ (by rw [hq]; exact if_neg g3) m3 r (mFr_tr (mFr_tr a1 f2) f3) hb) (fun g3 m3 s3 f3 c3 st3 hs3 sg3 => ?_)
      have nx2 := nx_b (T := T) k2' (by rw [tG_s (T := T) (n := n) (p := q) (by omega)]; decide)
      have hbx2 := tF_b (T := T) nx2.2.1
      rw [show opd + 1 - 1 = opd by omega] at st3
      refine hO _ _ _ (by rw [hq]; exact if_pos g3) m3 (nts k) s s3 f (mFr_tr (mFr_tr a1 f2) f3) (mCd_tr (mCd_tr (a2 s) c2 (Int.le_refl _)) c3 (Int.le_refl _)) st3 hKn (fun e he => by rw [nts_m he]; decide) (nts_pd k) sg3 (nts_T k f k5) (by rw [← hu]; exact nts_G k f k5) ?_
      rw [nts_l]
      omega
  · refine m_isSign hE hst.1 (by decide) (by decide) (fun z => absurd z g) (fun _ => ⟨fun _ => ?_, fun z => absurd rfl z⟩)
    have e : pCore od T n b u p c = pCmp od T n b u p c := if_neg g
    rw [e] at hF hO
    have hsum := m_sumB (K := K) (tst := tst) (Q := Q) (od := od) hE hT rt b opd hb8 hopd
    have hPs : pl (nts k) ++ P = [] ∨ ∃ e l, pl (nts k) ++ P = e :: l ∧ 25 ≤ e.1 := by
      rcases hPn with w | ⟨e, l, w, v⟩
      · exact Or.inl w
      · exact Or.inr ⟨e, l, w, by omega⟩
    refine hsum K mem p c s _ hst hK hp hpn hc hc2 hs0 hsp hKn hPs (fun x hx m2 r f2 hb => hF x (by unfold pCmp; rw [hx]; rfl) m2 r f2 hb) (fun q d f hq o1 o2 m2 es cur s2 g2 f2 c2 st2 k2 hes hpd hsg hTT hG hcnt => ?_)
    obtain ⟨k1, k2', k3, k4, k5⟩ := pSum_ok hT1 b _ _ _ _ _ hp hpn hc hc2 hq
    have hbq := tF_b (T := T) k2'
    have hl2 : ((pl es ++ (pl (nts k) ++ P)).length : Int) = es.length + (k + P.length) := by rw [List.length_append, pl_len]; omega
    have hs2s := hsg.2.1
    have hs2z := hsg.1
    have hes31 : ∀ e ∈ es, e.1 < 31 := fun e he => by have := hes e he; omega
    have hin2 : innL (pl es ++ (pl (nts k) ++ P)) = innL P := (innL_es es hes31).trans hin
    have ec : pCmp od T n b u p c = (if oCmp (tG T n q) = -1 then .inr (tF T n q) else (match pSum od T n b (tT T n q) d with
      | .inr x => .inr x
      | .inl (q2, d2, g) => .inl (q2, d2, neg u (cmb (oCmp (tG T n q)) f g)))) := by unfold pCmp; rw [hq]; rfl
    refine m_bs163 hE rt st2 (by omega) o1 o2 (by rw [hin2]; exact h32) (by rw [hin2]; exact h1) ?_
    refine m_cmpS hE hT (by omega) k2' st2 k2 hes hPn hs0 hpd hsg hTT hG (by omega) (fun z m3 r f3 hb => hF _ (by rw [ec, if_pos z]) m3 r (mFr_tr f2 f3) hb) (fun o ho o0 o1' m3 s3 f3 c3 st3 hs3 sg3 => ?_)
    have h9 : oCmp (-1) = -1 := by decide
    have hsq : tS T n q = 3 := tG_s fun z => by rw [z] at ho; omega
    have nx := nx_b (T := T) k2' (by rw [hsq]; decide)
    have hbx := tF_b (T := T) nx.2.1
    rw [if_neg (by omega), ho] at ec
    have hs3s := sg3.2.1
    have hln3 : ((((o, 0) :: (pl (nts k) ++ P) : List (Int × Int)).length : Nat) : Int) = k + P.length + 1 := by rw [List.length_cons]; omega
    have hK3 : plK ((o, 0) :: (pl (nts k) ++ P)) := plK_i hKn ⟨by show 20 ≤ o; omega, by show o ≤ 32; omega, by show (0 : Int) ≤ 0; decide, by show (0 : Int) < 400; decide⟩
    refine m_lp1 hE st3.2.1 (hsum (K + 1) m3 (tT T n q) d s3 _ st3 (iKs2_F (mFr_tr f2 f3) hK) (by omega) nx.2.1 k3 k4 (by omega) (by omega) hK3 (Or.inr ⟨_, _, rfl, o0⟩) (fun x hx m4 r f4 hb => hF x (by rw [ec, hx]) m4 r (mFr_tr (mFr_tr f2 f3) f4) hb) (fun q4 d4 f4 hq4 o14 o24 m4 es4 cur4 s4 g4 f4' c4 st4 k4' hes4 hpd4 hsg4 hTT4 hG4 hcnt4 => ?_))
    obtain ⟨l1, l2, l3, l4, l5⟩ := pSum_ok hT1 b _ _ _ _ _ (by omega) nx.2.1 k3 k4 hq4
    have hbq4 := tF_b (T := T) l2
    have hl4 : ((pl es4 ++ ((o, 0) :: (pl (nts k) ++ P))).length : Int) = es4.length + (k + P.length + 1) := by rw [List.length_append, pl_len]; omega
    have hes431 : ∀ e ∈ es4, e.1 < 31 := fun e he => by have := hes4 e he; omega
    have hin4 : innL (pl es4 ++ ((o, 0) :: (pl (nts k) ++ P))) = innL P := by
      rw [innL_es es4 hes431]
      show (if 31 ≤ o then o else innL (pl (nts k) ++ P)) = innL P
      rw [if_neg (by omega), hin]
    have hs4s := hsg4.2.1
    have hle4 := pdOk_le es4 cur4 hpd4
    refine m_bs163 hE rt st4 (by omega) o14 o24 (by rw [hin4]; exact h32) (by rw [hin4]; exact h1) (m_cmpT hE st4 k4' hes4 ⟨o0, o1'⟩ (by omega) ?_)
    have hpile : pl es4 ++ ((o, 0) :: (pl (nts k) ++ P)) = pl (es4 ++ (o, 0, s, f) :: nts k) ++ P := by
      rw [pl_ap]
      show _ = (pl es4 ++ ((o, 0) :: pl (nts k))) ++ P
      rw [List.append_assoc]
      rfl
    rw [hpile] at st4 k4'
    have sgF : mSg od (m4 614) (m4 615) s s3 f := mSg_cd c4 (Int.le_refl _) sg3
    have hgo : ¬ o = 28 := by omega
    have hG2 : pdG (es4 ++ (o, 0, s, f) :: nts k) g4 = pdG (nts k) (cmb o f f4) := by
      rw [pdG_ap, hG4]
      show pdG (nts k) (if o = 28 then neg true f4 else cmb o f f4) = _
      rw [if_neg hgo]
    have hpd2 : pdOk od (m4 614) (m4 615) ((o, 0, s, f) :: nts k) s3 s := Or.inr (Or.inr ⟨by show 20 ≤ o; omega, o1', k5, sgF, nts_pd k⟩)
    have hT2 : pdT ((o, 0, s, f) :: nts k) f4 := by
      refine ⟨?_, ?_⟩
      · show (if 28 ≤ o then tB f4 else vB f4)
        rw [if_neg (by omega)]
        exact l5
      · show pdT (nts k) (if o = 28 then neg true f4 else cmb o f f4)
        rw [if_neg hgo]
        exact nts_T k _ (cmb_c ⟨o0, o1'⟩)
    refine hO q4 d4 _ (by rw [ec, hq4]) m4 (es4 ++ (o, 0, s, f) :: nts k) cur4 s4 g4 (mFr_tr (mFr_tr f2 f3) f4') (mCd_tr (mCd_tr c2 c3 (Int.le_refl _)) c4 (by omega)) st4 k4' (fun e he => ?_) (pdOk_ap hpd2 es4 cur4 hpd4) hsg4 (pdT_ap _ _ _ hTT4 (by rw [hG4]; exact hT2)) (by rw [hG2, ← hu]; exact nts_G k _ (cmb_c ⟨o0, o1'⟩)) ?_
    · rcases List.mem_append.mp he with w | w
      · have := hes4 e w; omega
      · rcases List.mem_cons.mp w with rfl | w
        · exact ⟨by show 20 ≤ o; omega, by show o ≤ 28; omega⟩
        · rw [nts_m w]; decide
    · rw [List.length_append, List.length_cons, nts_l]
      omega
theorem m_plain {E : EN} (hE : Ep E) {K : Nat} {tst : Int} {Q : Mm → Prop} {T : Rw} {n : Int} {od : Bool} {b : Nat} {opd : Int} (hT : tOk T n) (rt : R32 tst) (hb8 : b ≤ 8) (hopd : opd = 8 - (b : Int)) (htst : ∀ b', b = b' + 1 → mTs E K tst Q T n od (lpT T n (pPlain od T n b')) (opd + 1)) : mPl E K tst Q T n od (pPlain od T n b) opd := by
  intro mem p c s P hst hK hp hpn hc hc2 hs0 hsp hPk hP h32 h1 hF hO
  have hT1 := hT.2.1
  rw [pPlain_core] at hF hO
  have loop : ∀ (d : Nat) (m : Mm) (q : Int) (k : Nat), mFr mem m → mCd s mem m → mSt m T n od q c s (pl (nts k) ++ P) opd → 0 ≤ q → q ≤ n → 401 - q ≤ d → tF T n p + (k : Int) ≤ tF T n q → ((par k ^^ (pNots T n d q).1) = (pNots T n 401 p).1 ∧ (pNots T n d q).2 = (pNots T n 401 p).2) → mLp E K tst Q m 0 := by
    intro d
    induction d with
    | zero => intro m q k _ _ _ _ h1 h2; exact absurd h2 (by omega)
    | succ d ih =>
      intro m q k hm hcd hst2 q0 qn hd hcnt hN
      have hbq := tF_b (T := T) qn
      have hkl : ((pl (nts k) ++ P).length : Int) = (k : Int) + P.length := by rw [List.length_append, pl_len, nts_l]; omega
      by_cases w : tW T n q = 14836
      · have nl := not_len (T := T) qn w
        have nx := nx_b (T := T) qn (by rw [tW_s (T := T) (n := n) (p := q) (by omega)]; decide)
        have hbx := tF_b (T := T) nx.2.1
        have hN2 : (pNots T n (d + 1) q).1 = !(pNots T n d (tT T n q)).1 ∧ (pNots T n (d + 1) q).2 = (pNots T n d (tT T n q)).2 := by
          constructor <;> (conv => lhs; unfold pNots) <;> rw [if_pos w]
        rw [hN2.1, hN2.2] at hN
        refine m_lp0 hE hst2.2.1 (eX12_readPlain (k := K + 5) (rX12_readPlain_0 (k := K + 5) hE ?_))
        refine m_isWord hE hst2.1 (by decide) (by decide) (fun _ => ⟨fun z => absurd z (by decide), fun _ => ?_⟩) (fun z => absurd w z)
        refine m_pushS hE hst2 (by omega) (by decide) (by decide) fun m1 a1 a2 => m_nextS (k := K + 4) hE hT a2 q0 qn fun m2 b1 b2 => ?_
        refine ih m2 (tT T n q) (k + 1) (mFr_tr (mFr_tr hm (mFr_p a1)) (mFr_4 b1)) (mCd_tr (mCd_tr hcd (mCd_p a1) (Int.le_refl _)) (mCd_4 b1) (Int.le_refl _)) b2 (by omega) nx.2.1 (by omega) (by omega) ⟨?_, hN.2⟩
        rw [← hN.1]
        show ((!par k) ^^ (pNots T n d (tT T n q)).1) = (par k ^^ !(pNots T n d (tT T n q)).1)
        cases par k <;> cases (pNots T n d (tT T n q)).1 <;> rfl
      · have hN2 : pNots T n (d + 1) q = (false, q) := by
          conv => lhs; unfold pNots
          rw [if_neg w]
        rw [hN2] at hN
        have hN1 : (pNots T n 401 p).1 = par k := by rw [← hN.1]; cases par k <;> rfl
        rw [hN1, ← hN.2] at hF hO
        refine m_core hE hT rt hb8 hopd htst hst2 (iKs2_F hm hK) q0 qn hc hc2 hs0 (by omega) hPk hP h32 h1 rfl w (fun x hx m2 r f2 hb => hF x hx m2 r (mFr_tr hm f2) hb) (fun q2 d2 f hq m2 es cur s2 g f2 c2 st2 k2 hes hpd hsg hTT hG hc3 => hO q2 d2 f hq m2 es cur s2 g (mFr_tr hm f2) (mCd_tr hcd c2 (Int.le_refl _)) st2 k2 hes hpd hsg hTT hG (by omega))
  exact loop 401 mem p 0 mFr_rf mCd_rf hst hp hpn (by omega) (by omega) ⟨by show (false ^^ (pNots T n 401 p).1) = _; cases (pNots T n 401 p).1 <;> rfl, rfl⟩
