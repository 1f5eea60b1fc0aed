-- readExpression, whole; PURE: a text's CLAUSES
theorem m_start {mem : Mm} {T : Rw} {n : Int} {od : Bool} {p c s : Int} (h1 : mTk mem T n p) (h2 : mem 603 19 = 0) (h3 : mem 603 20 = if od = true then 1 else 0) (h4 : mem 603 23 = s) (h5 : mem 603 26 = c) : mSt (aUp (aUp mem 603 29 0) 603 30 0) T n od p c s [] 0 := by
  have fs : ∀ o' i, ¬ (o' = 603 ∧ (i = 29 ∨ i = 30)) → (aUp (aUp mem 603 29 0) 603 30 0) o' i = mem o' i := fun o' i z => by rw [aUp_nn (by omega), aUp_nn (by omega)]
  exact ⟨mTk_fr h1 fun o' i z => fs o' i (by omega), (fs _ _ (by omega)).trans h2, (fs _ _ (by omega)).trans h3, (fs _ _ (by omega)).trans h4, (fs _ _ (by omega)).trans h5, (aUp_nn (by omega)).trans aUp_re, aUp_re, True.intro⟩
theorem mFr_st {mem : Mm} : mFr mem (aUp (aUp mem 603 29 0) 603 30 0) := fun o i _ _ _ _ z => by rw [aUp_nn (by omega), aUp_nn (by omega)]
theorem mCd_st {s : Int} {mem : Mm} : mCd s mem (aUp (aUp mem 603 29 0) 603 30 0) := fun i _ => ⟨by rw [aUp_nn (by omega), aUp_nn (by omega)], by rw [aUp_nn (by omega), aUp_nn (by omega)]⟩
theorem m_exprS {E : EN} (hE : Ep E) {K : Nat} {Q : Mm → Prop} {T : Rw} {n : Int} {od : Bool} {mem : Mm} {p c s : Int} (hT : tOk T n) (h1 : mTk mem T n p) (h2 : mem 603 19 = 0) (h3 : mem 603 20 = if od = true then 1 else 0) (h4 : mem 603 23 = s) (h5 : mem 603 26 = c) (hK : iKs2 mem) (hp : 0 ≤ p) (hpn : p ≤ n) (hc : 0 ≤ c) (hc2 : c ≤ 50) (hs0 : 0 ≤ s) (hsp : s + 2 ≤ tF T n p)
    (hF : ∀ x, pSum od T n 8 p c = .inr x → ∀ m2, mFr mem m2 → m2 603 19 = 1 → m2 603 18 = x → Q m2)
    (hO : ∀ q d f, pSum od T n 8 p c = .inl (q, d, f) → ∀ m2 s2, mFr mem m2 → mCd s mem m2 → mSt m2 T n od q d s2 [] 0 → s2 - s ≤ tF T n q - tF T n p → mSg od (m2 614) (m2 615) s s2 f → Q m2) : CV E mX12_readExpression (K + 6 + 1) mem [aR 603, aI 0] Q := by
  have hT1 := hT.2.1
  refine eX12_readExpression (by decide) (rX12_readExpression_0 (k := K + 6) hE ⟨fun _ => ?_, fun z => absurd rfl z⟩)
  have st := m_start h1 h2 h3 h4 h5
  refine m_lp1 hE st.2.1 (m_sumB hE hT (by decide) 8 0 (by decide) (by decide) (K + 1) _ p c s [] st (iKs2_F mFr_st hK) hp hpn hc hc2 hs0 (by show s + ((0 : Nat) : Int) + 2 ≤ _; omega) (fun _ z => nomatch z) (Or.inl rfl) (fun x hx m2 r f2 hb => m_lpB hE hb fun m3 b1 b2 b3 => hF x hx m3 (mFr_tr (mFr_tr mFr_st f2) b1) b2 b3) (fun q d f hq o1 o2 m2 es cur s2 g f2 c2 st2 k2 hes hpd hsg hTT hG hcnt => ?_))
  obtain ⟨k1, k2', k3, k4, k5⟩ := pSum_ok hT1 8 _ _ _ _ _ hp hpn hc hc2 hq
  have hbq := tF_b (T := T) k2'
  have hin : innL (pl es ++ []) = -1 := innL_es es fun e he => by have := hes e he; omega
  have hlen : ((pl es ++ []).length : Int) = es.length := by rw [List.append_nil, pl_len]
  have hs2 := hsg.2.1
  have hle := pdOk_le es cur hpd
  refine m_lp3 hE st2.2.1 (m_bsum (k := K + 5) hE st2 (by decide) (fun o o0 o1' z => by rw [o1, o2] at z; omega) fun _ _ => ?_)
  refine m_inner hE st2.2.2.2.2.2.1 st2.2.2.2.2.2.2.2 (by omega) ?_
  rw [hin]
  refine ⟨fun _ => ⟨fun z => absurd rfl z, fun _ => ⟨fun z => absurd rfl z, fun _ => ?_⟩⟩, fun z => absurd z (by decide)⟩
  refine m_lp4 hE st2.2.1 (m_setS (k := K + 5) hE st2 (by decide) hs0 (Or.inl rfl) k2 (by omega) (fun e he => bnd_1 (by have := hes e he; omega)) hpd hsg hTT fun m3 s3 b1 b2 b3 b4 b5 => ?_)
  rw [hG] at b5
  exact hO q d f hq m3 s3 (mFr_tr (mFr_tr mFr_st f2) (mFr_s b1)) (mCd_tr (mCd_tr mCd_st c2 (Int.le_refl _)) (mCd_s b1) (Int.le_refl _)) b2 (by omega) b5
theorem m_exprT {E : EN} (hE : Ep E) {K : Nat} {Q : Mm → Prop} {T : Rw} {n : Int} {od : Bool} {mem : Mm} {p c s : Int} (hT : tOk T n) (h1 : mTk mem T n p) (h2 : mem 603 19 = 0) (h3 : mem 603 20 = if od = true then 1 else 0) (h4 : mem 603 23 = s) (h5 : mem 603 26 = c) (hK : iKs2 mem) (hp : 0 ≤ p) (hpn : p ≤ n) (hc : 0 ≤ c) (hc2 : c ≤ 50) (hs0 : 0 ≤ s) (hsp : s + 2 ≤ tF T n p)
    (hF : ∀ x, pTest od T n 8 p c = .inr x → ∀ m2, mFr mem m2 → m2 603 19 = 1 → m2 603 18 = x → Q m2)
    (hO : ∀ q d f, pTest od T n 8 p c = .inl (q, d, f) → ∀ m2 s2, mFr mem m2 → mCd s mem m2 → mSt m2 T n od q d s2 [] 0 → s2 - s ≤ tF T n q - tF T n p → mSg od (m2 614) (m2 615) s s2 f → Q m2) : CV E mX12_readExpression (K + 6 + 1) mem [aR 603, aI 1] Q := by
  have hT1 := hT.2.1
  refine eX12_readExpression (by decide) (rX12_readExpression_0 (k := K + 6) hE ⟨fun z => absurd z (by decide), fun _ => ?_⟩)
  have st := m_start h1 h2 h3 h4 h5
  refine m_testB hE hT (by decide) _ p c s [] st (iKs2_F mFr_st hK) hp hpn hc hc2 hs0 (by show s + ((0 : Nat) : Int) + 2 ≤ _; omega) (fun _ z => nomatch z) (Or.inl rfl) (by decide) (fun _ => by decide) (fun x hx m2 r f2 hb => m_lpB hE hb fun m3 b1 b2 b3 => hF x hx m3 (mFr_tr (mFr_tr mFr_st f2) b1) b2 b3) (fun q d f hq o1 o2 m2 es cur s2 g f2 c2 st2 k2 hes hpd hsg hTT hG hcnt => ?_)
  obtain ⟨k1, k2', k3, k4, k5⟩ := pTest_ok hT1 8 _ _ _ _ _ hp hpn hc hc2 hq
  have hbq := tF_b (T := T) k2'
  have hin : innL (pl es ++ []) = -1 := innL_es es fun e he => by have := hes e he; omega
  have hlen : ((pl es ++ []).length : Int) = es.length := by rw [List.append_nil, pl_len]
  have hs2 := hsg.2.1
  have hle := pdOk_le es cur hpd
  have nand : ¬ tW T n q = 1476 := fun z => by rw [z] at o1; exact absurd o1 (by decide)
  have nor : ¬ tW T n q = 498 := fun z => by rw [z] at o2; exact absurd o2 (by decide)
  refine m_lp2 hE st2.2.1 (eX12_behindTest (k := K + 5) (rX12_behindTest_0 (k := K + 5) hE ?_))
  refine m_isWord hE st2.1 (by decide) (by decide) (fun z => absurd z nand) (fun _ => ⟨fun z => absurd rfl z, fun _ => ?_⟩)
  refine m_isWord hE st2.1 (by decide) (by decide) (fun z => absurd z nor) (fun _ => ⟨fun _ => ?_, fun z => absurd rfl z⟩)
  refine m_inner hE st2.2.2.2.2.2.1 st2.2.2.2.2.2.2.2 (by omega) ?_
  rw [hin]
  refine ⟨fun z => absurd rfl z, fun _ => ?_⟩
  refine m_lp4 hE st2.2.1 (m_setS (k := K + 5) hE st2 (by decide) hs0 (Or.inl rfl) k2 (by omega) (fun e he => bnd_1 (hes e he)) hpd hsg hTT fun m3 s3 b1 b2 b3 b4 b5 => ?_)
  exact hO q d f hq m3 s3 (mFr_tr (mFr_tr mFr_st f2) (mFr_s b1)) (mCd_tr (mCd_tr mCd_st c2 (Int.le_refl _)) (mCd_s b1) (Int.le_refl _)) b2 (by omega) (sg_cg hG b5)
-- PURE: verb, times, first SUM, second SUM, "if"
abbrev CLd : Type := Int × Int × (Rw → Int) × (Rw → Int) × (Rw → Int)
abbrev CLR : Type := (Int × Int × CLd) ⊕ Int
def f1 : Rw → Int := fun _ => 1
def sB (r : PR) (k : Int → Int → (Rw → Int) → CLR) : CLR := match r with
  | .inr x => .inr x
  | .inl (q, d, f) => k q d f
def pIf (od : Bool) (T : Rw) (n q d : Int) : PR := if tW T n q = 294 then pTest od T n 8 (tT T n q) d else .inl (q, d, f1)
def pTm (T : Rw) (n q : Int) : (Int × Int) ⊕ Int := if tW T n q = 21279923 then (if tS T n (tT T n q) = 2 ∧ 1 ≤ tN T n (tT T n q) ∧ tN T n (tT T n q) ≤ 20 then .inl (tT T n (tT T n q), tN T n (tT T n q)) else .inr (tF T n (tT T n q))) else .inl (q, 1)
abbrev ACR : Type := (Int × Int × Int × (Rw → Int) × (Rw → Int)) ⊕ Int
def pT2 (T : Rw) (n : Int) (g1 g2 : Rw → Int) (q d : Int) : ACR := match pTm T n q with
  | .inr x => .inr x
  | .inl (q3, t) => .inl (q3, d, t, g1, g2)
def pA2 (T : Rw) (n v : Int) : PR → ACR
  | .inr x => .inr x
  | .inl (q1, d1, g1) => if v = 0 then (if tW T n q1 = 52 then (match pSum true T n 8 (tT T n q1) d1 with
    | .inr x => .inr x
    | .inl (q2, d2, g2) => pT2 T n g1 g2 q2 d2) else .inr (tF T n q1)) else pT2 T n g1 f1 q1 d1
def pAc (T : Rw) (n v q c : Int) : ACR := if v = 3 then pT2 T n f1 f1 q c else pA2 T n v (pSum true T n 8 q c)
def pL2 : PR → ACR
  | .inr x => .inr x
  | .inl (q1, d1, g1) => .inl (q1, d1, 1, g1, f1)
def pLs (T : Rw) (n v q c : Int) : ACR := if v < 2 then pL2 (pSum false T n 8 q c) else .inl (q, c, 1, f1, f1)
def pBd (od : Bool) (T : Rw) (n v q c : Int) : ACR := if od = true then pAc T n v q c else pLs T n v q c
def pC2 (od : Bool) (T : Rw) (n v : Int) : ACR → CLR
  | .inr x => .inr x
  | .inl (q3, d3, t3, g1, g2) => sB (pIf od T n q3 d3) fun q4 d4 g4 => .inl (q4, d4, v, t3, g1, g2, g4)
def vIx (od : Bool) (h : Int) : Int := ixL (whL (if od = true then 0 else 1)) h 0
def pCl (od : Bool) (T : Rw) (n p c : Int) : CLR := if vIx od (tW T n p) = -1 then .inr (tF T n p) else pC2 od T n (vIx od (tW T n p)) (pBd od T n (vIx od (tW T n p)) (tT T n p) c)
def pText (od : Bool) (T : Rw) (n : Int) : Nat → Int → Int → List CLd ⊕ Int
  | 0, p, _ => .inr (tF T n p)
  | k + 1, p, c => match pCl od T n p c with
    | .inr x => .inr x
    | .inl (q, d, cl) => if tS T n q = 0 then .inl [cl] else if tG T n q = 59 then (match pText od T n k (tT T n q) d with
      | .inr x => .inr x
      | .inl l => .inl (cl :: l)) else .inr (tF T n q)
/-- what a CLAUSE comes to is bounded -/
def clOk (cl : CLd) : Prop := 0 ≤ cl.1 ∧ cl.1 ≤ 3 ∧ 1 ≤ cl.2.1 ∧ cl.2.1 ≤ 20 ∧ vB cl.2.2.1 ∧ vB cl.2.2.2.1 ∧ tB cl.2.2.2.2
theorem f1_v : vB f1 := fun _ _ => Or.inr (by show -1000000000 ≤ (1 : Int) ∧ (1 : Int) ≤ 1000000000; omega)
theorem f1_t : tB f1 := fun _ _ => Or.inr (Or.inr rfl)
theorem ixL_mem {h : Int} : ∀ (l : List Int) (j : Int), ¬ ixL l h j = -1 → h ∈ l := by
  intro l
  induction l with
  | nil => intro j z; exact absurd rfl z
  | cons a l ih =>
    intro j z
    by_cases c : h = a
    · rw [c]; exact List.mem_cons_self
    · exact List.mem_cons_of_mem _ (ih (j + 1) fun y => z (by show (if h = a then j else ixL l h (j + 1)) = -1; rw [if_neg c]; exact y))
theorem vIx_b (od : Bool) (h : Int) : vIx od h = -1 ∨ (0 ≤ vIx od h ∧ vIx od h ≤ 3 ∧ 1024 ≤ h) := by
  by_cases c : vIx od h = -1
  · exact Or.inl c
  · right
    have hm := ixL_mem _ _ c
    have hb := ixL_b (whL (if od = true then 0 else 1)) h 0 (by omega)
    have h1 : ∀ x ∈ whL 0, (1024 : Int) ≤ x := by decide
    have h2 : ∀ x ∈ whL 1, (1024 : Int) ≤ x := by decide
    have l1 : (whL 0).length = 4 := by decide
    have l2 : (whL 1).length = 4 := by decide
    unfold vIx at c ⊢
    cases od with
    | true =>
      simp only [if_true] at hm hb c ⊢
      have := h1 _ hm
      rw [l1] at hb
      omega
    | false =>
      simp only [Bool.false_eq_true, if_false] at hm hb c ⊢
      have := h2 _ hm
      rw [l2] at hb
      omega
theorem tW_big {T : Rw} {n p : Int} (hpn : p ≤ n) (h : 1024 ≤ tW T n p) : tF T n p + 3 ≤ tT T n p ∧ tS T n p = 1 := by
  have s1 := tW_s (T := T) (n := n) (p := p) (by omega)
  have b := tT_b (T := T) hpn
  have b2 := b.2.2 (by omega)
  have w1 : tW T n p = (if tT T n p - tF T n p ≤ 10 then hsh T (tF T n p) (tT T n p - tF T n p).toNat else -1) := if_pos s1
  refine ⟨?_, s1⟩
  by_cases c : tF T n p + 3 ≤ tT T n p
  · exact c
  · exfalso
    have u := hsh_up (T := T) (f := tF T n p) (tT T n p - tF T n p).toNat fun j x y => tT_le s1 x (by omega)
    rw [if_pos (by omega)] at w1
    have hd : (tT T n p - tF T n p).toNat = 1 ∨ (tT T n p - tF T n p).toNat = 2 := by omega
    rcases hd with e | e
    · rw [e] at u w1
      have : (32 : Int) ^ 1 = 32 := rfl
      omega
    · rw [e] at u w1
      have : (32 : Int) ^ 2 = 1024 := rfl
      omega
