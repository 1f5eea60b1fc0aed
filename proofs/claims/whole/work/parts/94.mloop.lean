-- the loop of readExpression; what behindSum finds
def innL : List (Int × Int) → Int
  | [] => -1
  | e :: l => if 31 ≤ e.1 then e.1 else innL l
def cmL : List (Int × Int) → Bool
  | [] => false
  | e :: l => if 20 ≤ e.1 ∧ e.1 ≤ 24 then cmL l else decide (25 ≤ e.1 ∧ e.1 ≤ 27)
theorem plS_ap {f g : Int → Int} : ∀ (l1 l2 : List (Int × Int)), plS f g (l1 ++ l2) → plS f g l2 := by
  intro l1
  induction l1 with
  | nil => intro l2 h; exact h
  | cons e l1 ih => intro l2 h; exact ih l2 h.2.2
theorem plK_ap : ∀ (l1 l2 : List (Int × Int)), plK (l1 ++ l2) → plK l2 := fun l1 l2 h x hx => h x (List.mem_append_right l1 hx)
theorem plS_top {f g : Int → Int} : ∀ (l1 : List (Int × Int)) (e : Int × Int) (l2 : List (Int × Int)), plS f g (l1 ++ e :: l2) → f (l2.length : Int) = e.1 := by
  intro l1
  induction l1 with
  | nil => intro e l2 h; exact h.1
  | cons x l1 ih => intro e l2 h; exact ih e l2 h.2.2
theorem m_inner {E : EN} (hE : Ep E) {k : Nat} {mem : Mm} {Q : Int → Mm → Prop} {P : List (Int × Int)} (h29 : mem 603 29 = (P.length : Int)) (hS : plS (mem 616) (mem 617) P) (hl : (P.length : Int) ≤ 400) (hQ : Q (innL P) mem) : CI E mX12_inner k mem [aR 603] Q := by
  have loop : ∀ (rv low : List (Int × Int)), P = rv.reverse ++ low → VM E mX12_inner k mem 4 [(0, aR 603), (1, aI (innL low)), (2, aI low.length)] [] (retI Q) := by
    intro rv
    induction rv with
    | nil =>
      intro low h
      have h : P = low := h
      subst h
      exact rX12_inner_4 hE ⟨fun _ => hQ, fun c => absurd c (by omega)⟩
    | cons e rv ih =>
      intro low h
      have h2 : P = rv.reverse ++ e :: low := by rw [h, List.reverse_cons, List.append_assoc]; rfl
      have hlen : P.length = rv.length + (low.length + 1) := by rw [h2, List.length_append, List.length_reverse, List.length_cons]
      have he := plS_top rv.reverse e low (by rw [← h2]; exact hS)
      have ih2 := ih (e :: low) h2
      have e1 : (((e :: low).length : Nat) : Int) = low.length + 1 := by simp
      rw [e1] at ih2
      refine rX12_inner_4 hE ?_
      rw [h29, he]
      refine ⟨fun c => absurd c (by omega), fun _ => ⟨⟨by omega, by omega⟩, fun c => ⟨⟨by omega, by omega⟩, ?_⟩, fun c => ⟨⟨by omega, by omega⟩, ?_⟩⟩⟩
      · have e2 : innL (e :: low) = innL low := if_neg (by omega)
        rw [e2] at ih2
        exact ih2
      · have e2 : innL (e :: low) = e.1 := if_pos c
        rw [e2] at ih2
        exact ih2
  exact eX12_inner (rX12_inner_0 hE (loop P.reverse [] (by rw [List.reverse_reverse, List.append_nil])))
theorem m_isCompared {E : EN} (hE : Ep E) {k : Nat} {mem : Mm} {Q : Int → Mm → Prop} {P : List (Int × Int)} (h29 : mem 603 29 = (P.length : Int)) (hS : plS (mem 616) (mem 617) P) (hK : plK P) (hl : (P.length : Int) ≤ 400) (hQ : Q (if cmL P = true then 1 else 0) mem) : CI E mX12_isCompared (k + 1) mem [aR 603] Q := by
  have loop : ∀ (l : List (Int × Int)), plS (mem 616) (mem 617) l → plK l → (l.length : Int) ≤ 400 → cmL l = cmL P → ∀ x : Int, x = (l.length : Int) - 1 → VM E mX12_isCompared (k + 1) mem 7 [(0, aR 603), (1, aI x)] [] (retI Q) := by
    intro l
    induction l with
    | nil =>
      intro _ _ _ hc x hx
      have hx : x = -1 := hx
      subst hx
      rw [← hc] at hQ
      exact rX12_isCompared_7 hE ⟨fun _ => ⟨fun _ => hQ, fun c => absurd c (by decide)⟩, fun c => absurd c (by decide)⟩
    | cons e l ih =>
      intro h hk hl2 hc x hx
      have e1 : (((e :: l).length : Nat) : Int) = l.length + 1 := by simp
      rw [e1] at hl2
      obtain rfl : x = (l.length : Int) := by omega
      have hke := hk e List.mem_cons_self
      refine rX12_isCompared_7 hE ?_
      rw [h.1]
      have re : R64 e.1 := ⟨by omega, by omega⟩
      refine ⟨fun c => absurd c (by omega), fun _ => ⟨⟨by omega, by omega⟩, fun _ => s_in hE re (by decide) (by decide) (fun a b => ⟨fun z => absurd z (by decide), fun _ => ⟨⟨by omega, by omega⟩, ?_⟩⟩) (fun a => ⟨fun _ => ⟨fun c => absurd c (by omega), fun _ => ?_⟩, fun z => absurd rfl z⟩)⟩⟩
      · refine ih h.2.2 (plK_c hk) (by omega) ?_ _ (by omega)
        rw [← hc]
        exact (if_pos ⟨a, b⟩).symm
      · have hce : cmL (e :: l) = decide (25 ≤ e.1 ∧ e.1 ≤ 27) := if_neg (by omega)
        rw [← hc, hce] at hQ
        rw [h.1]
        refine fun _ => s_in hE re (by decide) (by decide) (fun a2 b2 => ⟨fun z => absurd z (by decide), fun _ => ?_⟩) (fun a2 => ⟨fun _ => ?_, fun z => absurd rfl z⟩)
        · rw [decide_eq_true (show 25 ≤ e.1 ∧ e.1 ≤ 27 from ⟨a2, b2⟩), if_pos rfl] at hQ
          exact hQ
        · rw [decide_eq_false (show ¬ (25 ≤ e.1 ∧ e.1 ≤ 27) by omega)] at hQ
          exact hQ
  refine eX12_isCompared (rX12_isCompared_0 hE ?_)
  rw [h29]
  exact ⟨⟨by omega, by omega⟩, loop P hS hK hl rfl _ rfl⟩
/-- the loop at a turn -/
def mLp (E : EN) (K : Nat) (tst : Int) (Q : Mm → Prop) (m : Mm) (r : Int) : Prop := VM E mX12_readExpression (K + 6 + 1) m 20 [(0, aR 603), (1, aI tst), (2, aI r)] [] (retV Q)
theorem m_lpB {E : EN} (hE : Ep E) {K : Nat} {tst x : Int} {Q : Mm → Prop} {m : Mm} {r : Int} (hb : mBad m x) (hQ : ∀ m2, mFr m m2 → m2 603 19 = 1 → m2 603 18 = x → Q m2) : mLp E K tst Q m r := by
  obtain ⟨b1, b2, N, b3, b4, b5, b6⟩ := hb
  refine rX12_readExpression_20 (k := K + 6) hE ⟨fun _ => m_settleC (k := K + 5) hE (by decide) (m_settleB (k := K + 5) hE (m0 := m) (fun m2 h => hQ m2 (fun o i a b _ _ e => h o i (fun z => e ⟨z.1, by omega⟩) a b) ((h _ _ (by omega) (by omega) (by omega)).trans b1) ((h _ _ (by omega) (by omega) (by omega)).trans b2)) N m (fun _ _ _ _ _ => rfl) b3 b4 b5 b6), fun z => absurd (b1.symm.trans z) (by decide)⟩
theorem m_lp1 {E : EN} (hE : Ep E) {K : Nat} {tst : Int} {Q : Mm → Prop} {m : Mm} (hb : m 603 19 = 0) (h : CI E mX12_readPart (K + 6) m [aR 603] (fun r m2 => mLp E K tst Q m2 r)) : mLp E K tst Q m 1 :=
  rX12_readExpression_20 (k := K + 6) hE ⟨fun z => absurd hb z, fun _ => ⟨fun z => absurd z (by decide), fun _ => ⟨fun _ => ⟨fun z => absurd rfl z, fun _ => h⟩, fun z => absurd z (by decide)⟩⟩⟩
theorem m_lp0 {E : EN} (hE : Ep E) {K : Nat} {tst : Int} {Q : Mm → Prop} {m : Mm} (hb : m 603 19 = 0) (h : CI E mX12_readPlain (K + 6) m [aR 603] (fun r m2 => mLp E K tst Q m2 r)) : mLp E K tst Q m 0 :=
  rX12_readExpression_20 (k := K + 6) hE ⟨fun z => absurd hb z, fun _ => ⟨fun z => absurd z (by decide), fun _ => ⟨fun z => absurd rfl z, fun _ => h⟩⟩⟩
theorem m_lp3 {E : EN} (hE : Ep E) {K : Nat} {tst : Int} {Q : Mm → Prop} {m : Mm} (hb : m 603 19 = 0) (h : CI E mX12_behindSum (K + 6) m [aR 603, aI tst] (fun r m2 => mLp E K tst Q m2 r)) : mLp E K tst Q m 3 :=
  rX12_readExpression_20 (k := K + 6) hE ⟨fun z => absurd hb z, fun _ => ⟨fun z => absurd z (by decide), fun _ => ⟨fun _ => ⟨fun _ => ⟨fun z => absurd rfl z, fun _ _ => h⟩, fun z => absurd z (by decide)⟩, fun z => absurd z (by decide)⟩⟩⟩
theorem m_lp2 {E : EN} (hE : Ep E) {K : Nat} {tst : Int} {Q : Mm → Prop} {m : Mm} (hb : m 603 19 = 0) (h : CI E mX12_behindTest (K + 6) m [aR 603] (fun r m2 => mLp E K tst Q m2 r)) : mLp E K tst Q m 2 :=
  rX12_readExpression_20 (k := K + 6) hE ⟨fun z => absurd hb z, fun _ => ⟨fun z => absurd z (by decide), fun _ => ⟨fun _ => ⟨fun _ => ⟨fun _ => h, fun z => absurd z (by decide)⟩, fun z => absurd z (by decide)⟩, fun z => absurd z (by decide)⟩⟩⟩
theorem m_lp4 {E : EN} (hE : Ep E) {K : Nat} {tst : Int} {Q : Mm → Prop} {m : Mm} (hb : m 603 19 = 0) (h : CV E mX12_settle (K + 5 + 1) m [aR 603, aI 1] Q) : mLp E K tst Q m 4 :=
  rX12_readExpression_20 (k := K + 6) hE ⟨fun z => absurd hb z, fun _ => ⟨fun _ => h, fun z => absurd rfl z⟩⟩
-- pushed, settled: the state behind it
def mFp (m m2 : Mm) : Prop := ∀ o i, o ≠ 616 → o ≠ 617 → ¬ (o = 603 ∧ (i = 29 ∨ i = 30)) → m2 o i = m o i
theorem mFr_p {m m2 : Mm} (h : mFp m m2) : mFr m m2 := fun o i _ _ c d e => h o i c d fun z => e ⟨z.1, by omega⟩
theorem mCd_p {s : Int} {m m2 : Mm} (h : mFp m m2) : mCd s m m2 := fun _ _ => ⟨h _ _ (by omega) (by omega) (by omega), h _ _ (by omega) (by omega) (by omega)⟩
theorem m_pushS {E : EN} (hE : Ep E) {k : Nat} {mem : Mm} {Q : Mm → Prop} {T : Rw} {n : Int} {od : Bool} {p c s opd o a : Int} {P : List (Int × Int)} (h : mSt mem T n od p c s P opd) (hl : (P.length : Int) < 400) (ro : R32 o) (ra : R32 a) (hQ : ∀ m2, mFp mem m2 → mSt m2 T n od p c s ((o, a) :: P) opd → Q m2) : CV E mX12_push k mem [aR 603, aI o, aI a] Q := by
  obtain ⟨a1, a2, a3, a4, a5, a6, a7, a8⟩ := h
  refine m_push hE a6 (by omega) hl ro ra (hQ _ (fun o' i x y z => by rw [aUp_nn (by omega), aUp_nn (by omega), aUp_nn (by omega)]) ?_)
  have fs : ∀ o' i, ¬ (o' = 603 ∧ i = 29) → ¬ ((o' = 616 ∨ o' = 617) ∧ i = (P.length : Int)) → (aUp (aUp (aUp mem 616 P.length o) 617 P.length a) 603 29 (P.length + 1)) o' i = mem o' i := fun o' i x y => by rw [aUp_nn (by omega), aUp_nn (by omega), aUp_nn (by omega)]
  refine ⟨mTk_fr a1 fun o' i z => fs o' i (by omega) (by omega), (fs _ _ (by omega) (by omega)).trans a2, (fs _ _ (by omega) (by omega)).trans a3, (fs _ _ (by omega) (by omega)).trans a4, (fs _ _ (by omega) (by omega)).trans a5, ?_, (fs _ _ (by omega) (by omega)).trans a7, ?_, ?_, ?_⟩
  · rw [aUp_re]; simp
  · rw [aUp_nn (by omega), aUp_nn (by omega), aUp_re]
  · rw [aUp_nn (by omega), aUp_re]
  · exact plS_fr _ (fun j u v => ⟨fs _ _ (by omega) (by omega), fs _ _ (by omega) (by omega)⟩) a8
theorem mSt_set {m m2 : Mm} {T : Rw} {n : Int} {od : Bool} {p c s s2 opd a0 : Int} {l P : List (Int × Int)} (h : mSt m T n od p c s (l ++ P) opd) (hf : mFs a0 m m2) (h29 : m2 603 29 = (P.length : Int)) (h23 : m2 603 23 = s2) : mSt m2 T n od p c s2 P opd := by
  obtain ⟨a1, a2, a3, a4, a5, a6, a7, a8⟩ := h
  exact ⟨mTk_fr a1 fun o' i z => hf o' i (by omega) (by omega), (hf _ _ (by omega) (by omega)).trans a2, (hf _ _ (by omega) (by omega)).trans a3, h23, (hf _ _ (by omega) (by omega)).trans a5, h29, (hf _ _ (by omega) (by omega)).trans a7, plS_fr _ (fun j u v => ⟨hf _ _ (by omega) (by omega), hf _ _ (by omega) (by omega)⟩) (plS_ap l P a8)⟩
theorem m_setS {E : EN} (hE : Ep E) {k : Nat} {mem : Mm} {Q : Mm → Prop} {T : Rw} {n : Int} {od : Bool} {p c s opd least a0 cur : Int} {P : List (Int × Int)} {es : List PE} {g : Rw → Int} (h : mSt mem T n od p c s (pl es ++ P) opd) (hl : R32 least) (a00 : 0 ≤ a0) (hP : P = [] ∨ ∃ e l, P = e :: l ∧ bnd e.1 < least) (hK : plK (pl es ++ P)) (hcnt : s + ((pl es ++ P).length : Int) ≤ 398) (hb : ∀ e ∈ es, least ≤ bnd e.1) (hpd : pdOk od (mem 614) (mem 615) es cur a0) (hsg : mSg od (mem 614) (mem 615) cur s g) (hT : pdT es g)
    (hQ : ∀ m2 s2, mFs a0 mem m2 → mSt m2 T n od p c s2 P opd → s ≤ s2 → s2 ≤ s + (es.length : Int) → mSg od (m2 614) (m2 615) a0 s2 (pdG es g) → Q m2) : CV E mX12_settle (k + 1) mem [aR 603, aI least] Q :=
  m_settleC hE hl (m_settle hE a00 hP es mem cur s g h.2.2.2.2.2.1 h.2.2.2.2.2.2.2 hK h.2.2.2.1 hcnt hb hpd hsg hT fun m2 s2 b1 b2 b3 b4 b5 b6 => hQ m2 s2 b1 (mSt_set h b1 b2 b3) b4 b5 b6)
def mInn (E : EN) (k : Nat) (tst : Int) (mem : Mm) (Q : Int → Mm → Prop) : Prop := (CI E mX12_inner k mem [aR 603] (fun r12 m11 => ((¬ r12 = 32 → ((¬ r12 = (-1) → VM E mX12_behindSum (k + 1) m11 163 [(0, aR 603)] [] (retI Q)) ∧ (r12 = (-1) → ((¬ tst = 0 → VM E mX12_behindSum (k + 1) m11 163 [(0, aR 603)] [] (retI Q)) ∧ (tst = 0 → Q 4 m11))))) ∧ (r12 = 32 → (CI E mX12_isSign k m11 [aR 603, aI 93] (fun r14 m13 => (R32 r14 → CV E mX12_must k m13 [aR 603, aI r14] (fun m15 => ((¬ (m15 603 19) = 0 → VM E mX12_behindSum (k + 1) m15 150 [] [] (retI Q)) ∧ ((m15 603 19) = 0 → (CV E mX12_settle k m15 [aR 603, aI 5] (fun m16 => (R32 ((m16 603 29) - 1)) ∧ (R32 ((m16 603 30) - 1)) ∧ VM E mX12_behindSum (k + 1) (aUp (aUp m16 603 29 ((m16 603 29) - 1)) 603 30 ((m16 603 30) - 1)) 150 [] [] (retI Q)))))))))))))
theorem m_bsum {E : EN} (hE : Ep E) {k : Nat} {mem : Mm} {Q : Int → Mm → Prop} {T : Rw} {n : Int} {od : Bool} {p c s opd tst : Int} {P : List (Int × Int)} (hst : mSt mem T n od p c s P opd) (rt : R32 tst)
    (h1 : ∀ o, 20 ≤ o → o ≤ 24 → (oMul (tG T n p) = o ∨ (oMul (tG T n p) = -1 ∧ oAdd (tG T n p) = o)) → CV E mX12_settle k mem [aR 603, aI (bnd o)] (fun m21 => (CV E mX12_push k m21 [aR 603, aI o, aI 0] (fun m22 => (CV E mX12_next k m22 [aR 603] (fun m23 => Q 1 m23))))))
    (h2 : oMul (tG T n p) = -1 → oAdd (tG T n p) = -1 → mInn E k tst mem Q) : CI E mX12_behindSum (k + 1) mem [aR 603, aI tst] Q := by
  have op : ∀ o, 20 ≤ o → o ≤ 24 → (oMul (tG T n p) = o ∨ (oMul (tG T n p) = -1 ∧ oAdd (tG T n p) = o)) → CI E mX12_binds k mem [aI o] (fun r20 m19 => (R32 r20 → CV E mX12_settle k m19 [aR 603, aI r20] (fun m21 => (CV E mX12_push k m21 [aR 603, aI o, aI 0] (fun m22 => (CV E mX12_next k m22 [aR 603] (fun m23 => Q 1 m23))))))) := fun o a b d => m_binds hE ⟨a, by omega⟩ fun _ => h1 o a b d
  refine eX12_behindSum rt (rX12_behindSum_0 hE ?_)
  refine m_isSign hE hst.1 (by decide) (by decide) (fun g => ⟨fun z => absurd z (by decide), fun _ => op 20 (by decide) (by decide) (by rw [g]; decide)⟩) (fun g43 => ⟨fun _ => ?_, fun z => absurd rfl z⟩)
  refine m_isSign hE hst.1 (by decide) (by decide) (fun g => ⟨fun z => absurd z (by decide), fun _ => op 21 (by decide) (by decide) (by rw [g]; decide)⟩) (fun g45 => ⟨fun _ => ?_, fun z => absurd rfl z⟩)
  refine m_isSign hE hst.1 (by decide) (by decide) (fun g => ⟨fun z => absurd z (by decide), fun _ => op 22 (by decide) (by decide) (by rw [g]; decide)⟩) (fun g42 => ⟨fun _ => ?_, fun z => absurd rfl z⟩)
  refine m_isSign hE hst.1 (by decide) (by decide) (fun g => ⟨fun z => absurd z (by decide), fun _ => op 23 (by decide) (by decide) (by rw [g]; decide)⟩) (fun g47 => ⟨fun _ => ?_, fun z => absurd rfl z⟩)
  refine m_isSign hE hst.1 (by decide) (by decide) (fun g => ⟨fun z => absurd z (by decide), fun _ => op 24 (by decide) (by decide) (by rw [g]; decide)⟩) (fun g37 => ⟨fun _ => ?_, fun z => absurd rfl z⟩)
  exact h2 (by unfold oMul; rw [if_neg g42, if_neg g47, if_neg g37]) (by unfold oAdd; rw [if_neg g43, if_neg g45])
-- two that wait, in a SUM
def eOf (o c1 : Int) (f : Rw → Int) : List PE := if o = -1 then [] else [(o, 0, c1, f)]
def mPn (od : Bool) (x y : Int → Int) (lo hi a s0 s1 : Int) (fa : Rw → Int) : Prop := (a = -1 ∧ s1 = s0) ∨ (lo ≤ a ∧ a ≤ hi ∧ vB fa ∧ mSg od x y s0 s1 fa)
theorem mPn_pd {od : Bool} {x y : Int → Int} {lo hi a s0 s1 : Int} {fa : Rw → Int} (hl : 20 ≤ lo) (hh : hi ≤ 24) (h : mPn od x y lo hi a s0 s1 fa) : pdOk od x y (eOf a s0 fa) s1 s0 := by
  rcases h with ⟨a1, a2⟩ | ⟨a1, a2, a3, a4⟩
  · unfold eOf
    rw [if_pos a1]
    exact a2
  · unfold eOf
    rw [if_neg (by omega)]
    exact Or.inr (Or.inr ⟨by show 20 ≤ a; omega, by show a ≤ 27; omega, a3, a4, rfl⟩)
theorem mPn_le {od : Bool} {x y : Int → Int} {lo hi a s0 s1 : Int} {fa : Rw → Int} (h : mPn od x y lo hi a s0 s1 fa) : s0 ≤ s1 := by
  rcases h with ⟨a1, a2⟩ | ⟨a1, a2, a3, a4⟩
  · omega
  · have := a4.2.1; omega
theorem mPn_fr {od : Bool} {m m2 : Mm} {lo hi a s0 s1 s : Int} {fa : Rw → Int} (hc : mCd s m m2) (hs : s1 ≤ s) (h : mPn od (m 614) (m 615) lo hi a s0 s1 fa) : mPn od (m2 614) (m2 615) lo hi a s0 s1 fa := by
  rcases h with q | ⟨a1, a2, a3, a4⟩
  · exact Or.inl q
  · exact Or.inr ⟨a1, a2, a3, mSg_cd hc hs a4⟩
theorem pdOk_ap {od : Bool} {x y : Int → Int} {mid a0 : Int} {es2 : List PE} (h2 : pdOk od x y es2 mid a0) : ∀ (es1 : List PE) (cur : Int), pdOk od x y es1 cur mid → pdOk od x y (es1 ++ es2) cur a0 := by
  intro es1
  induction es1 with
  | nil => intro cur h; have h : cur = mid := h; rw [h]; exact h2
  | cons e es1 ih =>
    intro cur h
    rcases h with ⟨a, b⟩ | ⟨a, b, c, d, f, g⟩ | ⟨a, b, c, d, f⟩
    · exact Or.inl ⟨a, ih _ b⟩
    · exact Or.inr (Or.inl ⟨a, b, c, d, f, ih _ g⟩)
    · exact Or.inr (Or.inr ⟨a, b, c, d, ih _ f⟩)
theorem pdG_ap : ∀ (es1 es2 : List PE) (g : Rw → Int), pdG (es1 ++ es2) g = pdG es2 (pdG es1 g) := by
  intro es1
  induction es1 with
  | nil => intro es2 g; rfl
  | cons e es1 ih => intro es2 g; exact ih es2 _
theorem pdT_ap : ∀ (es1 es2 : List PE) (g : Rw → Int), pdT es1 g → pdT es2 (pdG es1 g) → pdT (es1 ++ es2) g := by
  intro es1
  induction es1 with
  | nil => intro es2 g _ h; exact h
  | cons e es1 ih => intro es2 g h1 h2; exact ⟨h1.1, ih es2 _ h1.2 h2⟩
theorem eOf_G {o c1 : Int} {f g : Rw → Int} (ho : ¬ o = 28) : pdG (eOf o c1 f) g = cmb o f g := by
  unfold eOf
  by_cases c : o = -1
  · rw [if_pos c]; exact (cmb_n c).symm
  · rw [if_neg c]
    show (if o = 28 then neg true g else cmb o f g) = _
    rw [if_neg ho]
theorem eOf_T {o c1 : Int} {f g : Rw → Int} (ho : o ≤ 27) (hg : vB g) : pdT (eOf o c1 f) g := by
  unfold eOf
  by_cases c : o = -1
  · rw [if_pos c]; exact True.intro
  · rw [if_neg c]
    refine ⟨?_, True.intro⟩
    show (if 28 ≤ o then tB g else vB g)
    rw [if_neg (by omega)]
    exact hg
theorem eOf_m {o c1 : Int} {f : Rw → Int} {e : PE} (h : e ∈ eOf o c1 f) : e.1 = o ∧ e.2.1 = 0 ∧ ¬ o = -1 := by
  unfold eOf at h
  by_cases c : o = -1
  · rw [if_pos c] at h; cases h
  · rw [if_neg c] at h
    have := List.mem_singleton.mp h
    rw [this]
    exact ⟨rfl, rfl, c⟩
theorem eOf_l {o c1 : Int} {f : Rw → Int} : ((eOf o c1 f).length : Int) = if o = -1 then 0 else 1 := by
  unfold eOf
  by_cases c : o = -1
  · rw [if_pos c, if_pos c]; rfl
  · rw [if_neg c, if_neg c]; rfl
theorem pl_ap (a b : List PE) : pl (a ++ b) = pl a ++ pl b := List.map_append
theorem pl_len (a : List PE) : (pl a).length = a.length := List.length_map _
