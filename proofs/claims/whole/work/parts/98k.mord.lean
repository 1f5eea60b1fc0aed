-- the model reads a CLAUSE of ORDERS
def mSo (m : Mm) (s : Int) (b : Prop) (lo hi : Int) (F : Rw → Int) : Prop := (b → mSg true (m 614) (m 615) lo hi F ∧ hi ≤ s) ∧ (¬ b → lo = hi)
def rowO (m : Mm) (s i v : Int) (g1 g2 : Rw → Int) : Prop := m 634 (8 * i) = v ∧ mSo m s (¬ v = 3) (m 634 (8 * i + 1)) (m 634 (8 * i + 2)) g1 ∧ mSo m s (v = 0) (m 634 (8 * i + 3)) (m 634 (8 * i + 4)) g2
def mOr (m : Mm) (s i : Int) (cl : CLd) : Prop := rowO m s i cl.1 cl.2.2.1 cl.2.2.2.1 ∧ m 634 (8 * i + 7) = cl.2.1 ∧ mIf true m s (m 634 (8 * i + 5)) (m 634 (8 * i + 6)) cl.2.2.2.2
theorem mSo_cd {m m2 : Mm} {s s2 : Int} {b : Prop} {lo hi : Int} {F : Rw → Int} (hc : mCd s m m2) (hs : s ≤ s2) (h : mSo m s b lo hi F) : mSo m2 s2 b lo hi F := ⟨fun z => ⟨mSg_cd hc (h.1 z).2 (h.1 z).1, by have := (h.1 z).2; omega⟩, h.2⟩
theorem rowO_fr {m m2 : Mm} {s s2 i v : Int} {g1 g2 : Rw → Int} (hc : mCd s m m2) (hs : s ≤ s2) (hr : ∀ j, 8 * i ≤ j → j ≤ 8 * i + 4 → m2 634 j = m 634 j) (h : rowO m s i v g1 g2) : rowO m2 s2 i v g1 g2 := by
  obtain ⟨a, b, c⟩ := h
  unfold rowO
  rw [hr _ (by omega) (by omega), hr (8 * i + 1) (by omega) (by omega), hr (8 * i + 2) (by omega) (by omega), hr (8 * i + 3) (by omega) (by omega), hr (8 * i + 4) (by omega) (by omega)]
  exact ⟨a, mSo_cd hc hs b, mSo_cd hc hs c⟩
theorem mOr_fr {m m2 : Mm} {s s2 i : Int} {cl : CLd} (hc : mCd s m m2) (hs : s ≤ s2) (hr : ∀ j, 8 * i ≤ j → j < 8 * i + 8 → m2 634 j = m 634 j) (h : mOr m s i cl) : mOr m2 s2 i cl := by
  obtain ⟨a, b, c⟩ := h
  unfold mOr
  rw [hr (8 * i + 7) (by omega) (by omega), hr (8 * i + 5) (by omega) (by omega), hr (8 * i + 6) (by omega) (by omega)]
  exact ⟨rowO_fr hc hs (fun j x y => hr j x (by omega)) a, b, mIf_cd hc hs c⟩
/-- a memory on the way through a CLAUSE -/
def oRel (m0 : Mm) (s0 i : Int) (m : Mm) : Prop := mFq m0 m ∧ mCd s0 m0 m ∧ (∀ j, j < 8 * i → m 634 j = m0 634 j) ∧ m 603 21 = i + 1
theorem oRel_up {m0 m : Mm} {s0 i j v : Int} (h : oRel m0 s0 i m) (hj : 8 * i ≤ j) : oRel m0 s0 i (aUp m 634 j v) := ⟨mFq_tr h.1 mFq_2, mCd_tr h.2.1 (fun _ _ => ⟨aUp_nn (by omega), aUp_nn (by omega)⟩) (Int.le_refl _), fun x hx => (aUp_nn (by omega)).trans (h.2.2.1 x hx), (aUp_nn (by omega)).trans h.2.2.2⟩
theorem oRel_r {m0 m m2 : Mm} {s0 s i : Int} (h : oRel m0 s0 i m) (hf : mFr m m2) (hc : mCd s m m2) (hs : s0 ≤ s) : oRel m0 s0 i m2 := ⟨mFq_tr h.1 (mFq_r hf), mCd_tr h.2.1 hc hs, fun x hx => (hf _ _ (by omega) (by omega) (by omega) (by omega) (by omega)).trans (h.2.2.1 x hx), (hf _ _ (by omega) (by omega) (by omega) (by omega) (by omega)).trans h.2.2.2⟩
theorem oRel_4 {m0 m m2 : Mm} {s0 i : Int} (h : oRel m0 s0 i m) (hf : mF4 m m2) : oRel m0 s0 i m2 := oRel_r h (mFr_4 hf) (mCd_4 (s := s0) hf) (Int.le_refl _)
theorem m_ord240 {E : EN} (hE : Ep E) {K : Nat} {mem : Mm} {Q : Mm → Prop} {i : Int} (hi : 0 ≤ i ∧ i < 12) (hQ : Q (aUp mem 634 (8 * i + 6) (mem 603 23))) : VM E mX12_readOrder (K + 8 + 1) mem 240 [(0, aR 603), (2, aI (8 * i))] [] (retV Q) := rX12_readOrder_240 hE ⟨⟨by omega, by omega⟩, ⟨by omega, by omega⟩, hQ⟩
theorem m_ord202B {E : EN} (hE : Ep E) {K : Nat} {mem : Mm} {Q : Mm → Prop} {i : Int} (hi : 0 ≤ i ∧ i < 12) (hb : mem 603 19 = 1) (hQ : ∀ m2, mFq mem m2 → m2 603 19 = 1 → m2 603 18 = mem 603 18 → Q m2) : VM E mX12_readOrder (K + 8 + 1) mem 202 [(0, aR 603), (2, aI (8 * i))] [] (retV Q) :=
  rX12_readOrder_202 (k := K + 8) hE ⟨⟨by omega, by omega⟩, ⟨by omega, by omega⟩, fun _ => m_ord240 hE hi (hQ _ (mFq_tr mFq_2 mFq_2) (by rw [aUp_nn (by omega), aUp_nn (by omega)]; exact hb) (by rw [aUp_nn (by omega), aUp_nn (by omega)])), fun z => absurd (hb.symm.trans z) (by decide)⟩
theorem m_ord154B {E : EN} (hE : Ep E) {K : Nat} {mem : Mm} {Q : Mm → Prop} {i : Int} (hi : 0 ≤ i ∧ i < 12) (hb : mem 603 19 = 1) (hQ : ∀ m2, mFq mem m2 → m2 603 19 = 1 → m2 603 18 = mem 603 18 → Q m2) : VM E mX12_readOrder (K + 8 + 1) mem 154 [(0, aR 603), (2, aI (8 * i))] [] (retV Q) :=
  rX12_readOrder_154 (k := K + 8) hE ⟨⟨by omega, by omega⟩, ⟨by omega, by omega⟩, fun _ => m_ord202B hE hi ((aUp_nn (by omega)).trans hb) (fun m2 a b c => hQ m2 (mFq_tr mFq_2 a) b (c.trans (aUp_nn (by omega)))), fun z => absurd (hb.symm.trans z) (by decide)⟩
theorem m_ord147B {E : EN} (hE : Ep E) {K : Nat} {mem : Mm} {Q : Mm → Prop} {i : Int} (hi : 0 ≤ i ∧ i < 12) (hb : mem 603 19 = 1) (hQ : ∀ m2, mFq mem m2 → m2 603 19 = 1 → m2 603 18 = mem 603 18 → Q m2) : VM E mX12_readOrder (K + 8 + 1) mem 147 [(0, aR 603), (2, aI (8 * i))] [] (retV Q) :=
  rX12_readOrder_147 (k := K + 8) hE ⟨⟨by omega, by omega⟩, fun r => eX12_readSum (k := K + 7) r (rX12_readSum_0 (k := K + 7) hE ⟨⟨by omega, by omega⟩, fun _ => ⟨⟨by omega, by omega⟩, ⟨by omega, by omega⟩, m_ord154B hE hi (by rw [aUp_nn (by omega), aUp_nn (by omega)]; exact hb) (fun m2 a b c => hQ m2 (mFq_tr (mFq_tr mFq_2 mFq_2) a) b (c.trans (by rw [aUp_nn (by omega), aUp_nn (by omega)])))⟩, fun z => absurd (hb.symm.trans z) (by decide)⟩)⟩
theorem m_ord125B {E : EN} (hE : Ep E) {K : Nat} {mem : Mm} {Q : Mm → Prop} {i v : Int} (hi : 0 ≤ i ∧ i < 12) (hb : mem 603 19 = 1) (hQ : ∀ m2, mFq mem m2 → m2 603 19 = 1 → m2 603 18 = mem 603 18 → Q m2) : VM E mX12_readOrder (K + 8 + 1) mem 125 [(0, aR 603), (1, aI v), (2, aI (8 * i))] [] (retV Q) :=
  rX12_readOrder_125 (k := K + 8) hE ⟨fun _ => m_ord154B hE hi hb hQ, fun _ => ⟨fun _ => m_ord147B hE hi hb hQ, fun z => absurd (hb.symm.trans z) (by decide)⟩⟩
/-- a SUM of ORDERS, read whole -/
theorem m_readSum {E : EN} (hE : Ep E) {K : Nat} {mem : Mm} {Q : Mm → Prop} {T : Rw} {n : Int} {p c s j : Int} (hT : tOk T n) (hst : mQ mem T n true p c s) (hK : iKs2 mem) (hj : 0 ≤ j ∧ j < 95) (hp : 0 ≤ p) (hpn : p ≤ n) (hc : 0 ≤ c) (hc2 : c ≤ 50) (hs0 : 0 ≤ s) (hsp : s + 2 ≤ tF T n p)
    (hF : ∀ y, pSum true T n 8 p c = .inr y → ∀ m2, mFq mem m2 → m2 603 19 = 1 → m2 603 18 = y → Q m2)
    (hO : ∀ q d f, pSum true T n 8 p c = .inl (q, d, f) → ∀ m2 s2, (∀ o x, o ≠ 614 → o ≠ 615 → o ≠ 616 → o ≠ 617 → ¬ (o = 603 ∧ ((14 ≤ x ∧ x ≤ 19) ∨ x = 23 ∨ x = 26 ∨ x = 29 ∨ x = 30)) → ¬ (o = 634 ∧ (x = j ∨ x = j + 1)) → m2 o x = mem o x) → mCd s mem m2 → mQ m2 T n true q d s2 → s2 - s ≤ tF T n q - tF T n p → m2 634 j = s → m2 634 (j + 1) = s2 → mSg true (m2 614) (m2 615) s s2 f → Q m2) : CV E mX12_readSum (K + 7 + 1) mem [aR 603, aI j] Q := by
  refine eX12_readSum (k := K + 7) ⟨by omega, by omega⟩ (rX12_readSum_0 (k := K + 7) hE ⟨⟨by omega, by omega⟩, fun z => absurd hst.2.1 z, fun _ => ?_⟩)
  rw [hst.2.2.2.1]
  have f1 : ∀ o x, ¬ (o = 634 ∧ x = j) → (aUp mem 634 j s) o x = mem o x := fun o x z => aUp_nn z
  have st1 : mQ (aUp mem 634 j s) T n true p c s := mQ_fr hst fun o x z => f1 o x (by omega)
  refine m_exprS (K := K) hE hT st1.1 st1.2.1 st1.2.2.1 st1.2.2.2.1 st1.2.2.2.2 (iKs2_Q mFq_2 hK) hp hpn hc hc2 hs0 hsp (fun y hy m2 b1 b2 b3 => ⟨⟨by omega, by omega⟩, ⟨by omega, by omega⟩, hF y hy _ (mFq_tr (mFq_tr mFq_2 (mFq_r b1)) mFq_2) ((aUp_nn (by omega)).trans b2) ((aUp_nn (by omega)).trans b3)⟩) (fun q d f hq m2 s2 b1 b2 b3 b4 b5 => ⟨⟨by omega, by omega⟩, ⟨by omega, by omega⟩, ?_⟩)
  rw [b3.2.2.2.1]
  have g : ∀ o x, ¬ (o = 634 ∧ x = j + 1) → (aUp m2 634 (j + 1) s2) o x = m2 o x := fun o x z => aUp_nn z
  refine hO q d f hq _ s2 (fun o x z1 z2 z3 z4 z5 z6 => ?_) (fun x hx => ⟨?_, ?_⟩) (mQ_fr (mQ_st b3) fun o x z => g o x (by omega)) b4 ?_ aUp_re (mSg_cd (s := s2) (fun x _ => ⟨g _ _ (by omega), g _ _ (by omega)⟩) (Int.le_refl _) b5)
  · rw [g o x (by omega), b1 o x z1 z2 z3 z4 z5, f1 o x (by omega)]
  · rw [g _ _ (by omega), (b2 x hx).1, f1 _ _ (by omega)]
  · rw [g _ _ (by omega), (b2 x hx).2, f1 _ _ (by omega)]
  · rw [g _ _ (by omega), b1 _ _ (by omega) (by omega) (by omega) (by omega) (by omega)]; exact aUp_re
theorem m_readOrder {E : EN} (hE : Ep E) {K : Nat} {mem : Mm} {Q : Mm → Prop} {T : Rw} {n : Int} {p c s i : Int} (hT : tOk T n) (hst : mQ mem T n true p c s) (hK : iKs2 mem) (h21 : mem 603 21 = i) (hi : 0 ≤ i ∧ i ≤ 12) (hp : 0 ≤ p) (hpn : p ≤ n) (hc : 0 ≤ c) (hc2 : c ≤ 50) (hs0 : 0 ≤ s) (hsp : s ≤ tF T n p)
    (hF : ∀ y, ((i = 12 ∧ y = tF T n p) ∨ (i < 12 ∧ pCl true T n p c = .inr y)) → ∀ m2, mFq mem m2 → m2 603 19 = 1 → m2 603 18 = y → Q m2)
    (hO : ∀ q d cl, i < 12 → pCl true T n p c = .inl (q, d, cl) → ∀ m2 s2, oRel mem s i m2 → mQ m2 T n true q d s2 → s ≤ s2 → s2 ≤ tF T n q → mOr m2 s2 i cl → Q m2) : CV E mX12_readOrder (K + 8 + 1) mem [aR 603] Q := by
  have hT1 := hT.2.1
  have hbF := tF_b (T := T) hpn
  have hvb := vIx_b true (tW T n p)
  have bad : (i = 12 ∨ vIx true (tW T n p) = -1) → CV E mX12_must (K + 8) mem [aR 603, aI 0] (fun m1 => (((m1 603 19) = 0 → (R32 (8 * (m1 603 21))) ∧ (R32 ((m1 603 21) + 1)) ∧ VM E mX12_readOrder (K + 8 + 1) (aUp m1 603 21 ((m1 603 21) + 1)) 85 [(0, aR 603), (1, aI (vIx true (tW T n p))), (2, aI (8 * (m1 603 21))), (3, aI 0)] [] (retV Q)) ∧ (¬ (m1 603 19) = 0 → Q m1))) := by
    intro z
    have e : (aUp (aUp mem 603 19 1) 603 18 (mem 603 14)) 603 19 = 1 := (aUp_nn (by omega)).trans aUp_re
    refine m_mustF (k := K + 6) hE hst.2.1 ⟨fun y => absurd (e.symm.trans y) (by decide), fun _ => ?_⟩
    refine hF (tF T n p) ?_ _ (mFq_r mFr_bad) e (aUp_re.trans hst.1.2.1)
    by_cases h12 : i = 12
    · exact Or.inl ⟨h12, rfl⟩
    · exact Or.inr ⟨by omega, if_pos (z.resolve_left h12)⟩
  have heads : ∀ (d j : Nat), j + d = 4 → VM E mX12_readOrder (K + 8 + 1) mem 4 [(0, aR 603), (1, aI (fnd (vIx true (tW T n p)) 0 j)), (2, aI j)] [] (retV Q) := by
    have nd := (wh_ok ⟨0, by decide⟩ (Or.inl (by decide))).1
    have hW : ixL (whL 0) (tW T n p) 0 = vIx true (tW T n p) := rfl
    intro d
    induction d with
    | succ d ih =>
      intro j hj
      have hlen : (whL 0).length = 4 := rfl
      have hc' := wh_c (i := 0) (k := j) (Or.inl (by decide)) (by omega)
      have hx := ixL_iff (h := tW T n p) (whL 0) 0 (by omega) nd j (by omega)
      rw [hW, Int.zero_add] at hx
      refine rX12_readOrder_4 (k := K + 8) hE ⟨fun z => absurd z (by omega), fun _ => ⟨⟨by omega, by omega⟩, fun _ => ?_⟩⟩
      rw [hK.2.2.2 j (by omega)]
      refine m_isWord hE hst.1 hc'.1 hc'.2 (fun q => ⟨fun z => absurd z (by decide), fun _ => ⟨⟨by omega, by omega⟩, ?_⟩⟩) (fun q => ⟨fun _ => ⟨⟨by omega, by omega⟩, ?_⟩, fun z => absurd rfl z⟩)
      · have := ih (j + 1) (by omega)
        rw [fnd_1 (hx.mp q), Int.add_zero] at this
        exact this
      · have := ih (j + 1) (by omega)
        rw [fnd_0 fun z => q (hx.mpr z)] at this
        exact this
    | zero =>
      intro j hj
      obtain rfl : j = 4 := by omega
      rw [fnd_v]
      refine rX12_readOrder_4 (k := K + 8) hE ⟨fun _ => ⟨fun z => bad (Or.inr z), fun z => ?_⟩, fun y => absurd y (by omega)⟩
      rw [h21]
      refine ⟨fun y => bad (Or.inl (by omega)), fun y => m_mustT (k := K + 6) hE hT hst.1 hst.2.1 hp hpn (by decide) (by decide) fun m1 a1 a2 => ?_⟩
      have st1 := mQ_nx hst a1 a2
      have e21 : m1 603 21 = i := (a1 _ _ (by omega)).trans h21
      refine ⟨fun _ => ?_, fun x => absurd st1.2.1 x⟩
      rw [e21]
      refine ⟨⟨by omega, by omega⟩, ⟨by omega, by omega⟩, ?_⟩
      have ec : pCl true T n p c = pC2 true T n (vIx true (tW T n p)) (pAc T n (vIx true (tW T n p)) (tT T n p) c) := if_neg z
      generalize hv : vIx true (tW T n p) = v at *
      have big := tW_big (T := T) hpn (by omega)
      have nx := nx_b (T := T) hpn (by omega : ¬ tS T n p = 0)
      have hbx := tF_b (T := T) nx.2.1
      have hi12 : i < 12 := y
      have hi2 : 0 ≤ i ∧ i < 12 := ⟨hi.1, y⟩
      -- the "if"
      have o202 : ∀ (m : Mm) (q d s1 t : Int) (g1 g2 : Rw → Int), oRel mem s i m → mQ m T n true q d s1 → s ≤ s1 → s1 ≤ tF T n q → 0 ≤ q → q ≤ n → 0 ≤ d → d ≤ 50 → rowO m s1 i v g1 g2 → m 634 (8 * i + 7) = t → pCl true T n p c = sB (pIf true T n q d) (fun q4 d4 g4 => .inl (q4, d4, v, t, g1, g2, g4)) → VM E mX12_readOrder (K + 8 + 1) m 202 [(0, aR 603), (2, aI (8 * i))] [] (retV Q) := by
        intro m q d s1 t g1 g2 hr hq hs1 hs1q q0 qn d0 d1 hrow h7 e
        have hbq := tF_b (T := T) qn
        refine rX12_readOrder_202 (k := K + 8) hE ⟨⟨by omega, by omega⟩, ⟨by omega, by omega⟩, fun x => absurd hq.2.1 x, fun _ => ?_⟩
        rw [hq.2.2.2.1]
        have fs : ∀ o x, ¬ (o = 634 ∧ x = 8 * i + 5) → (aUp m 634 (8 * i + 5) s1) o x = m o x := fun o x w => aUp_nn w
        have hr1 : oRel mem s i (aUp m 634 (8 * i + 5) s1) := oRel_up hr (by omega)
        have f5 : (aUp m 634 (8 * i + 5) s1) 634 (8 * i + 5) = s1 := aUp_re
        have hq1 : mQ (aUp m 634 (8 * i + 5) s1) T n true q d s1 := mQ_fr hq fun o x w => fs o x (by omega)
        have row1 : rowO (aUp m 634 (8 * i + 5) s1) s1 i v g1 g2 := rowO_fr (fun x _ => ⟨fs _ _ (by omega), fs _ _ (by omega)⟩) (Int.le_refl _) (fun x _ _ => fs _ _ (by omega)) hrow
        have h71 : (aUp m 634 (8 * i + 5) s1) 634 (8 * i + 7) = t := (fs _ _ (by omega)).trans h7
        generalize (aUp m 634 (8 * i + 5) s1) = m3 at *
        refine m_isWordQ hE hq1 (by decide) (by decide) (fun w => ⟨fun x => absurd x (by decide), fun _ => ?_⟩) (fun w => ⟨fun _ => m_ord240 hE hi2 ?_, fun x => absurd rfl x⟩)
        · have ep : pIf true T n q d = pTest true T n 8 (tT T n q) d := if_pos w
          have nx2 := nx_b (T := T) qn (by rw [tW_s (T := T) (n := n) (p := q) (by omega)]; decide)
          have hbx2 := tF_b (T := T) nx2.2.1
          have hil := w_len (T := T) (u := [105, 102]) qn (by decide : _ = (294 : Int)) (by decide) (by decide) (by decide) (by decide) w
          have hil2 : ((([105, 102] : List Int).length : Nat) : Int) = 2 := rfl
          rw [ep] at e
          refine m_nextQ (k := K + 7) hE hT hq1 q0 qn fun m4 b1 b2 => ?_
          have hr4 := oRel_4 hr1 b1
          refine m_exprT (K := K + 1) hE hT b2.1 b2.2.1 b2.2.2.1 b2.2.2.2.1 b2.2.2.2.2 (iKs2_Q hr4.1 hK) (by omega) nx2.2.1 d0 d1 (by omega) (by omega) (fun y hy m5 c1 c2 c3 => m_ord240 hE hi2 (hF y (Or.inr ⟨hi12, by rw [e, hy]; rfl⟩) _ (mFq_tr (mFq_tr hr4.1 (mFq_r c1)) mFq_2) ((aUp_nn (by omega)).trans c2) ((aUp_nn (by omega)).trans c3))) (fun q4 d4 g4 h4 m5 s5 c1 c2 c3 c4 c5 => m_ord240 hE hi2 ?_)
          obtain ⟨k1, k2, k3, k4, k5⟩ := pTest_ok hT1 8 _ _ _ _ _ (by omega) nx2.2.1 d0 d1 h4
          have hs5 := c5.2.1
          have hr5 := oRel_r hr4 c1 c2 hs1
          rw [c3.2.2.2.1]
          have gs : ∀ o x, ¬ (o = 634 ∧ x = 8 * i + 6) → (aUp m5 634 (8 * i + 6) s5) o x = m5 o x := fun o x w => aUp_nn w
          have rw5 : ∀ x, m5 634 x = m3 634 x := fun x => (c1 _ _ (by omega) (by omega) (by omega) (by omega) (by omega)).trans (b1 _ _ (by omega))
          have cd35 : mCd s1 m3 (aUp m5 634 (8 * i + 6) s5) := mCd_tr (mCd_tr (mCd_4 b1) c2 (Int.le_refl _)) (fun x _ => ⟨gs _ _ (by omega), gs _ _ (by omega)⟩) (Int.le_refl _)
          refine hO q4 d4 (v, t, g1, g2, g4) hi12 (by rw [e, h4]; rfl) _ s5 (oRel_up hr5 (by omega)) (mQ_fr (mQ_st c3) fun o x w => gs o x (by omega)) (by omega) (by omega) ⟨rowO_fr cd35 (by omega) (fun x _ _ => (gs _ _ (by omega)).trans (rw5 x)) row1, ?_, ?_⟩
          · rw [gs _ _ (by omega), rw5]; exact h71
          · rw [gs _ (8 * i + 5) (by omega), rw5, f5, aUp_re]
            exact Or.inr ⟨hs5, mSg_cd (s := s5) (fun x _ => ⟨gs _ _ (by omega), gs _ _ (by omega)⟩) (Int.le_refl _) c5, Int.le_refl _⟩
        · rw [hq1.2.2.2.1]
          have ep : pIf true T n q d = .inl (q, d, f1) := if_neg w
          rw [ep] at e
          have gs : ∀ o x, ¬ (o = 634 ∧ x = 8 * i + 6) → (aUp m3 634 (8 * i + 6) s1) o x = m3 o x := fun o x w => aUp_nn w
          refine hO q d (v, t, g1, g2, f1) hi12 e _ s1 (oRel_up hr1 (by omega)) (mQ_fr hq1 fun o x w => gs o x (by omega)) hs1 hs1q ⟨rowO_fr (fun x _ => ⟨gs _ _ (by omega), gs _ _ (by omega)⟩) (Int.le_refl _) (fun x _ _ => gs _ _ (by omega)) row1, ?_, ?_⟩
          · rw [gs _ _ (by omega)]; exact h71
          · rw [gs _ (8 * i + 5) (by omega), f5, aUp_re]
            exact Or.inl ⟨Int.le_refl _, fun _ => rfl⟩
      -- "times"
      have o154 : ∀ (m : Mm) (q d s1 : Int) (g1 g2 : Rw → Int), oRel mem s i m → mQ m T n true q d s1 → s ≤ s1 → s1 ≤ tF T n q → 0 ≤ q → q ≤ n → 0 ≤ d → d ≤ 50 → rowO m s1 i v g1 g2 → pCl true T n p c = pC2 true T n v (pT2 T n g1 g2 q d) → VM E mX12_readOrder (K + 8 + 1) m 154 [(0, aR 603), (2, aI (8 * i))] [] (retV Q) := by
        intro m q d s1 g1 g2 hr hq hs1 hs1q q0 qn d0 d1 hrow e
        have hbq := tF_b (T := T) qn
        refine rX12_readOrder_154 (k := K + 8) hE ⟨⟨by omega, by omega⟩, ⟨by omega, by omega⟩, fun x => absurd hq.2.1 x, fun _ => ?_⟩
        have fs : ∀ o x, ¬ (o = 634 ∧ x = 8 * i + 7) → (aUp m 634 (8 * i + 7) 1) o x = m o x := fun o x w => aUp_nn w
        have hr1 : oRel mem s i (aUp m 634 (8 * i + 7) 1) := oRel_up hr (by omega)
        have f7 : (aUp m 634 (8 * i + 7) 1) 634 (8 * i + 7) = 1 := aUp_re
        have hq1 : mQ (aUp m 634 (8 * i + 7) 1) T n true q d s1 := mQ_fr hq fun o x w => fs o x (by omega)
        have row1 : rowO (aUp m 634 (8 * i + 7) 1) s1 i v g1 g2 := rowO_fr (fun x _ => ⟨fs _ _ (by omega), fs _ _ (by omega)⟩) (Int.le_refl _) (fun x _ _ => fs _ _ (by omega)) hrow
        generalize (aUp m 634 (8 * i + 7) 1) = m3 at *
        refine m_isWordQ hE hq1 (by decide) (by decide) (fun w => ⟨fun x => absurd x (by decide), fun _ => ?_⟩) (fun w => ⟨fun _ => ?_, fun x => absurd rfl x⟩)
        · have ep : pTm T n q = (if tS T n (tT T n q) = 2 ∧ 1 ≤ tN T n (tT T n q) ∧ tN T n (tT T n q) ≤ 20 then .inl (tT T n (tT T n q), tN T n (tT T n q)) else .inr (tF T n (tT T n q))) := if_pos w
          have nx2 := nx_b (T := T) qn (by rw [tW_s (T := T) (n := n) (p := q) (by omega)]; decide)
          have hbx2 := tF_b (T := T) nx2.2.1
          refine m_nextQ (k := K + 7) hE hT hq1 q0 qn fun m4 b1 b2 => ?_
          have hr4 := oRel_4 hr1 b1
          refine m_number (k := K + 5) hE hT b2.1 b2.2.1 (by omega) nx2.2.1 (by decide) (by decide) (by decide) (fun c1 c2 c3 m5 c4 c5 => ?_) (fun c1 x rx => m_ord202B hE hi2 ?_ fun m6 d1' d2' d3' => hF (tF T n (tT T n q)) (Or.inr ⟨hi12, ?_⟩) m6 (mFq_tr (mFq_tr hr4.1 (mFq_tr (mFq_r mFr_bad) mFq_2)) d1') d2' (d3'.trans ?_))
          · have nx3 := nx_b (T := T) nx2.2.1 (by rw [c1]; decide)
            have hbx3 := tF_b (T := T) nx3.2.1
            have q5 := mQ_nx b2 c4 c5
            have gs : ∀ o x, ¬ (o = 634 ∧ x = 8 * i + 7) → (aUp m5 634 (8 * i + 7) (tN T n (tT T n q))) o x = m5 o x := fun o x w => aUp_nn w
            have rw5 : ∀ x, m5 634 x = m3 634 x := fun x => (c4 _ _ (by omega)).trans (b1 _ _ (by omega))
            rw [if_pos ⟨c1, c2, c3⟩] at ep
            refine o202 _ (tT T n (tT T n q)) d s1 (tN T n (tT T n q)) g1 g2 (oRel_up (oRel_4 hr4 c4) (by omega)) (mQ_fr q5 fun o x w => gs o x (by omega)) hs1 (by omega) (by omega) nx3.2.1 d0 d1 (rowO_fr (mCd_tr (mCd_tr (mCd_4 b1) (mCd_4 c4) (Int.le_refl _)) (fun x _ => ⟨gs _ _ (by omega), gs _ _ (by omega)⟩) (Int.le_refl _)) (Int.le_refl s1) (fun x _ _ => (gs _ _ (by omega)).trans (rw5 x)) row1) aUp_re ?_
            rw [e]
            unfold pT2
            rw [ep]
            rfl
          · rw [aUp_nn (by omega), aUp_nn (by omega), aUp_re]
          · show pCl true T n p c = .inr (tF T n (tT T n q))
            rw [e]
            unfold pT2
            rw [ep, if_neg c1]
            rfl
          · rw [aUp_nn (by omega), aUp_re]
            exact b2.1.2.1
        · have ep : pTm T n q = .inl (q, 1) := if_neg w
          refine o202 m3 q d s1 1 g1 g2 hr1 hq1 hs1 hs1q q0 qn d0 d1 row1 f7 ?_
          rw [e]
          unfold pT2
          rw [ep]
          rfl
      -- the row is cleared, the first SUM
      have clr : ∀ (d j : Nat) (m : Mm), j + d = 8 → oRel mem s i m → (∀ x, 8 * i ≤ x → x < 8 * i + j → m 634 x = 0) → mQ m T n true (tT T n p) c s → VM E mX12_readOrder (K + 8 + 1) m 85 [(0, aR 603), (1, aI v), (2, aI (8 * i)), (3, aI j)] [] (retV Q) := by
        intro d
        induction d with
        | succ d ih =>
          intro j m hj b1 b2 b3
          refine rX12_readOrder_85 (k := K + 8) hE ⟨fun x => absurd x (by omega), fun _ => ⟨⟨by omega, by omega⟩, ⟨by omega, by omega⟩, ⟨by omega, by omega⟩, ?_⟩⟩
          have := ih (j + 1) (aUp m 634 (8 * i + j) 0) (by omega) (oRel_up b1 (by omega)) (fun x x0 x1 => by
            by_cases w : x = 8 * i + j
            · rw [w]; exact aUp_re
            · rw [aUp_nn (by omega)]; exact b2 x x0 (by omega)) (mQ_fr b3 fun o x y => aUp_nn (by omega))
          exact this
        | zero =>
          intro j m hj b1 b2 b3
          obtain rfl : j = 8 := by omega
          refine rX12_readOrder_85 (k := K + 8) hE ⟨fun _ => ?_, fun x => absurd x (by omega)⟩
          have fs : ∀ o x, ¬ (o = 634 ∧ x = 8 * i) → (aUp m 634 (8 * i) v) o x = m o x := fun o x w => aUp_nn w
          have hr1 : oRel mem s i (aUp m 634 (8 * i) v) := oRel_up b1 (by omega)
          have f0' : (aUp m 634 (8 * i) v) 634 (8 * i) = v := aUp_re
          have fz : ∀ x, 1 ≤ x → x < 8 → (aUp m 634 (8 * i) v) 634 (8 * i + x) = 0 := fun x _ _ => (fs _ _ (by omega)).trans (b2 _ (by omega) (by omega))
          have hq1 : mQ (aUp m 634 (8 * i) v) T n true (tT T n p) c s := mQ_fr b3 fun o x w => fs o x (by omega)
          refine ⟨⟨by omega, by omega⟩, fun v3 => ?_, fun v3 => ⟨⟨by omega, by omega⟩, fun _ => ?_⟩⟩
          · generalize (aUp m 634 (8 * i) v) = m3 at *
            have epa : pAc T n v (tT T n p) c = pT2 T n f1 f1 (tT T n p) c := if_pos v3
            refine rX12_readOrder_125 (k := K + 8) hE ⟨fun _ => o154 m3 (tT T n p) c s f1 f1 hr1 hq1 (Int.le_refl _) (by omega) (by omega) nx.2.1 hc hc2 ⟨f0', ⟨fun w => absurd v3 w, fun _ => by rw [fz 1 (by decide) (by decide), fz 2 (by decide) (by decide)]⟩, ⟨fun w => absurd w (by omega), fun _ => by rw [fz 3 (by decide) (by decide), fz 4 (by decide) (by decide)]⟩⟩ (by rw [ec, epa]), fun w => absurd w (by omega)⟩
          · generalize (aUp m 634 (8 * i) v) = m3 at *
            have epa : pAc T n v (tT T n p) c = pA2 T n v (pSum true T n 8 (tT T n p) c) := if_neg v3
            rw [epa] at ec
            refine m_readSum (K := K) hE hT hq1 (iKs2_Q hr1.1 hK) ⟨by omega, by omega⟩ (by omega) nx.2.1 hc hc2 hs0 (by omega) (fun y hy m4 c1 c2 c3 => m_ord125B hE hi2 c2 fun m5 d1 d2 d3 => hF y (Or.inr ⟨hi12, by rw [ec, hy]; rfl⟩) m5 (mFq_tr (mFq_tr hr1.1 c1) d1) d2 (d3.trans c3)) (fun q d f hq m4 s4 c1 c2 c3 c4 c5 c6 c7 => ?_)
            obtain ⟨k1, k2, k3, k4, k5⟩ := pSum_ok hT1 8 _ _ _ _ _ (by omega) nx.2.1 hc hc2 hq
            have hbq := tF_b (T := T) k2
            have hs4 := c7.2.1
            have hr4 : oRel mem s i m4 := ⟨mFq_tr hr1.1 (fun o x z1 z2 z3 z4 z5 z6 z7 => c1 o x (by omega) (by omega) (by omega) (by omega) (by omega) (by omega)), mCd_tr hr1.2.1 c2 (Int.le_refl _), fun x hx => (c1 _ _ (by omega) (by omega) (by omega) (by omega) (by omega) (by omega)).trans (hr1.2.2.1 x hx), (c1 _ _ (by omega) (by omega) (by omega) (by omega) (by omega) (by omega)).trans hr1.2.2.2⟩
            have r4 : ∀ x, x ≠ 8 * i + 1 → x ≠ 8 * i + 2 → m4 634 x = m3 634 x := fun x _ _ => c1 _ _ (by omega) (by omega) (by omega) (by omega) (by omega) (by omega)
            rw [show 8 * i + 1 + 1 = 8 * i + 2 by omega] at c6
            have so1 : mSo m4 s4 (¬ v = 3) (m4 634 (8 * i + 1)) (m4 634 (8 * i + 2)) f := ⟨fun _ => by rw [c5, c6]; exact ⟨c7, Int.le_refl _⟩, fun w => absurd v3 w⟩
            have v4 : m4 634 (8 * i) = v := (r4 _ (by omega) (by omega)).trans f0'
            have z34 : m4 634 (8 * i + 3) = m4 634 (8 * i + 4) := by rw [r4 _ (by omega) (by omega), r4 _ (by omega) (by omega), fz 3 (by decide) (by decide), fz 4 (by decide) (by decide)]
            rw [hq] at ec
            refine rX12_readOrder_125 (k := K + 8) hE ⟨fun v0 => o154 m4 q d s4 f f1 hr4 c3 (by omega) (by omega) (by omega) k2 k3 k4 ⟨v4, so1, ⟨fun w => absurd w v0, fun _ => z34⟩⟩ (by rw [ec]; unfold pA2; dsimp only; rw [if_neg v0]), fun v0 => ⟨fun w => absurd c3.2.1 w, fun _ => ?_⟩⟩
            -- "at"
            have ea : pCl true T n p c = pC2 true T n v (if tW T n q = 52 then (match pSum true T n 8 (tT T n q) d with
                | .inr x => .inr x
                | .inl (q2, d2, g2) => pT2 T n f g2 q2 d2) else .inr (tF T n q)) := by rw [ec]; unfold pA2; dsimp only; rw [if_pos v0]; rfl
            refine m_isWordQ hE c3 (by decide) (by decide) (fun w r => m_mustT (k := K + 6) hE hT c3.1 c3.2.1 (by omega) k2 r (by decide) fun m5 d1 d2 => ?_) (fun w r => m_mustF (k := K + 6) hE c3.2.1 (m_ord147B hE hi2 ((aUp_nn (by omega)).trans aUp_re) fun m5 d1 d2 d3 => hF (tF T n q) (Or.inr ⟨hi12, by rw [ea, if_neg w]; rfl⟩) m5 (mFq_tr (mFq_tr hr4.1 (mFq_r mFr_bad)) d1) d2 (d3.trans (aUp_re.trans c3.1.2.1))))
            rw [if_pos w] at ea
            have nx5 := nx_b (T := T) k2 (by rw [tW_s (T := T) (n := n) (p := q) (by omega)]; decide)
            have hbx5 := tF_b (T := T) nx5.2.1
            have q5 := mQ_nx c3 d1 d2
            have hr5 := oRel_4 hr4 d1
            refine rX12_readOrder_147 (k := K + 8) hE ⟨⟨by omega, by omega⟩, fun _ => ?_⟩
            refine m_readSum (K := K) hE hT q5 (iKs2_Q hr5.1 hK) ⟨by omega, by omega⟩ (by omega) nx5.2.1 k3 k4 (by omega) (by omega) (fun y hy m6 e1 e2 e3 => m_ord154B hE hi2 e2 fun m7 g1 g2 g3 => hF y (Or.inr ⟨hi12, by rw [ea, hy]; rfl⟩) m7 (mFq_tr (mFq_tr hr5.1 e1) g1) g2 (g3.trans e3)) (fun q6 d6 f6 hq6 m6 s6 e1 e2 e3 e4 e5 e6 e7 => ?_)
            obtain ⟨l1, l2, l3, l4, l5⟩ := pSum_ok hT1 8 _ _ _ _ _ (by omega) nx5.2.1 k3 k4 hq6
            have hbq6 := tF_b (T := T) l2
            have hs6 := e7.2.1
            have hr6 : oRel mem s i m6 := ⟨mFq_tr hr5.1 (fun o x z1 z2 z3 z4 z5 z6 z7 => e1 o x (by omega) (by omega) (by omega) (by omega) (by omega) (by omega)), mCd_tr hr5.2.1 e2 (by omega), fun x hx => (e1 _ _ (by omega) (by omega) (by omega) (by omega) (by omega) (by omega)).trans (hr5.2.2.1 x hx), (e1 _ _ (by omega) (by omega) (by omega) (by omega) (by omega) (by omega)).trans hr5.2.2.2⟩
            have r6 : ∀ x, x ≠ 8 * i + 3 → x ≠ 8 * i + 4 → m6 634 x = m4 634 x := fun x _ _ => (e1 _ _ (by omega) (by omega) (by omega) (by omega) (by omega) (by omega)).trans (d1 _ _ (by omega))
            rw [show 8 * i + 3 + 1 = 8 * i + 4 by omega] at e6
            refine o154 m6 q6 d6 s6 f f6 hr6 e3 (by omega) (by omega) (by omega) l2 l3 l4 ⟨(r6 _ (by omega) (by omega)).trans v4, ?_, ⟨fun _ => by rw [e5, e6]; exact ⟨e7, Int.le_refl _⟩, fun w => absurd v0 w⟩⟩ (by rw [ea, hq6])
            rw [r6 (8 * i + 1) (by omega) (by omega), r6 (8 * i + 2) (by omega) (by omega)]
            exact mSo_cd (mCd_tr (mCd_4 d1) e2 (Int.le_refl _)) (by omega) so1
      have hr0 : oRel mem s i (aUp m1 603 21 (i + 1)) := ⟨fun o x z1 z2 z3 z4 z5 z6 z7 => (aUp_nn (by omega)).trans (a1 o x (by omega)), fun x _ => ⟨(aUp_nn (by omega)).trans (a1 _ _ (by omega)), (aUp_nn (by omega)).trans (a1 _ _ (by omega))⟩, fun x _ => (aUp_nn (by omega)).trans (a1 _ _ (by omega)), aUp_re⟩
      exact clr 8 0 _ rfl hr0 (fun x x0 x1 => absurd x1 (by omega)) (mQ_fr st1 fun o x w => aUp_nn (by omega))
  refine eX12_readOrder (rX12_readOrder_0 (k := K + 8) hE ?_)
  have := heads 4 0 rfl
  have e : fnd (vIx true (tW T n p)) 0 0 = -1 := if_neg (by omega)
  rw [e] at this
  exact this
