-- the model reads a CLAUSE of a LAW
def mQ (m : Mm) (T : Rw) (n : Int) (od : Bool) (p c s : Int) : Prop := mTk m T n p ∧ m 603 19 = 0 ∧ m 603 20 = (if od = true then 1 else 0) ∧ m 603 23 = s ∧ m 603 26 = c
theorem mQ_st {m : Mm} {T : Rw} {n : Int} {od : Bool} {p c s opd : Int} {P : List (Int × Int)} (h : mSt m T n od p c s P opd) : mQ m T n od p c s := ⟨h.1, h.2.1, h.2.2.1, h.2.2.2.1, h.2.2.2.2.1⟩
theorem mQ_nx {m m2 : Mm} {T : Rw} {n : Int} {od : Bool} {p c s q : Int} (h : mQ m T n od p c s) (hf : mF4 m m2) (hk : mTk m2 T n q) : mQ m2 T n od q c s := ⟨hk, (hf _ _ (by omega)).trans h.2.1, (hf _ _ (by omega)).trans h.2.2.1, (hf _ _ (by omega)).trans h.2.2.2.1, (hf _ _ (by omega)).trans h.2.2.2.2⟩
theorem mQ_fr {m m2 : Mm} {T : Rw} {n : Int} {od : Bool} {p c s : Int} (h : mQ m T n od p c s) (hf : ∀ o i, (o = 603 ∧ ((13 ≤ i ∧ i ≤ 20) ∨ i = 23 ∨ i = 26)) ∨ o = 612 → m2 o i = m o i) : mQ m2 T n od p c s := ⟨mTk_fr h.1 fun o i z => hf o i (by omega), (hf _ _ (by omega)).trans h.2.1, (hf _ _ (by omega)).trans h.2.2.1, (hf _ _ (by omega)).trans h.2.2.2.1, (hf _ _ (by omega)).trans h.2.2.2.2⟩
def mFq (m m2 : Mm) : Prop := ∀ o i, o ≠ 613 → o ≠ 614 → o ≠ 615 → o ≠ 616 → o ≠ 617 → o ≠ 634 → ¬ (o = 603 ∧ ((14 ≤ i ∧ i ≤ 19) ∨ i = 21 ∨ i = 23 ∨ i = 26 ∨ i = 29 ∨ i = 30)) → m2 o i = m o i
theorem mFq_rf {m : Mm} : mFq m m := fun _ _ _ _ _ _ _ _ _ => rfl
theorem mFq_tr {m m2 m3 : Mm} (h : mFq m m2) (h2 : mFq m2 m3) : mFq m m3 := fun o i a b c d e f g => (h2 o i a b c d e f g).trans (h o i a b c d e f g)
theorem mFq_r {m m2 : Mm} (h : mFr m m2) : mFq m m2 := fun o i _ b c d e _ g => h o i b c d e fun z => g ⟨z.1, by omega⟩
theorem mFq_4 {m m2 : Mm} (h : mF4 m m2) : mFq m m2 := mFq_r (mFr_4 h)
theorem mFq_1 {m : Mm} {j v : Int} : mFq m (aUp m 613 j v) := fun o i a _ _ _ _ _ _ => aUp_nn (by omega)
theorem mFq_2 {m : Mm} {j v : Int} : mFq m (aUp m 634 j v) := fun o i _ _ _ _ _ a _ => aUp_nn (by omega)
theorem iKs2_Q {m m2 : Mm} (h : mFq m m2) (hK : iKs2 m) : iKs2 m2 := iKs2_fr (fun o i z => h o i (by omega) (by omega) (by omega) (by omega) (by omega) (by omega) (by omega)) hK
/-- an "if" of a CLAUSE at lo, hi -/
def mIf (od : Bool) (m : Mm) (s lo hi : Int) (F : Rw → Int) : Prop := (hi ≤ lo ∧ ∀ w, F w = 1) ∨ (lo < hi ∧ mSg od (m 614) (m 615) lo hi F ∧ hi ≤ s)
def mLw (m : Mm) (s i : Int) (cl : CLd) : Prop := m 613 (8 * i) = cl.1 ∧ (cl.1 < 2 → mSg false (m 614) (m 615) (m 613 (8 * i + 3)) (m 613 (8 * i + 4)) cl.2.2.1 ∧ m 613 (8 * i + 4) ≤ s) ∧ mIf false m s (m 613 (8 * i + 5)) (m 613 (8 * i + 6)) cl.2.2.2.2
theorem mIf_cd {od : Bool} {m m2 : Mm} {s s2 lo hi : Int} {F : Rw → Int} (hc : mCd s m m2) (hs : s ≤ s2) (h : mIf od m s lo hi F) : mIf od m2 s2 lo hi F := by
  rcases h with q | ⟨a, b, c⟩
  · exact Or.inl q
  · exact Or.inr ⟨a, mSg_cd hc c b, by omega⟩
theorem mLw_fr {m m2 : Mm} {s s2 i : Int} {cl : CLd} (hc : mCd s m m2) (hs : s ≤ s2) (hr : ∀ j, 8 * i ≤ j → j < 8 * i + 8 → m2 613 j = m 613 j) (h : mLw m s i cl) : mLw m2 s2 i cl := by
  obtain ⟨a, b, c⟩ := h
  unfold mLw
  rw [hr _ (by omega) (by omega), hr (8 * i + 3) (by omega) (by omega), hr (8 * i + 4) (by omega) (by omega), hr (8 * i + 5) (by omega) (by omega), hr (8 * i + 6) (by omega) (by omega)]
  exact ⟨a, fun z => ⟨mSg_cd hc (b z).2 (b z).1, by have := (b z).2; omega⟩, mIf_cd hc hs c⟩
theorem m_isWordQ {E : EN} (hE : Ep E) {k : Nat} {mem : Mm} {Q : Int → Mm → Prop} {T : Rw} {n : Int} {od : Bool} {p c s h : Int} (hq : mQ mem T n od p c s) (h0 : 0 < h) (h1 : h < 1000000000) (hQ1 : tW T n p = h → Q 1 mem) (hQ0 : ¬ tW T n p = h → Q 0 mem) : CI E mX12_isWord k mem [aR 603, aL h] Q := m_isWord hE hq.1 h0 h1 hQ1 hQ0
theorem m_nextQ {E : EN} (hE : Ep E) {k : Nat} {mem : Mm} {Q : Mm → Prop} {T : Rw} {n : Int} {od : Bool} {p c s : Int} (hT : tOk T n) (h : mQ mem T n od p c s) (hp : 0 ≤ p) (hpn : p ≤ n) (hQ : ∀ m2, mF4 mem m2 → mQ m2 T n od (tT T n p) c s → Q m2) : CV E mX12_next (k + 1) mem [aR 603] Q := by
  have a := tF_b (T := T) hpn
  have b := tT_b (T := T) hpn
  exact m_next hE hT h.1.1 h.1.2.2.1 (by omega) b.2.1 fun m2 x y => hQ m2 x (mQ_nx h x y)
/-- the "if" of a LAW's CLAUSE -/
theorem m_lawIf {E : EN} (hE : Ep E) {K : Nat} {mem : Mm} {Q : Mm → Prop} {T : Rw} {n : Int} {q d s i v : Int} {g1 : Rw → Int} (hT : tOk T n) (hst : mQ mem T n false q d s) (hK : iKs2 mem) (hi : 0 ≤ i ∧ i < 12) (hq : 0 ≤ q) (hqn : q ≤ n) (hd : 0 ≤ d) (hd2 : d ≤ 50) (hs0 : 0 ≤ s) (hsp : s ≤ tF T n q) (h1 : mem 613 (8 * i) = v) (h2 : v < 2 → mSg false (mem 614) (mem 615) (mem 613 (8 * i + 3)) s g1)
    (hF : ∀ y, pIf false T n q d = .inr y → ∀ m2, mFq mem m2 → m2 603 19 = 1 → m2 603 18 = y → Q m2)
    (hO : ∀ q4 d4 g4, pIf false T n q d = .inl (q4, d4, g4) → ∀ m2 s2, mFq mem m2 → mCd s mem m2 → (∀ j, j < 8 * i → m2 613 j = mem 613 j) → m2 603 21 = mem 603 21 → mQ m2 T n false q4 d4 s2 → s ≤ s2 → s2 ≤ tF T n q4 → (∀ t3 g2, mLw m2 s2 i (v, t3, g1, g2, g4)) → Q m2) : VM E mX12_readLaw (K + 7 + 1) mem 135 [(0, aR 603), (2, aI (8 * i))] [] (retV Q) := by
  have hT1 := hT.2.1
  have hbF := tF_b (T := T) hqn
  refine rX12_readLaw_135 (k := K + 7) hE ⟨⟨by omega, by omega⟩, ⟨by omega, by omega⟩, ⟨by omega, by omega⟩, ⟨by omega, by omega⟩, fun z => absurd hst.2.1 z, fun _ => ?_⟩
  rw [hst.2.2.2.1]
  have fs : ∀ o j, ¬ (o = 613 ∧ (j = 8 * i + 4 ∨ j = 8 * i + 5)) → (aUp (aUp mem 613 (8 * i + 4) s) 613 (8 * i + 5) s) o j = mem o j := fun o j z => by rw [aUp_nn (by omega), aUp_nn (by omega)]
  have f4 : (aUp (aUp mem 613 (8 * i + 4) s) 613 (8 * i + 5) s) 613 (8 * i + 4) = s := by rw [aUp_nn (by omega), aUp_re]
  have f5 : (aUp (aUp mem 613 (8 * i + 4) s) 613 (8 * i + 5) s) 613 (8 * i + 5) = s := aUp_re
  generalize (aUp (aUp mem 613 (8 * i + 4) s) 613 (8 * i + 5) s) = m1 at *
  have fq1 : mFq mem m1 := fun o j a _ _ _ _ _ _ => fs o j (by omega)
  have st1 : mQ m1 T n false q d s := mQ_fr hst fun o j z => fs o j (by omega)
  have e185 : ∀ m2, Q (aUp m2 613 (8 * i + 6) (m2 603 23)) → VM E mX12_readLaw (K + 7 + 1) m2 185 [(0, aR 603), (2, aI (8 * i))] [] (retV Q) := fun m2 h => rX12_readLaw_185 hE ⟨⟨by omega, by omega⟩, ⟨by omega, by omega⟩, h⟩
  refine m_isWordQ hE st1 (by decide) (by decide) (fun w => ⟨fun z => absurd z (by decide), fun _ => ?_⟩) (fun w => ⟨fun _ => e185 _ ?_, fun z => absurd rfl z⟩)
  · have ep : pIf false T n q d = pTest false T n 8 (tT T n q) d := if_pos w
    have nx := nx_b (T := T) hqn (by rw [tW_s (T := T) (n := n) (p := q) (by omega)]; decide)
    have hbx := tF_b (T := T) nx.2.1
    have hil := w_len (T := T) (u := [105, 102]) hqn (by decide : _ = (294 : Int)) (by decide) (by decide) (by decide) (by decide) w
    have hil2 : ((([105, 102] : List Int).length : Nat) : Int) = 2 := rfl
    refine m_nextQ (k := K + 6) hE hT st1 hq hqn fun m2 a1 a2 => ?_
    have fq2 := mFq_tr fq1 (mFq_4 a1)
    refine m_exprT (K := K) hE hT a2.1 a2.2.1 a2.2.2.1 a2.2.2.2.1 a2.2.2.2.2 (iKs2_Q fq2 hK) (by omega) nx.2.1 hd hd2 hs0 (by omega) (fun y hy m3 b1 b2 b3 => e185 _ (hF y (by rw [ep]; exact hy) _ (mFq_tr (mFq_tr fq2 (mFq_r b1)) mFq_1) ((aUp_nn (by omega)).trans b2) ((aUp_nn (by omega)).trans b3))) (fun q4 d4 g4 h4 m3 s3 b1 b2 b3 b4 b5 => e185 _ ?_)
    obtain ⟨k1, k2, k3, k4, k5⟩ := pTest_ok hT1 8 _ _ _ _ _ (by omega) nx.2.1 hd hd2 h4
    have hs3 := b5.2.1
    have row : ∀ j, m3 613 j = m1 613 j := fun j => (b1 _ _ (by omega) (by omega) (by omega) (by omega) (by omega)).trans (a1 _ _ (by omega))
    have e21 : m3 603 21 = mem 603 21 := by rw [b1 _ _ (by omega) (by omega) (by omega) (by omega) (by omega), a1 _ _ (by omega)]; exact fs _ _ (by omega)
    rw [b3.2.2.2.1]
    have gs : ∀ o j, ¬ (o = 613 ∧ j = 8 * i + 6) → (aUp m3 613 (8 * i + 6) s3) o j = m3 o j := fun o j z => aUp_nn z
    have cdA : mCd s mem m3 := mCd_tr (mCd_tr (fun j _ => ⟨fs _ _ (by omega), fs _ _ (by omega)⟩) (mCd_4 a1) (Int.le_refl _)) b2 (Int.le_refl _)
    have cdB : mCd s mem (aUp m3 613 (8 * i + 6) s3) := mCd_tr cdA (fun j _ => ⟨gs _ _ (by omega), gs _ _ (by omega)⟩) (Int.le_refl _)
    refine hO q4 d4 g4 (by rw [ep]; exact h4) _ s3 (mFq_tr (mFq_tr fq2 (mFq_r b1)) mFq_1) cdB (fun j hj => by rw [gs _ _ (by omega), row, fs _ _ (by omega)]) ((gs _ _ (by omega)).trans e21) (mQ_fr (mQ_st b3) fun o j z => gs o j (by omega)) (by omega) (by omega) fun t3 g2 => ⟨?_, fun z => ⟨?_, ?_⟩, ?_⟩
    · show (aUp m3 613 (8 * i + 6) s3) 613 (8 * i) = v
      rw [gs _ _ (by omega), row, fs _ _ (by omega)]; exact h1
    · show mSg false _ _ ((aUp m3 613 (8 * i + 6) s3) 613 (8 * i + 3)) ((aUp m3 613 (8 * i + 6) s3) 613 (8 * i + 4)) g1
      rw [gs _ (8 * i + 3) (by omega), gs _ (8 * i + 4) (by omega), row, row, fs _ _ (by omega), f4]
      exact mSg_cd cdB (Int.le_refl _) (h2 z)
    · rw [gs _ _ (by omega), row, f4]; omega
    · show mIf false _ s3 ((aUp m3 613 (8 * i + 6) s3) 613 (8 * i + 5)) ((aUp m3 613 (8 * i + 6) s3) 613 (8 * i + 6)) g4
      rw [gs _ (8 * i + 5) (by omega), row, f5, aUp_re]
      exact Or.inr ⟨hs3, mSg_cd (s := s3) (fun j _ => ⟨gs _ _ (by omega), gs _ _ (by omega)⟩) (Int.le_refl _) b5, Int.le_refl _⟩
  · rw [st1.2.2.2.1]
    have gs : ∀ o j, ¬ (o = 613 ∧ j = 8 * i + 6) → (aUp m1 613 (8 * i + 6) s) o j = m1 o j := fun o j z => aUp_nn z
    have cdB : mCd s mem (aUp m1 613 (8 * i + 6) s) := fun j _ => ⟨(gs _ _ (by omega)).trans (fs _ _ (by omega)), (gs _ _ (by omega)).trans (fs _ _ (by omega))⟩
    refine hO q d f1 (if_neg w) _ s (mFq_tr fq1 mFq_1) cdB (fun j hj => by rw [gs _ _ (by omega), fs _ _ (by omega)]) ((gs _ _ (by omega)).trans (fs _ _ (by omega))) (mQ_fr st1 fun o j z => gs o j (by omega)) (Int.le_refl _) hsp fun t3 g2 => ⟨?_, fun z => ⟨?_, ?_⟩, ?_⟩
    · show (aUp m1 613 (8 * i + 6) s) 613 (8 * i) = v
      rw [gs _ _ (by omega), fs _ _ (by omega)]; exact h1
    · show mSg false _ _ ((aUp m1 613 (8 * i + 6) s) 613 (8 * i + 3)) ((aUp m1 613 (8 * i + 6) s) 613 (8 * i + 4)) g1
      rw [gs _ (8 * i + 3) (by omega), gs _ (8 * i + 4) (by omega), fs _ _ (by omega), f4]
      exact mSg_cd cdB (Int.le_refl _) (h2 z)
    · rw [gs _ _ (by omega), f4]; exact Int.le_refl _
    · show mIf false _ s ((aUp m1 613 (8 * i + 6) s) 613 (8 * i + 5)) ((aUp m1 613 (8 * i + 6) s) 613 (8 * i + 6)) f1
      rw [gs _ (8 * i + 5) (by omega), f5, aUp_re]
      exact Or.inl ⟨Int.le_refl _, fun _ => rfl⟩
theorem m_law135B {E : EN} (hE : Ep E) {K : Nat} {mem : Mm} {Q : Mm → Prop} {i : Int} (hi : 0 ≤ i ∧ i < 12) (hb : mem 603 19 = 1) (hQ : ∀ m2, mFq mem m2 → m2 603 19 = 1 → m2 603 18 = mem 603 18 → Q m2) : VM E mX12_readLaw (K + 7 + 1) mem 135 [(0, aR 603), (2, aI (8 * i))] [] (retV Q) := by
  refine rX12_readLaw_135 (k := K + 7) hE ⟨⟨by omega, by omega⟩, ⟨by omega, by omega⟩, ⟨by omega, by omega⟩, ⟨by omega, by omega⟩, fun _ => rX12_readLaw_185 hE ⟨⟨by omega, by omega⟩, ⟨by omega, by omega⟩, hQ _ (mFq_tr (mFq_tr mFq_1 mFq_1) mFq_1) ?_ ?_⟩, fun z => absurd (hb.symm.trans z) (by decide)⟩
  · rw [aUp_nn (by omega), aUp_nn (by omega), aUp_nn (by omega)]; exact hb
  · rw [aUp_nn (by omega), aUp_nn (by omega), aUp_nn (by omega)]
theorem fnd_v {od : Bool} {h : Int} : fnd (vIx od h) 0 4 = vIx od h := by
  have := vIx_b od h
  unfold fnd
  split <;> omega
theorem m_readLaw {E : EN} (hE : Ep E) {K : Nat} {mem : Mm} {Q : Mm → Prop} {T : Rw} {n : Int} {p c s i : Int} (hT : tOk T n) (hst : mQ mem T n false p c s) (hK : iKs2 mem) (h21 : mem 603 21 = i) (hi : 0 ≤ i ∧ i ≤ 12) (hp : 0 ≤ p) (hpn : p ≤ n) (hc : 0 ≤ c) (hc2 : c ≤ 50) (hs0 : 0 ≤ s) (hsp : s ≤ tF T n p)
    (hF : ∀ y, ((i = 12 ∧ y = tF T n p) ∨ (i < 12 ∧ pCl false T n p c = .inr y)) → ∀ m2, mFq mem m2 → m2 603 19 = 1 → m2 603 18 = y → Q m2)
    (hO : ∀ q d cl, i < 12 → pCl false T n p c = .inl (q, d, cl) → ∀ m2 s2, mFq mem m2 → mCd s mem m2 → (∀ j, j < 8 * i → m2 613 j = mem 613 j) → m2 603 21 = i + 1 → mQ m2 T n false q d s2 → s ≤ s2 → s2 ≤ tF T n q → mLw m2 s2 i cl → Q m2) : CV E mX12_readLaw (K + 7 + 1) mem [aR 603] Q := by
  have hT1 := hT.2.1
  have hbF := tF_b (T := T) hpn
  have hvb := vIx_b false (tW T n p)
  have bad : (i = 12 ∨ vIx false (tW T n p) = -1) → CV E mX12_must (K + 7) mem [aR 603, aI 0] (fun m1 => (((m1 603 19) = 0 → (R32 (8 * (m1 603 21))) ∧ VM E mX12_readLaw (K + 7 + 1) m1 75 [(0, aR 603), (1, aI (vIx false (tW T n p))), (2, aI (8 * (m1 603 21))), (3, aI 0)] [] (retV Q)) ∧ (¬ (m1 603 19) = 0 → Q m1))) := by
    intro z
    have e : (aUp (aUp mem 603 19 1) 603 18 (mem 603 14)) 603 19 = 1 := (aUp_nn (by omega)).trans aUp_re
    refine m_mustF (k := K + 5) hE hst.2.1 ⟨fun y => absurd (e.symm.trans y) (by decide), fun _ => ?_⟩
    refine hF (tF T n p) ?_ _ (mFq_r mFr_bad) e (aUp_re.trans hst.1.2.1)
    by_cases h12 : i = 12
    · exact Or.inl ⟨h12, rfl⟩
    · exact Or.inr ⟨by omega, if_pos (z.resolve_left h12)⟩
  -- the heads
  have heads : ∀ (d j : Nat), j + d = 4 → VM E mX12_readLaw (K + 7 + 1) mem 4 [(0, aR 603), (1, aI (fnd (vIx false (tW T n p)) 0 j)), (2, aI j)] [] (retV Q) := by
    have nd := (wh_ok ⟨1, by decide⟩ (Or.inl (by decide))).1
    have hW : ixL (whL 1) (tW T n p) 0 = vIx false (tW T n p) := rfl
    intro d
    induction d with
    | zero =>
      intro j hj
      obtain rfl : j = 4 := by omega
      rw [fnd_v]
      refine rX12_readLaw_4 (k := K + 7) hE ⟨fun _ => ⟨fun z => bad (Or.inr z), fun z => ?_⟩, fun y => absurd y (by omega)⟩
      rw [h21]
      refine ⟨fun y => bad (Or.inl (by omega)), fun y => m_mustT (k := K + 5) hE hT hst.1 hst.2.1 hp hpn (by decide) (by decide) fun m1 a1 a2 => ?_⟩
      have st1 := mQ_nx hst a1 a2
      have e21 : m1 603 21 = i := (a1 _ _ (by omega)).trans h21
      refine ⟨fun _ => ?_, fun x => absurd st1.2.1 x⟩
      rw [e21]
      refine ⟨⟨by omega, by omega⟩, ?_⟩
      have ec : pCl false T n p c = pC2 false T n (vIx false (tW T n p)) (pBd false T n (vIx false (tW T n p)) (tT T n p) c) := if_neg z
      generalize hv : vIx false (tW T n p) = v at *
      have big := tW_big (T := T) hpn (by omega)
      have nx := nx_b (T := T) hpn (by omega : ¬ tS T n p = 0)
      have hbx := tF_b (T := T) nx.2.1
      -- the row is cleared
      have clr : ∀ (d j : Nat) (m2 : Mm), j + d = 8 → mFq m1 m2 → mCd s m1 m2 → (∀ x, x < 8 * i → m2 613 x = m1 613 x) → m2 603 21 = i → mQ m2 T n false (tT T n p) c s → VM E mX12_readLaw (K + 7 + 1) m2 75 [(0, aR 603), (1, aI v), (2, aI (8 * i)), (3, aI j)] [] (retV Q) := by
        intro d
        induction d with
        | zero =>
          intro j m2 hj b1 b2 b3 b4 b5
          obtain rfl : j = 8 := by omega
          refine rX12_readLaw_75 (k := K + 7) hE ⟨fun _ => ?_, fun x => absurd x (by omega)⟩
          rw [b4, b5.2.2.2.1]
          refine ⟨⟨by omega, by omega⟩, ⟨by omega, by omega⟩, ⟨by omega, by omega⟩, ⟨by omega, by omega⟩, ?_⟩
          have fs : ∀ o x, ¬ (o = 613 ∧ (x = 8 * i ∨ x = 8 * i + 3)) → ¬ (o = 603 ∧ x = 21) → (aUp (aUp (aUp m2 613 (8 * i) v) 603 21 (i + 1)) 613 (8 * i + 3) s) o x = m2 o x := fun o x y1 y2 => by rw [aUp_nn (by omega), aUp_nn (by omega), aUp_nn (by omega)]
          have f0 : (aUp (aUp (aUp m2 613 (8 * i) v) 603 21 (i + 1)) 613 (8 * i + 3) s) 613 (8 * i) = v := by rw [aUp_nn (by omega), aUp_nn (by omega), aUp_re]
          have f3 : (aUp (aUp (aUp m2 613 (8 * i) v) 603 21 (i + 1)) 613 (8 * i + 3) s) 613 (8 * i + 3) = s := aUp_re
          have f21 : (aUp (aUp (aUp m2 613 (8 * i) v) 603 21 (i + 1)) 613 (8 * i + 3) s) 603 21 = i + 1 := by rw [aUp_nn (by omega), aUp_re]
          generalize (aUp (aUp (aUp m2 613 (8 * i) v) 603 21 (i + 1)) 613 (8 * i + 3) s) = m3 at *
          have fq3 : mFq mem m3 := mFq_tr (mFq_tr (mFq_4 a1) b1) fun o x y1 y2 y3 y4 y5 y6 y7 => fs o x (by omega) (by omega)
          have cd3 : mCd s mem m3 := mCd_tr (mCd_tr (mCd_4 a1) b2 (Int.le_refl _)) (fun x _ => ⟨fs _ _ (by omega) (by omega), fs _ _ (by omega) (by omega)⟩) (Int.le_refl _)
          have lo3 : ∀ x, x < 8 * i → m3 613 x = mem 613 x := fun x hx => by rw [fs _ _ (by omega) (by omega), b3 x hx]; exact a1 _ _ (by omega)
          have st3 : mQ m3 T n false (tT T n p) c s := mQ_fr b5 fun o x y => fs o x (by omega) (by omega)
          have epb : pBd false T n v (tT T n p) c = pLs T n v (tT T n p) c := rfl
          refine ⟨fun hv2 => ?_, fun hv2 => ?_⟩
          · have epl : pLs T n v (tT T n p) c = .inl (tT T n p, c, 1, f1, f1) := if_neg (by omega)
            rw [epb, epl] at ec
            refine m_lawIf (K := K) (v := v) (g1 := f1) hE hT st3 (iKs2_Q fq3 hK) ⟨by omega, by omega⟩ (by omega) nx.2.1 hc hc2 hs0 (by omega) f0 (fun y => absurd y (by omega)) (fun y hy m4 d1 d2 d3 => hF y (Or.inr ⟨by omega, ?_⟩) m4 (mFq_tr fq3 d1) d2 d3) (fun q4 d4 g4 h4 m4 s4 d1 d2 d3 d4' d5 d6 d7 d8 => hO q4 d4 (v, 1, f1, f1, g4) (by omega) ?_ m4 s4 (mFq_tr fq3 d1) (mCd_tr cd3 d2 (Int.le_refl _)) (fun x hx => (d3 x hx).trans (lo3 x hx)) (d4'.trans f21) d5 d6 d7 (d8 1 f1))
            · rw [ec]
              show sB (pIf false T n (tT T n p) c) _ = _
              rw [hy]; rfl
            · rw [ec]
              show sB (pIf false T n (tT T n p) c) _ = _
              rw [h4]; rfl
          · have epl : pLs T n v (tT T n p) c = pL2 (pSum false T n 8 (tT T n p) c) := if_pos hv2
            rw [epb, epl] at ec
            refine m_exprS (K := K) hE hT st3.1 st3.2.1 st3.2.2.1 st3.2.2.2.1 st3.2.2.2.2 (iKs2_Q fq3 hK) (by omega) nx.2.1 hc hc2 hs0 (by omega) (fun y hy m4 d1 d2 d3 => m_law135B hE ⟨by omega, by omega⟩ d2 fun m5 e1 e2 e3 => hF y (Or.inr ⟨by omega, ?_⟩) m5 (mFq_tr (mFq_tr fq3 (mFq_r d1)) e1) e2 (e3.trans d3)) (fun q4 d4 g4 h4 m4 s4 d1 d2 d3 d5 d6 => ?_)
            · rw [ec, hy]; rfl
            obtain ⟨k1, k2, k3, k4, k5⟩ := pSum_ok hT1 8 _ _ _ _ _ (by omega) nx.2.1 hc hc2 h4
            have hb4 := tF_b (T := T) k2
            have hs4 := d6.2.1
            rw [h4] at ec
            have row4 : ∀ x, m4 613 x = m3 613 x := fun x => d1 _ _ (by omega) (by omega) (by omega) (by omega) (by omega)
            have fq4 := mFq_tr fq3 (mFq_r d1)
            refine m_lawIf (K := K) (v := v) (g1 := g4) hE hT (mQ_st d3) (iKs2_Q fq4 hK) ⟨by omega, by omega⟩ (by omega) k2 k3 k4 (by omega) (by omega) ((row4 _).trans f0) (fun _ => by rw [row4, f3]; exact d6) (fun y hy m5 e1 e2 e3 => hF y (Or.inr ⟨by omega, ?_⟩) m5 (mFq_tr fq4 e1) e2 e3) (fun q5 d5' g5 h5 m5 s5 e1 e2 e3 e4 e5 e6 e7 e8 => hO q5 d5' (v, 1, g4, f1, g5) (by omega) ?_ m5 s5 (mFq_tr fq4 e1) (mCd_tr (mCd_tr cd3 d2 (Int.le_refl _)) e2 (by omega)) (fun x hx => (e3 x hx).trans ((row4 x).trans (lo3 x hx))) (e4.trans ((d1 _ _ (by omega) (by omega) (by omega) (by omega) (by omega)).trans f21)) e5 (by omega) e7 (e8 1 f1))
            · rw [ec]
              show sB (pIf false T n q4 d4) _ = _
              rw [hy]; rfl
            · rw [ec]
              show sB (pIf false T n q4 d4) _ = _
              rw [h5]; rfl
        | succ d ih =>
          intro j m2 hj b1 b2 b3 b4 b5
          refine rX12_readLaw_75 (k := K + 7) hE ⟨fun x => absurd x (by omega), fun _ => ⟨⟨by omega, by omega⟩, ⟨by omega, by omega⟩, ⟨by omega, by omega⟩, ?_⟩⟩
          have := ih (j + 1) (aUp m2 613 (8 * i + j) 0) (by omega) (mFq_tr b1 mFq_1) (mCd_tr b2 (fun x _ => ⟨aUp_nn (by omega), aUp_nn (by omega)⟩) (Int.le_refl _)) (fun x hx => by rw [aUp_nn (by omega)]; exact b3 x hx) ((aUp_nn (by omega)).trans b4) (mQ_fr b5 fun o x y => aUp_nn (by omega))
          exact this
      exact clr 8 0 m1 rfl mFq_rf mCd_rf (fun _ _ => rfl) e21 st1
    | succ d ih =>
      intro j hj
      have hlen : (whL 1).length = 4 := rfl
      have hc' := wh_c (i := 1) (k := j) (Or.inl (by decide)) (by omega)
      have hx := ixL_iff (h := tW T n p) (whL 1) 0 (by omega) nd j (by omega)
      rw [hW, Int.zero_add] at hx
      refine rX12_readLaw_4 (k := K + 7) hE ⟨fun z => absurd z (by omega), fun _ => ⟨⟨by omega, by omega⟩, fun _ => ?_⟩⟩
      rw [hK.2.2.1 j (by omega)]
      refine m_isWord hE hst.1 hc'.1 hc'.2 (fun q => ⟨fun z => absurd z (by decide), fun _ => ⟨⟨by omega, by omega⟩, ?_⟩⟩) (fun q => ⟨fun _ => ⟨⟨by omega, by omega⟩, ?_⟩, fun z => absurd rfl z⟩)
      · have := ih (j + 1) (by omega)
        rw [fnd_1 (hx.mp q), Int.add_zero] at this
        exact this
      · have := ih (j + 1) (by omega)
        rw [fnd_0 fun z => q (hx.mpr z)] at this
        exact this
  refine eX12_readLaw (rX12_readLaw_0 (k := K + 7) hE ?_)
  have := heads 4 0 rfl
  have e : fnd (vIx false (tW T n p)) 0 0 = -1 := if_neg (by omega)
  rw [e] at this
  exact this
