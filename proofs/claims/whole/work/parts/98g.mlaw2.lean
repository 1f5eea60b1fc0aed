-- the model's law()
def mFt (m m2 : Mm) : Prop := ∀ o i, o ≠ 613 → o ≠ 614 → o ≠ 615 → o ≠ 616 → o ≠ 617 → o ≠ 634 → ¬ (o = 603 ∧ ((13 ≤ i ∧ i ≤ 21) ∨ i = 23 ∨ i = 26 ∨ i = 29 ∨ i = 30)) → m2 o i = m o i
theorem mFt_q {m m2 : Mm} (h : mFq m m2) : mFt m m2 := fun o i a b c d e f g => h o i a b c d e f fun z => g ⟨z.1, by omega⟩
theorem mFt_tr {m m2 m3 : Mm} (h : mFt m m2) (h2 : mFt m2 m3) : mFt m m3 := fun o i a b c d e f g => (h2 o i a b c d e f g).trans (h o i a b c d e f g)
theorem mFt_rf {m : Mm} : mFt m m := fun _ _ _ _ _ _ _ _ _ => rfl
theorem mFt_e {m : Mm} : mFt m (aUp (aUp m 603 20 0) 603 13 0) := fun o i _ _ _ _ _ _ g => by rw [aUp_nn (by omega), aUp_nn (by omega)]
theorem m_endB {E : EN} (hE : Ep E) {k : Nat} {mem : Mm} {Q : Mm → Prop} (hb : ¬ mem 603 19 = 0 ∨ mem 603 16 = 0) (hQ : Q (aUp (aUp mem 603 20 0) 603 13 0)) : CV E mX12_endText (k + 1) mem [aR 603] Q :=
  eX12_endText (rX12_endText_0 hE ⟨fun _ => hQ, fun z => ⟨fun _ => hQ, fun y => absurd hb (by omega)⟩⟩)
theorem m_endF {E : EN} (hE : Ep E) {k : Nat} {mem : Mm} {Q : Mm → Prop} (hb : mem 603 19 = 0) (hs : ¬ mem 603 16 = 0) (hQ : Q (aUp (aUp (aUp (aUp mem 603 19 1) 603 18 (mem 603 14)) 603 20 0) 603 13 0)) : CV E mX12_endText (k + 2 + 1) mem [aR 603] Q :=
  eX12_endText (rX12_endText_0 (k := k + 2) hE ⟨fun z => absurd hb z, fun _ => ⟨fun y => absurd y hs, fun _ => m_mustF hE hb hQ⟩⟩)
theorem m_begin {E : EN} (hE : Ep E) {k : Nat} {mem : Mm} {Q : Mm → Prop} {od : Bool} {T : Rw} {n : Int} (hT : tOk T n) (h13 : mem 603 13 = n) (h612 : ∀ i, 0 ≤ i → i < n → mem 612 i = T i) (hQ : ∀ m2, mFt mem m2 → mQ m2 T n od 0 0 0 → m2 603 21 = 0 → Q m2) : CV E mX12_beginText (k + 3) mem [aR 603, aI (if od = true then 1 else 0)] Q := by
  have hod : (if od = true then (1 : Int) else 0) = 0 ∨ (if od = true then (1 : Int) else 0) = 1 := by split <;> omega
  generalize hw : (if od = true then (1 : Int) else 0) = w at hod
  refine eX12_beginText (k := k + 2) (by rcases hod with rfl | rfl <;> decide) (rX12_beginText_0 (k := k + 2) hE ⟨hod, eX12_begin (k := k + 1) (rX12_begin_0 (k := k + 1) hE ?_)⟩)
  have fs : ∀ o i, ¬ (o = 603 ∧ (i = 15 ∨ i = 18 ∨ i = 19 ∨ i = 20)) → (aUp (aUp (aUp (aUp mem 603 20 w) 603 15 0) 603 19 0) 603 18 (-1)) o i = mem o i := fun o i z => by rw [aUp_nn (by omega), aUp_nn (by omega), aUp_nn (by omega), aUp_nn (by omega)]
  have f15 : (aUp (aUp (aUp (aUp mem 603 20 w) 603 15 0) 603 19 0) 603 18 (-1)) 603 15 = 0 := by rw [aUp_nn (by omega), aUp_nn (by omega), aUp_re]
  have f18 : (aUp (aUp (aUp (aUp mem 603 20 w) 603 15 0) 603 19 0) 603 18 (-1)) 603 18 = -1 := aUp_re
  have f19 : (aUp (aUp (aUp (aUp mem 603 20 w) 603 15 0) 603 19 0) 603 18 (-1)) 603 19 = 0 := by rw [aUp_nn (by omega), aUp_re]
  have f20 : (aUp (aUp (aUp (aUp mem 603 20 w) 603 15 0) 603 19 0) 603 18 (-1)) 603 20 = w := by rw [aUp_nn (by omega), aUp_nn (by omega), aUp_nn (by omega), aUp_re]
  generalize (aUp (aUp (aUp (aUp mem 603 20 w) 603 15 0) 603 19 0) 603 18 (-1)) = m1 at *
  refine m_next (k := k) hE hT ⟨⟨(fs _ _ (by omega)).trans h13, f18⟩, fun i u v => (fs _ _ (by omega)).trans (h612 i u v)⟩ f15 (by decide) hT.1 fun m2 a1 a2 => hQ _ (fun o i b1 b2 b3 b4 b5 b6 b7 => ?_) ⟨mTk_fr a2 fun o i z => ?_, ?_, ?_, ?_, ?_⟩ ?_
  · rw [aUp_nn (by omega), aUp_nn (by omega), aUp_nn (by omega), a1 o i (by omega)]; exact fs o i (by omega)
  · rw [aUp_nn (by omega), aUp_nn (by omega), aUp_nn (by omega)]
  · rw [aUp_nn (by omega), aUp_nn (by omega), aUp_nn (by omega), a1 _ _ (by omega)]; exact f19
  · rw [aUp_nn (by omega), aUp_nn (by omega), aUp_nn (by omega), a1 _ _ (by omega), f20, hw]
  · rw [aUp_nn (by omega), aUp_re]
  · rw [aUp_re]
  · rw [aUp_nn (by omega), aUp_nn (by omega), aUp_re]
theorem pCl_b {od : Bool} {T : Rw} {n p c q d : Int} {cl : CLd} (hT : n ≤ 400) (hp : 0 ≤ p) (hpn : p ≤ n) (hc : 0 ≤ c) (hc2 : c ≤ 50) (h : pCl od T n p c = .inl (q, d, cl)) : 0 ≤ q ∧ q ≤ n ∧ 0 ≤ d ∧ d ≤ 50 := by
  have hb := tF_b (T := T) hpn
  have hb2 := tT_b (T := T) hpn
  unfold pCl at h
  by_cases z : vIx od (tW T n p) = -1
  · rw [if_pos z] at h; cases h
  · rw [if_neg z] at h
    cases e : pBd od T n (vIx od (tW T n p)) (tT T n p) c with
    | inr x => rw [e] at h; cases h
    | inl v =>
      obtain ⟨q3, d3, t3, g1, g2⟩ := v
      rw [e] at h
      obtain ⟨k1, k2, k3, k4, k5, k6, k7, k8, k9⟩ := pBd_ok hT (by omega) hb2.2.1 hc hc2 e
      cases e2 : pIf od T n q3 d3 with
      | inr x =>
        have h : sB (pIf od T n q3 d3) _ = _ := h
        rw [e2] at h; cases h
      | inl v =>
        obtain ⟨q4, d4, g4⟩ := v
        have h : sB (pIf od T n q3 d3) (fun q4 d4 g4 => .inl (q4, d4, vIx od (tW T n p), t3, g1, g2, g4)) = .inl (q, d, cl) := h
        rw [e2] at h
        obtain ⟨l1, l2, l3, l4, l5, l6⟩ := pIf_ok hT k2 k3 k4 k5 e2
        have e3 := Sum.inl.inj h
        obtain rfl : q4 = q := congrArg (fun v => v.1) e3
        obtain rfl : d4 = d := congrArg (fun v => v.2.1) e3
        exact ⟨by omega, l3, l4, l5⟩
theorem m_lawL {E : EN} (hE : Ep E) {K : Nat} {m0 : Mm} {Q : Int → Mm → Prop} {T : Rw} {n : Int} {R : List CLd ⊕ Int} (hT : tOk T n) (hK : iKs2 m0) (h51 : 0 ≤ m0 605 1 ∧ m0 605 1 < 6)
    (hBad : ∀ x, R = .inr x → ∀ m2, mFt m0 m2 → m2 603 18 = x → m2 603 13 = 0 → m2 603 20 = 0 → CI E mX12_tell (K + 8) m2 [aR 603, aI (-6)] Q)
    (hOk : ∀ l, R = .inl l → ∀ m2 s2, mFt m0 m2 → m2 603 18 = -1 → m2 603 13 = 0 → m2 603 20 = 0 → m2 603 21 = (l.length : Int) → l.length ≤ 12 → m2 603 23 = s2 → 0 ≤ s2 → s2 ≤ 400 → (∀ (i : Nat) cl, l[i]? = some cl → mLw m2 s2 i cl) → VM E mX12_law (K + 8 + 1) (aUp m2 605 ((170 + (900 * (m2 605 1))) + 1) (m2 603 21)) 111 [(0, aR 603), (1, aI (170 + (900 * (m2 605 1)))), (2, aI 0)] [] (retI Q)) :
    (∀ (mem : Mm) (x : Int), mFt m0 mem → mem 603 19 = 1 → mem 603 18 = x → R = .inr x → VM E mX12_law (K + 8 + 1) mem 37 [(0, aR 603)] [] (retI Q)) ∧
    ∀ (d : Nat) (mem : Mm) (q c s : Int) (pre : List CLd), pre.length + d = 12 → mFt m0 mem → mQ mem T n false q c s → mem 603 21 = (pre.length : Int) → 0 ≤ q → q ≤ n → 0 ≤ c → c ≤ 50 → 0 ≤ s → s ≤ tF T n q → (∀ (i : Nat) cl, pre[i]? = some cl → mLw mem s i cl) →
      (if tS T n q = 0 then .inl pre else if tG T n q = 59 then (match pText false T n d (tT T n q) c with
        | .inr x => .inr x
        | .inl l => .inl (pre ++ l)) else .inr (tF T n q)) = R → VM E mX12_law (K + 8 + 1) mem 37 [(0, aR 603)] [] (retI Q) := by
  have hT1 := hT.2.1
  have hbad : ∀ (mem : Mm) (x : Int), mFt m0 mem → mem 603 19 = 1 → mem 603 18 = x → R = .inr x → VM E mX12_law (K + 8 + 1) mem 37 [(0, aR 603)] [] (retI Q) := by
    intro mem x hm hb hx hR
    have e19 : (aUp (aUp mem 603 20 0) 603 13 0) 603 19 = 1 := by rw [aUp_nn (by omega), aUp_nn (by omega)]; exact hb
    refine rX12_law_37 (k := K + 8) hE ⟨fun _ => m_endB (k := K + 7) hE (Or.inl (by omega)) ⟨fun z => absurd (e19.symm.trans z) (by decide), fun _ => hBad x hR _ (mFt_tr hm mFt_e) (by rw [aUp_nn (by omega), aUp_nn (by omega)]; exact hx) aUp_re (by rw [aUp_nn (by omega), aUp_re])⟩, fun z => absurd (hb.symm.trans z) (by decide)⟩
  -- the end of the text, good or not
  have fin : ∀ (d : Nat) (mem : Mm) (q c s : Int) (pre : List CLd), pre.length ≤ 12 → mFt m0 mem → mQ mem T n false q c s → mem 603 21 = (pre.length : Int) → 0 ≤ q → q ≤ n → 0 ≤ s → s ≤ tF T n q → (∀ (i : Nat) cl, pre[i]? = some cl → mLw mem s i cl) → ¬ tG T n q = 59 → (if tS T n q = 0 then .inl pre else if tG T n q = 59 then (match pText false T n d (tT T n q) c with
        | .inr x => .inr x
        | .inl l => .inl (pre ++ l)) else .inr (tF T n q)) = R → VM E mX12_law (K + 8 + 1) mem 37 [(0, aR 603)] [] (retI Q) := by
    intro d mem q c s pre hd hm hst h21 hq hqn hs0 hsp hcl g hR
    have hbF := tF_b (T := T) hqn
    refine rX12_law_37 (k := K + 8) hE ⟨fun z => absurd hst.2.1 z, fun _ => m_isSign hE hst.1 (by decide) (by decide) (fun z => absurd z g) (fun _ => ⟨fun _ => ?_, fun z => absurd rfl z⟩)⟩
    by_cases z : tS T n q = 0
    · rw [if_pos z] at hR
      refine m_endB (k := K + 7) hE (Or.inr (by rw [hst.1.2.2.2.1]; exact z)) ?_
      have gs : ∀ o i, ¬ (o = 603 ∧ (i = 13 ∨ i = 20)) → (aUp (aUp mem 603 20 0) 603 13 0) o i = mem o i := fun o i y => by rw [aUp_nn (by omega), aUp_nn (by omega)]
      have e51 : (aUp (aUp mem 603 20 0) 603 13 0) 605 1 = m0 605 1 := (gs _ _ (by omega)).trans (hm _ _ (by omega) (by omega) (by omega) (by omega) (by omega) (by omega) (by omega))
      refine ⟨fun _ => ⟨by rw [e51]; exact ⟨by omega, by omega⟩, by rw [e51]; exact ⟨by omega, by omega⟩, by rw [e51]; exact ⟨by omega, by omega⟩, by rw [e51]; exact ⟨by omega, by omega⟩, ?_⟩, fun y => absurd ((gs _ _ (by omega)).trans hst.2.1) y⟩
      exact hOk pre hR.symm _ s (mFt_tr hm mFt_e) ((gs _ _ (by omega)).trans hst.1.1.1.2) aUp_re (by rw [aUp_nn (by omega), aUp_re]) ((gs _ _ (by omega)).trans h21) hd ((gs _ _ (by omega)).trans hst.2.2.2.1) hs0 (by omega) fun i cl h => mLw_fr (s := s) (fun j _ => ⟨gs _ _ (by omega), gs _ _ (by omega)⟩) (Int.le_refl _) (fun j _ _ => gs _ _ (by omega)) (hcl i cl h)
    · rw [if_neg z, if_neg g] at hR
      refine m_endF (k := K + 5) hE hst.2.1 (by rw [hst.1.2.2.2.1]; exact z) ?_
      have e19 : (aUp (aUp (aUp (aUp mem 603 19 1) 603 18 (mem 603 14)) 603 20 0) 603 13 0) 603 19 = 1 := by rw [aUp_nn (by omega), aUp_nn (by omega), aUp_nn (by omega), aUp_re]
      refine ⟨fun y => absurd (e19.symm.trans y) (by decide), fun _ => hBad _ hR.symm _ (mFt_tr (mFt_tr hm (mFt_q (mFq_r mFr_bad))) mFt_e) ?_ aUp_re (by rw [aUp_nn (by omega), aUp_re])⟩
      rw [aUp_nn (by omega), aUp_nn (by omega), aUp_re]
      exact hst.1.2.1
  -- one CLAUSE more
  have more : ∀ (d : Nat) (mem : Mm) (q c s : Int) (pre : List CLd), pre.length + d = 12 → mFt m0 mem → mQ mem T n false q c s → mem 603 21 = (pre.length : Int) → 0 ≤ q → q ≤ n → 0 ≤ c → c ≤ 50 → 0 ≤ s → s ≤ tF T n q → (∀ (i : Nat) cl, pre[i]? = some cl → mLw mem s i cl) → tG T n q = 59 →
      (∀ d', d = d' + 1 → ∀ (mem : Mm) (q c s : Int) (pre : List CLd), pre.length + d' = 12 → mFt m0 mem → mQ mem T n false q c s → mem 603 21 = (pre.length : Int) → 0 ≤ q → q ≤ n → 0 ≤ c → c ≤ 50 → 0 ≤ s → s ≤ tF T n q → (∀ (i : Nat) cl, pre[i]? = some cl → mLw mem s i cl) →
      (if tS T n q = 0 then .inl pre else if tG T n q = 59 then (match pText false T n d' (tT T n q) c with
        | .inr x => .inr x
        | .inl l => .inl (pre ++ l)) else .inr (tF T n q)) = R → VM E mX12_law (K + 8 + 1) mem 37 [(0, aR 603)] [] (retI Q)) →
      (match pText false T n d (tT T n q) c with
        | .inr x => .inr x
        | .inl l => .inl (pre ++ l)) = R → VM E mX12_law (K + 8 + 1) mem 37 [(0, aR 603)] [] (retI Q) := by
    intro d mem q c s pre hd hm hst h21 hq hqn hc hc2 hs0 hsp hcl g ih hR
    have hbF := tF_b (T := T) hqn
    have nx := nx_b (T := T) hqn (by rw [tG_s (T := T) (n := n) (p := q) (by omega)]; decide)
    have hbx := tF_b (T := T) nx.2.1
    refine rX12_law_37 (k := K + 8) hE ⟨fun z => absurd hst.2.1 z, fun _ => m_isSign hE hst.1 (by decide) (by decide) (fun _ => ⟨fun z => absurd z (by decide), fun _ => ?_⟩) (fun z => absurd g z)⟩
    refine m_nextQ (k := K + 7) hE hT hst hq hqn fun m1 a1 a2 => ?_
    have fm1 := mFt_tr hm (mFt_q (mFq_4 a1))
    have hK1 : iKs2 m1 := iKs2_fr (fun o i z => fm1 o i (by omega) (by omega) (by omega) (by omega) (by omega) (by omega) (by omega)) hK
    refine m_readLaw (K := K) hE hT a2 hK1 ((a1 _ _ (by omega)).trans h21) ⟨by omega, by omega⟩ (by omega) nx.2.1 hc hc2 hs0 (by omega) (fun y hy m2 b1 b2 b3 => ?_) (fun q2 d2 cl h12 hq2 m2 s2 b1 b2 b3 b4 b5 b6 b7 b8 => ?_)
    · refine hbad m2 y (mFt_tr fm1 (mFt_q b1)) b2 b3 ?_
      rw [← hR]
      rcases hy with ⟨y1, y2⟩ | ⟨y1, y2⟩
      · obtain rfl : d = 0 := by omega
        rw [y2]; rfl
      · obtain ⟨d', rfl⟩ : ∃ d', d = d' + 1 := ⟨d - 1, by omega⟩
        unfold pText
        rw [y2]
    · obtain ⟨d', rfl⟩ : ∃ d', d = d' + 1 := ⟨d - 1, by omega⟩
      have hbd := pCl_b hT1 (by omega) nx.2.1 hc hc2 hq2
      have hlen : (pre ++ [cl]).length = pre.length + 1 := by simp
      refine ih d' rfl m2 q2 d2 s2 (pre ++ [cl]) (by omega) (mFt_tr fm1 (mFt_q b1)) b5 (by rw [b4, hlen]; omega) hbd.1 hbd.2.1 hbd.2.2.1 hbd.2.2.2 (by omega) b7 (fun i cl2 h => ?_) ?_
      · rcases ap_get h with h | ⟨h, h'⟩
        · have hlt : i < pre.length := (List.getElem?_eq_some_iff.mp h).1
          exact mLw_fr (s := s) (mCd_tr (mCd_4 a1) b2 (Int.le_refl _)) b6 (fun j _ hj => (b3 j (by omega)).trans (a1 _ _ (by omega))) (hcl i cl2 h)
        · rw [h, ← h']
          exact b8
      · rw [← hR]
        have e : pText false T n (d' + 1) (tT T n q) c = (if tS T n q2 = 0 then .inl [cl] else if tG T n q2 = 59 then (match pText false T n d' (tT T n q2) d2 with
            | .inr x => .inr x
            | .inl l => .inl (cl :: l)) else .inr (tF T n q2)) := by
          conv => lhs; unfold pText
          rw [hq2]
          rfl
        rw [e]
        by_cases z : tS T n q2 = 0
        · rw [if_pos z, if_pos z]
        · rw [if_neg z, if_neg z]
          by_cases g2 : tG T n q2 = 59
          · rw [if_pos g2, if_pos g2]
            cases pText false T n d' (tT T n q2) d2 with
            | inr x => rfl
            | inl l => show (Sum.inl (pre ++ [cl] ++ l) : List CLd ⊕ Int) = .inl (pre ++ cl :: l); rw [List.append_assoc]; rfl
          · rw [if_neg g2, if_neg g2]
  refine ⟨hbad, fun d => ?_⟩
  induction d with
  | zero =>
    intro mem q c s pre hd hm hst h21 hq hqn hc hc2 hs0 hsp hcl hR
    by_cases g : tG T n q = 59
    · rw [if_neg (by rw [tG_s (T := T) (n := n) (p := q) (by omega)]; decide), if_pos g] at hR
      exact more 0 mem q c s pre hd hm hst h21 hq hqn hc hc2 hs0 hsp hcl g (fun d' z => absurd z (by omega)) hR
    · exact fin 0 mem q c s pre (by omega) hm hst h21 hq hqn hs0 hsp hcl g hR
  | succ d ih =>
    intro mem q c s pre hd hm hst h21 hq hqn hc hc2 hs0 hsp hcl hR
    by_cases g : tG T n q = 59
    · rw [if_neg (by rw [tG_s (T := T) (n := n) (p := q) (by omega)]; decide), if_pos g] at hR
      exact more (d + 1) mem q c s pre hd hm hst h21 hq hqn hc hc2 hs0 hsp hcl g (fun d' z => by
        obtain rfl : d = d' := by omega
        exact ih) hR
    · exact fin (d + 1) mem q c s pre (by omega) hm hst h21 hq hqn hs0 hsp hcl g hR
