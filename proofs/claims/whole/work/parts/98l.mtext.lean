-- the model reads the text of ORDERS
theorem m_ordL {E : EN} (hE : Ep E) {K : Nat} {m0 : Mm} {Q : Int → Mm → Prop} {T : Rw} {n : Int} {R : List CLd ⊕ Int} (hT : tOk T n) (hK : iKs2 m0)
    (hBad : ∀ x, R = .inr x → ∀ m2, mFt m0 m2 → m2 603 18 = x → m2 603 13 = 0 → m2 603 20 = 0 → CI E mX12_tell (K + 9) m2 [aR 603, aI (-6)] Q)
    (hOk : ∀ l, R = .inl l → ∀ m2 s2, mFt m0 m2 → m2 603 18 = -1 → m2 603 13 = 0 → m2 603 20 = 0 → m2 603 21 = (l.length : Int) → l.length ≤ 12 → m2 603 23 = s2 → 0 ≤ s2 → s2 ≤ 400 → (∀ (i : Nat) cl, l[i]? = some cl → mOr m2 s2 i cl) → CV E mX12_keepAll (K + 9) m2 [aR 603, aI 17] (fun m3 => VM E mX12_orders (K + 9 + 1) m3 82 [(0, aR 603), (1, aI (m3 603 8)), (2, aI (m3 603 43)), (3, aI 0)] [] (retI Q))) :
    (∀ (mem : Mm) (x : Int), mFt m0 mem → mem 603 19 = 1 → mem 603 18 = x → R = .inr x → VM E mX12_orders (K + 9 + 1) mem 19 [(0, aR 603)] [] (retI Q)) ∧
    ∀ (d : Nat) (mem : Mm) (q c s : Int) (pre : List CLd), pre.length + d = 12 → mFt m0 mem → mQ mem T n true q c s → mem 603 21 = (pre.length : Int) → 0 ≤ q → q ≤ n → 0 ≤ c → c ≤ 50 → 0 ≤ s → s ≤ tF T n q → (∀ (i : Nat) cl, pre[i]? = some cl → mOr mem s i cl) →
      (if tS T n q = 0 then .inl pre else if tG T n q = 59 then (match pText true T n d (tT T n q) c with
        | .inr x => .inr x
        | .inl l => .inl (pre ++ l)) else .inr (tF T n q)) = R → VM E mX12_orders (K + 9 + 1) mem 19 [(0, aR 603)] [] (retI Q) := by
  have hT1 := hT.2.1
  have hbad : ∀ (mem : Mm) (x : Int), mFt m0 mem → mem 603 19 = 1 → mem 603 18 = x → R = .inr x → VM E mX12_orders (K + 9 + 1) mem 19 [(0, aR 603)] [] (retI Q) := by
    intro mem x hm hb hx hR
    have e19 : (aUp (aUp mem 603 20 0) 603 13 0) 603 19 = 1 := by rw [aUp_nn (by omega), aUp_nn (by omega)]; exact hb
    refine rX12_orders_19 (k := K + 9) hE ⟨fun _ => m_endB (k := K + 8) hE (Or.inl (by omega)) ⟨fun z => absurd (e19.symm.trans z) (by decide), fun _ => hBad x hR _ (mFt_tr hm mFt_e) (by rw [aUp_nn (by omega), aUp_nn (by omega)]; exact hx) aUp_re (by rw [aUp_nn (by omega), aUp_re])⟩, fun z => absurd (hb.symm.trans z) (by decide)⟩
  -- the end of the text, good or not
  have fin : ∀ (d : Nat) (mem : Mm) (q c s : Int) (pre : List CLd), pre.length ≤ 12 → mFt m0 mem → mQ mem T n true q c s → mem 603 21 = (pre.length : Int) → 0 ≤ q → q ≤ n → 0 ≤ s → s ≤ tF T n q → (∀ (i : Nat) cl, pre[i]? = some cl → mOr mem s i cl) → ¬ tG T n q = 59 → (if tS T n q = 0 then .inl pre else if tG T n q = 59 then (match pText true T n d (tT T n q) c with
        | .inr x => .inr x
        | .inl l => .inl (pre ++ l)) else .inr (tF T n q)) = R → VM E mX12_orders (K + 9 + 1) mem 19 [(0, aR 603)] [] (retI Q) := by
    intro d mem q c s pre hd hm hst h21 hq hqn hs0 hsp hcl g hR
    have hbF := tF_b (T := T) hqn
    refine rX12_orders_19 (k := K + 9) hE ⟨fun z => absurd hst.2.1 z, fun _ => m_isSign hE hst.1 (by decide) (by decide) (fun z => absurd z g) (fun _ => ⟨fun _ => ?_, fun z => absurd rfl z⟩)⟩
    by_cases z : tS T n q = 0
    · rw [if_pos z] at hR
      refine m_endB (k := K + 8) hE (Or.inr (by rw [hst.1.2.2.2.1]; exact z)) ?_
      have gs : ∀ o i, ¬ (o = 603 ∧ (i = 13 ∨ i = 20)) → (aUp (aUp mem 603 20 0) 603 13 0) o i = mem o i := fun o i y => by rw [aUp_nn (by omega), aUp_nn (by omega)]
      refine ⟨fun _ => ?_, fun y => absurd ((gs _ _ (by omega)).trans hst.2.1) y⟩
      exact hOk pre hR.symm _ s (mFt_tr hm mFt_e) ((gs _ _ (by omega)).trans hst.1.1.1.2) aUp_re (by rw [aUp_nn (by omega), aUp_re]) ((gs _ _ (by omega)).trans h21) hd ((gs _ _ (by omega)).trans hst.2.2.2.1) hs0 (by omega) fun i cl h => mOr_fr (s := s) (fun j _ => ⟨gs _ _ (by omega), gs _ _ (by omega)⟩) (Int.le_refl _) (fun j _ _ => gs _ _ (by omega)) (hcl i cl h)
    · rw [if_neg z, if_neg g] at hR
      refine m_endF (k := K + 6) hE hst.2.1 (by rw [hst.1.2.2.2.1]; exact z) ?_
      have e19 : (aUp (aUp (aUp (aUp mem 603 19 1) 603 18 (mem 603 14)) 603 20 0) 603 13 0) 603 19 = 1 := by rw [aUp_nn (by omega), aUp_nn (by omega), aUp_nn (by omega), aUp_re]
      refine ⟨fun y => absurd (e19.symm.trans y) (by decide), fun _ => hBad _ hR.symm _ (mFt_tr (mFt_tr hm (mFt_q (mFq_r mFr_bad))) mFt_e) ?_ aUp_re (by rw [aUp_nn (by omega), aUp_re])⟩
      rw [aUp_nn (by omega), aUp_nn (by omega), aUp_re]
      exact hst.1.2.1
  -- one CLAUSE more
  have more : ∀ (d : Nat) (mem : Mm) (q c s : Int) (pre : List CLd), pre.length + d = 12 → mFt m0 mem → mQ mem T n true q c s → mem 603 21 = (pre.length : Int) → 0 ≤ q → q ≤ n → 0 ≤ c → c ≤ 50 → 0 ≤ s → s ≤ tF T n q → (∀ (i : Nat) cl, pre[i]? = some cl → mOr mem s i cl) → tG T n q = 59 →
      (∀ d', d = d' + 1 → ∀ (mem : Mm) (q c s : Int) (pre : List CLd), pre.length + d' = 12 → mFt m0 mem → mQ mem T n true q c s → mem 603 21 = (pre.length : Int) → 0 ≤ q → q ≤ n → 0 ≤ c → c ≤ 50 → 0 ≤ s → s ≤ tF T n q → (∀ (i : Nat) cl, pre[i]? = some cl → mOr mem s i cl) →
      (if tS T n q = 0 then .inl pre else if tG T n q = 59 then (match pText true T n d' (tT T n q) c with
        | .inr x => .inr x
        | .inl l => .inl (pre ++ l)) else .inr (tF T n q)) = R → VM E mX12_orders (K + 9 + 1) mem 19 [(0, aR 603)] [] (retI Q)) →
      (match pText true T n d (tT T n q) c with
        | .inr x => .inr x
        | .inl l => .inl (pre ++ l)) = R → VM E mX12_orders (K + 9 + 1) mem 19 [(0, aR 603)] [] (retI Q) := by
    intro d mem q c s pre hd hm hst h21 hq hqn hc hc2 hs0 hsp hcl g ih hR
    have hbF := tF_b (T := T) hqn
    have nx := nx_b (T := T) hqn (by rw [tG_s (T := T) (n := n) (p := q) (by omega)]; decide)
    have hbx := tF_b (T := T) nx.2.1
    refine rX12_orders_19 (k := K + 9) hE ⟨fun z => absurd hst.2.1 z, fun _ => m_isSign hE hst.1 (by decide) (by decide) (fun _ => ⟨fun z => absurd z (by decide), fun _ => ?_⟩) (fun z => absurd g z)⟩
    refine m_nextQ (k := K + 8) hE hT hst hq hqn fun m1 a1 a2 => ?_
    have fm1 := mFt_tr hm (mFt_q (mFq_4 a1))
    have hK1 : iKs2 m1 := iKs2_fr (fun o i z => fm1 o i (by omega) (by omega) (by omega) (by omega) (by omega) (by omega) (by omega)) hK
    refine m_readOrder (K := K) hE hT a2 hK1 ((a1 _ _ (by omega)).trans h21) ⟨by omega, by omega⟩ (by omega) nx.2.1 hc hc2 hs0 (by omega) (fun y hy m2 b1 b2 b3 => ?_) (fun q2 d2 cl h12 hq2 m2 s2 bo b5 b6 b7 b8 => ?_)
    · refine hbad m2 y (mFt_tr fm1 (mFt_q b1)) b2 b3 ?_
      rw [← hR]
      rcases hy with ⟨y1, y2⟩ | ⟨y1, y2⟩
      · obtain rfl : d = 0 := by omega
        rw [y2]; rfl
      · obtain ⟨d', rfl⟩ : ∃ d', d = d' + 1 := ⟨d - 1, by omega⟩
        unfold pText
        rw [y2]
    · obtain ⟨b1, b2, b3, b4⟩ := bo
      obtain ⟨d', rfl⟩ : ∃ d', d = d' + 1 := ⟨d - 1, by omega⟩
      have hbd := pCl_b hT1 (by omega) nx.2.1 hc hc2 hq2
      have hlen : (pre ++ [cl]).length = pre.length + 1 := by simp
      refine ih d' rfl m2 q2 d2 s2 (pre ++ [cl]) (by omega) (mFt_tr fm1 (mFt_q b1)) b5 (by rw [b4, hlen]; omega) hbd.1 hbd.2.1 hbd.2.2.1 hbd.2.2.2 (by omega) b7 (fun i cl2 h => ?_) ?_
      · rcases ap_get h with h | ⟨h, h'⟩
        · have hlt : i < pre.length := (List.getElem?_eq_some_iff.mp h).1
          exact mOr_fr (s := s) (mCd_tr (mCd_4 a1) b2 (Int.le_refl _)) b6 (fun j _ hj => (b3 j (by omega)).trans (a1 _ _ (by omega))) (hcl i cl2 h)
        · rw [h, ← h']
          exact b8
      · rw [← hR]
        have e : pText true T n (d' + 1) (tT T n q) c = (if tS T n q2 = 0 then .inl [cl] else if tG T n q2 = 59 then (match pText true T n d' (tT T n q2) d2 with
            | .inr x => .inr x
            | .inl l => .inl (cl :: l)) else .inr (tF T n q2)) := by
          conv => lhs; unfold pText
          rw [hq2]
          rfl
        rw [e]
        by_cases z : tS T n q2 = 0
        · rw [if_pos z, if_pos z]
        · rw [if_neg z, if_neg z]
          by_cases g2 : tG T n q2 = 59
          · rw [if_pos g2, if_pos g2]
            cases pText true T n d' (tT T n q2) d2 with
            | inr x => rfl
            | inl l => show (Sum.inl (pre ++ [cl] ++ l) : List CLd ⊕ Int) = .inl (pre ++ cl :: l); rw [List.append_assoc]; rfl
          · rw [if_neg g2, if_neg g2]
  refine ⟨hbad, fun d => ?_⟩
  induction d with
  | zero =>
    intro mem q c s pre hd hm hst h21 hq hqn hc hc2 hs0 hsp hcl hR
    by_cases g : tG T n q = 59
    · rw [if_neg (by rw [tG_s (T := T) (n := n) (p := q) (by omega)]; decide), if_pos g] at hR
      exact more 0 mem q c s pre hd hm hst h21 hq hqn hc hc2 hs0 hsp hcl g (fun d' z => absurd z (by omega)) hR
    · exact fin 0 mem q c s pre (by omega) hm hst h21 hq hqn hs0 hsp hcl g hR
  | succ d ih =>
    intro mem q c s pre hd hm hst h21 hq hqn hc hc2 hs0 hsp hcl hR
    by_cases g : tG T n q = 59
    · rw [if_neg (by rw [tG_s (T := T) (n := n) (p := q) (by omega)]; decide), if_pos g] at hR
      exact more (d + 1) mem q c s pre hd hm hst h21 hq hqn hc hc2 hs0 hsp hcl g (fun d' z => by
        obtain rfl : d = d' := by omega
        exact ih) hR
    · exact fin (d + 1) mem q c s pre (by omega) hm hst h21 hq hqn hs0 hsp hcl g hR
