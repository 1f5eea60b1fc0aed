-- a FAULT has a place
def qEr (n : Int) (pf : Int → Int → PR) : Prop := ∀ p c x, 0 ≤ p → p ≤ n → 0 ≤ c → c ≤ 50 → pf p c = .inr x → 0 ≤ x
theorem tF_0 {T : Rw} {n p : Int} (h0 : 0 ≤ p) (h : p ≤ n) : 0 ≤ tF T n p := by have := tF_b (T := T) h; omega
theorem tT_0' {T : Rw} {n p : Int} (h0 : 0 ≤ p) (h : p ≤ n) : 0 ≤ tT T n p ∧ tT T n p ≤ n := by have := tF_b (T := T) h; have := tT_b (T := T) h; omega
theorem inr_e {x y : Int} (h : (Sum.inr x : PR) = .inr y) : x = y := Sum.inr.inj h
theorem pLoop_er {T : Rw} {n : Int} {el : Int → Int → PR} {o1 o2 : Int → Int} {PP : (Rw → Int) → Prop} (hel : qEr n el) (hok : qOk T n el PP) : ∀ (k : Nat) (p c a : Int) (fa : Rw → Int) (b : Int) (fb : Rw → Int) (x : Int), 0 ≤ p → p ≤ n → 0 ≤ c → c ≤ 50 → pLoop el o1 o2 (tT T n) k p c a fa b fb = .inr x → 0 ≤ x := by
  intro k
  induction k with
  | zero => intro p c a fa b fb x p0 _ _ _ h; rw [← inr_e h]; exact p0
  | succ k ih =>
    intro p c a fa b fb x p0 p1 c0 c1 h
    unfold pLoop at h
    cases he : el p c with
    | inr y => rw [he] at h; rw [← inr_e h]; exact hel p c y p0 p1 c0 c1 he
    | inl v =>
      obtain ⟨q2, d2, f2⟩ := v
      rw [he] at h
      dsimp only at h
      have hb := tF_b (T := T) p1
      obtain ⟨e1, e2, e3, e4, -⟩ := hok p c q2 d2 f2 p0 p1 c0 c1 he
      have ht := tT_0' (T := T) (n := n) (p := q2) (by omega) e2
      by_cases g1 : o1 q2 = -1
      · rw [if_neg (fun z => z g1)] at h
        by_cases g2 : o2 q2 = -1
        · rw [if_neg (fun z => z g2)] at h; cases h
        · rw [if_pos g2] at h; exact ih _ _ _ _ _ _ _ ht.1 ht.2 e3 e4 h
      · rw [if_pos g1] at h; exact ih _ _ _ _ _ _ _ ht.1 ht.2 e3 e4 h
theorem pLeaf_er {od : Bool} {T : Rw} {n : Int} : qEr n (pLeaf od T n) := by
  intro p c x p0 p1 c0 c1 h
  have f0 := tF_0 (T := T) p0 p1
  have ht := tT_0' (T := T) p0 p1
  have f1 := tF_0 (T := T) ht.1 ht.2
  unfold pLeaf at h
  by_cases hc : 50 ≤ c
  · rw [if_pos hc] at h; rw [← inr_e h]; exact f0
  rw [if_neg hc] at h
  by_cases h2 : tS T n p = 2
  · rw [if_pos h2] at h
    by_cases h3 : tN T n p ≤ 1000
    · rw [if_pos h3] at h; cases h
    · rw [if_neg h3] at h; rw [← inr_e h]; exact f0
  rw [if_neg h2] at h
  by_cases hi : wIx od (tW T n p) = -1
  · rw [if_pos hi] at h; rw [← inr_e h]; exact f0
  rw [if_neg hi] at h
  by_cases h4 : od = true ∧ 4 ≤ wIx od (tW T n p)
  · rw [if_pos h4] at h
    by_cases h5 : tS T n (tT T n p) = 2 ∧ tN T n (tT T n p) < (if wIx od (tW T n p) = 4 then 10 else 32)
    · rw [if_pos h5] at h; cases h
    · rw [if_neg h5] at h; rw [← inr_e h]; exact f1
  · rw [if_neg h4] at h; cases h
theorem pClo_er {T : Rw} {n cl p c x : Int} {s : Bool} {PP : (Rw → Int) → Prop} {pf : Int → Int → PR} (hpf : qOk T n pf PP) (her : qEr n pf) (p0 : 0 ≤ p) (p1 : p ≤ n) (c0 : 0 ≤ c) (c1 : c ≤ 50) (h : pClo T n cl s (pf (tT T n p) c) = .inr x) : 0 ≤ x := by
  have ht := tT_0' (T := T) p0 p1
  have hb := tF_b (T := T) ht.2
  cases he : pf (tT T n p) c with
  | inr y => rw [he] at h; rw [← inr_e h]; exact her _ _ _ ht.1 ht.2 c0 c1 he
  | inl v =>
    obtain ⟨q, d, f⟩ := v
    rw [he] at h
    unfold pClo at h
    dsimp only at h
    obtain ⟨e1, e2, -⟩ := hpf _ _ _ _ _ ht.1 ht.2 c0 c1 he
    by_cases g : tG T n q = cl
    · rw [if_pos g] at h; cases h
    · rw [if_neg g] at h; rw [← inr_e h]; exact tF_0 (by omega) e2
theorem pPart_er {od : Bool} {T : Rw} {n : Int} (hT : n ≤ 400) : ∀ b : Nat, qEr n (pPart od T n b) := by
  intro b
  induction b with
  | zero =>
    intro p c x p0 p1 c0 c1 h
    unfold pPart at h
    by_cases g : tG T n p = 91
    · rw [if_pos g] at h; rw [← inr_e h]; exact tF_0 p0 p1
    · rw [if_neg g] at h; exact pLeaf_er p c x p0 p1 c0 c1 h
  | succ b ih =>
    intro p c x p0 p1 c0 c1 h
    unfold pPart at h
    by_cases g : tG T n p = 91
    · rw [if_pos g] at h
      exact pClo_er (lpS_ok hT (pPart_ok hT b)) (fun p c x a1 a2 a3 a4 h => pLoop_er ih (pPart_ok hT b) 401 p c _ _ _ _ x a1 a2 a3 a4 h) p0 p1 c0 c1 h
    · rw [if_neg g] at h; exact pLeaf_er p c x p0 p1 c0 c1 h
theorem pSum_er {od : Bool} {T : Rw} {n : Int} (hT : n ≤ 400) (b : Nat) : qEr n (pSum od T n b) := fun p c x a1 a2 a3 a4 h => pLoop_er (pPart_er hT b) (pPart_ok hT b) 401 p c _ _ _ _ x a1 a2 a3 a4 h
theorem pCmp_er {od : Bool} {T : Rw} {n : Int} (hT : n ≤ 400) (b : Nat) (s : Bool) : qEr n (pCmp od T n b s) := by
  intro p c x p0 p1 c0 c1 h
  have hb := tF_b (T := T) p1
  unfold pCmp at h
  cases he : pSum od T n b p c with
  | inr y => rw [he] at h; rw [← inr_e h]; exact pSum_er hT b _ _ _ p0 p1 c0 c1 he
  | inl v =>
    obtain ⟨q2, d2, f2⟩ := v
    rw [he] at h
    unfold pCm2 at h
    dsimp only at h
    obtain ⟨e1, e2, e3, e4, -⟩ := pSum_ok hT b _ _ _ _ _ p0 p1 c0 c1 he
    by_cases g : oCmp (tG T n q2) = -1
    · rw [if_pos g] at h; rw [← inr_e h]; exact tF_0 (by omega) e2
    · rw [if_neg g] at h
      have ht := tT_0' (T := T) (n := n) (p := q2) (by omega) e2
      cases he2 : pSum od T n b (tT T n q2) d2 with
      | inr y => rw [he2] at h; rw [← inr_e h]; exact pSum_er hT b _ _ _ ht.1 ht.2 e3 e4 he2
      | inl v => rw [he2] at h; cases h
theorem pPlain_er {od : Bool} {T : Rw} {n : Int} (hT : n ≤ 400) : ∀ b : Nat, qEr n (pPlain od T n b) := by
  intro b
  induction b with
  | zero =>
    intro p c x p0 p1 c0 c1 h
    have hN := pNots_ok (T := T) (n := n) 401 p p1
    unfold pPlain at h
    by_cases g : tG T n (pNots T n 401 p).2 = 40
    · rw [if_pos g] at h; rw [← inr_e h]; exact tF_0 (by omega) hN.2.1
    · rw [if_neg g] at h; exact pCmp_er hT 0 _ _ c x (by omega) hN.2.1 c0 c1 h
  | succ b ih =>
    intro p c x p0 p1 c0 c1 h
    have hN := pNots_ok (T := T) (n := n) 401 p p1
    unfold pPlain at h
    by_cases g : tG T n (pNots T n 401 p).2 = 40
    · rw [if_pos g] at h
      exact pClo_er (lpT_ok hT (pPlain_ok hT b)) (fun p c x a1 a2 a3 a4 h => pLoop_er ih (pPlain_ok hT b) 401 p c _ _ _ _ x a1 a2 a3 a4 h) (by omega) hN.2.1 c0 c1 h
    · rw [if_neg g] at h; exact pCmp_er hT (b + 1) _ _ c x (by omega) hN.2.1 c0 c1 h
theorem pTest_er {od : Bool} {T : Rw} {n : Int} (hT : n ≤ 400) (b : Nat) : qEr n (pTest od T n b) := fun p c x a1 a2 a3 a4 h => pLoop_er (pPlain_er hT b) (pPlain_ok hT b) 401 p c _ _ _ _ x a1 a2 a3 a4 h
theorem pT2_er {T : Rw} {n q d x : Int} {g1 g2 : Rw → Int} (q0 : 0 ≤ q) (qn : q ≤ n) (h : pT2 T n g1 g2 q d = .inr x) : 0 ≤ x := by
  have ht := tT_0' (T := T) q0 qn
  unfold pT2 at h
  cases e : pTm T n q with
  | inl v => rw [e] at h; cases h
  | inr y =>
    rw [e] at h
    obtain rfl : y = x := Sum.inr.inj h
    unfold pTm at e
    by_cases c : tW T n q = 21279923
    · rw [if_pos c] at e
      by_cases d : tS T n (tT T n q) = 2 ∧ 1 ≤ tN T n (tT T n q) ∧ tN T n (tT T n q) ≤ 20
      · rw [if_pos d] at e; cases e
      · rw [if_neg d] at e
        obtain rfl : tF T n (tT T n q) = y := Sum.inr.inj e
        exact tF_0 ht.1 ht.2
    · rw [if_neg c] at e; cases e
theorem pBd_er {od : Bool} {T : Rw} {n v q c x : Int} (hT : n ≤ 400) (q0 : 0 ≤ q) (qn : q ≤ n) (c0 : 0 ≤ c) (c1 : c ≤ 50) (h : pBd od T n v q c = .inr x) : 0 ≤ x := by
  have hb := tF_b (T := T) qn
  unfold pBd at h
  cases od with
  | true =>
    rw [if_pos rfl] at h
    unfold pAc at h
    by_cases v3 : v = 3
    · rw [if_pos v3] at h; exact pT2_er q0 qn h
    · rw [if_neg v3] at h
      cases e : pSum true T n 8 q c with
      | inr y => rw [e] at h; obtain rfl : y = x := Sum.inr.inj h; exact pSum_er hT 8 _ _ _ q0 qn c0 c1 e
      | inl w =>
        obtain ⟨q1, d1, h1⟩ := w
        rw [e] at h
        obtain ⟨l1, l2, l3, l4, l5⟩ := pSum_ok hT 8 _ _ _ _ _ q0 qn c0 c1 e
        unfold pA2 at h
        dsimp only at h
        by_cases v0 : v = 0
        · rw [if_pos v0] at h
          by_cases ha : tW T n q1 = 52
          · rw [if_pos ha] at h
            have ht := tT_0' (T := T) (n := n) (p := q1) (by omega) l2
            cases e2 : pSum true T n 8 (tT T n q1) d1 with
            | inr y => rw [e2] at h; obtain rfl : y = x := Sum.inr.inj h; exact pSum_er hT 8 _ _ _ ht.1 ht.2 l3 l4 e2
            | inl w =>
              obtain ⟨q2, d2, h2⟩ := w
              rw [e2] at h
              have hb2 := tF_b (T := T) ht.2
              obtain ⟨m1, m2, -⟩ := pSum_ok hT 8 _ _ _ _ _ ht.1 ht.2 l3 l4 e2
              exact pT2_er (by omega) m2 h
          · rw [if_neg ha] at h
            obtain rfl : tF T n q1 = x := Sum.inr.inj h
            exact tF_0 (by omega) l2
        · rw [if_neg v0] at h; exact pT2_er (by omega) l2 h
  | false =>
    rw [if_neg (by decide)] at h
    unfold pLs at h
    by_cases v2 : v < 2
    · rw [if_pos v2] at h
      cases e : pSum false T n 8 q c with
      | inr y => rw [e] at h; obtain rfl : y = x := Sum.inr.inj h; exact pSum_er hT 8 _ _ _ q0 qn c0 c1 e
      | inl w => rw [e] at h; cases h
    · rw [if_neg v2] at h; cases h
theorem pCl_er {od : Bool} {T : Rw} {n p c x : Int} (hT : n ≤ 400) (hp : 0 ≤ p) (hpn : p ≤ n) (hc : 0 ≤ c) (hc2 : c ≤ 50) (h : pCl od T n p c = .inr x) : 0 ≤ x := by
  have ht := tT_0' (T := T) hp hpn
  unfold pCl at h
  by_cases z : vIx od (tW T n p) = -1
  · rw [if_pos z] at h
    obtain rfl : tF T n p = x := Sum.inr.inj h
    exact tF_0 hp hpn
  · rw [if_neg z] at h
    cases e : pBd od T n (vIx od (tW T n p)) (tT T n p) c with
    | inr y => rw [e] at h; obtain rfl : y = x := Sum.inr.inj h; exact pBd_er hT ht.1 ht.2 hc hc2 e
    | inl v =>
      obtain ⟨q3, d3, t3, g1, g2⟩ := v
      rw [e] at h
      obtain ⟨k1, k2, k3, k4, k5, -⟩ := pBd_ok hT ht.1 ht.2 hc hc2 e
      have h : sB (pIf od T n q3 d3) (fun q4 d4 g4 => .inl (q4, d4, vIx od (tW T n p), t3, g1, g2, g4)) = .inr x := h
      cases e2 : pIf od T n q3 d3 with
      | inl v => rw [e2] at h; cases h
      | inr y =>
        rw [e2] at h
        obtain rfl : y = x := Sum.inr.inj h
        unfold pIf at e2
        by_cases w : tW T n q3 = 294
        · rw [if_pos w] at e2
          have ht3 := tT_0' (T := T) k2 k3
          exact pTest_er hT 8 _ _ _ ht3.1 ht3.2 k4 k5 e2
        · rw [if_neg w] at e2; cases e2
theorem pText_er {od : Bool} {T : Rw} {n : Int} (hT : n ≤ 400) : ∀ (k : Nat) (p c x : Int), 0 ≤ p → p ≤ n → 0 ≤ c → c ≤ 50 → pText od T n k p c = .inr x → 0 ≤ x := by
  intro k
  induction k with
  | zero =>
    intro p c x p0 p1 _ _ h
    obtain rfl : tF T n p = x := Sum.inr.inj h
    exact tF_0 p0 p1
  | succ k ih =>
    intro p c x p0 p1 c0 c1 h
    unfold pText at h
    cases e : pCl od T n p c with
    | inr y => rw [e] at h; obtain rfl : y = x := Sum.inr.inj h; exact pCl_er hT p0 p1 c0 c1 e
    | inl v =>
      obtain ⟨q, d, cl⟩ := v
      rw [e] at h
      dsimp only at h
      obtain ⟨b1, b2, b3, b4⟩ := pCl_b hT p0 p1 c0 c1 e
      by_cases z : tS T n q = 0
      · rw [if_pos z] at h; cases h
      · rw [if_neg z] at h
        by_cases g : tG T n q = 59
        · rw [if_pos g] at h
          have ht := tT_0' (T := T) b1 b2
          cases e2 : pText od T n k (tT T n q) d with
          | inr y => rw [e2] at h; obtain rfl : y = x := Sum.inr.inj h; exact ih _ _ _ ht.1 ht.2 b3 b4 e2
          | inl l => rw [e2] at h; cases h
        · rw [if_neg g] at h
          obtain rfl : tF T n q = x := Sum.inr.inj h
          exact tF_0 b1 b2
-- the invariant behind law()
theorem law_jC {mem mc mm : Mm} {mk : Int} (hC : jC mem) (hmk : mem 605 1 = mk) (hc : ∀ o i, o < 603 → o ≠ 591 → ¬ (mk < 6 ∧ 355 + 9 * mk ≤ o ∧ o ≤ 355 + 9 * mk + 7) → ¬ (o = 0 ∧ i = 12) → ¬ (o = 353 ∧ i = 1) → mc o i = mem o i) (hc2 : mc 591 2 = 0)
    (hm : ∀ o i, 603 ≤ o → o ≠ 613 → o ≠ 614 → o ≠ 615 → o ≠ 616 → o ≠ 617 → o ≠ 634 → ¬ (o = 603 ∧ (i = 0 ∨ (13 ≤ i ∧ i ≤ 21) ∨ i = 23 ∨ i = 26 ∨ i = 29 ∨ i = 30)) → ¬ (o = 605 ∧ (i = 1 ∨ (mk < 6 ∧ 170 + 900 * mk < i))) → mm o i = mem o i) (m13 : mm 603 13 = 0) (m20 : mm 603 20 = 0) (h12 : mc 0 12 = mm 603 18)
    (hlaw : (mc 353 1 = mk ∧ mm 605 1 = mk) ∨ (mk < 6 ∧ mc 353 1 = mk + 1 ∧ mm 605 1 = mk + 1 ∧ ∃ D, TxS mc (355 + 9 * mk) 10 D ∧ slotS (mm 605) (170 + 900 * mk) D)) : jC (spl mc mm) := by
  have hF := hC.2.2.1
  obtain ⟨l1, l2, l3, l4, l5, l6, l7⟩ := hF.2.2.2
  rw [hmk] at l1 l2 l3 l6
  have sc : ∀ o i, o < 603 → o ≠ 591 → ¬ (mk < 6 ∧ 355 + 9 * mk ≤ o ∧ o ≤ 355 + 9 * mk + 7) → ¬ (o = 0 ∧ i = 12) → ¬ (o = 353 ∧ i = 1) → spl mc mm o i = mem o i := fun o i p a b c d => (spl_c p).trans (hc o i p a b c d)
  have sm : ∀ o i, 603 ≤ o → o ≠ 605 → ¬ (613 ≤ o ∧ o ≤ 617) → o ≠ 634 → ¬ (o = 603 ∧ (i = 0 ∨ (13 ≤ i ∧ i ≤ 21) ∨ i = 23 ∨ i = 26 ∨ i = 29 ∨ i = 30)) → spl mc mm o i = mem o i := fun o i p a b c d => (spl_m p).trans (hm o i p (by omega) (by omega) (by omega) (by omega) (by omega) c d (by omega))
  have s5 : (spl mc mm) 605 = mm 605 := funext fun i => spl_m (by decide)
  have m5 : ∀ i, i ≠ 1 → ¬ (mk < 6 ∧ 170 + 900 * mk < i) → mm 605 i = mem 605 i := fun i p q => hm 605 i (by decide) (by decide) (by decide) (by decide) (by decide) (by decide) (by decide) (by omega) (by omega)
  refine jC_all hC (fun o i w1 w2 w3 w4 w5 w6 w7 w8 w9 w10 w11 w12 w13 => ?_) ?_ ?_ (iPast_cg hC.2.2.2.2.1 (fun o i p q => sc o i (by omega) (by omega) (by omega) (by omega) (by omega)) (fun i p q => by rw [s5]; exact m5 i (by omega) (by omega)) (fun i _ => sm 608 i (by decide) (by decide) (by decide) (by decide) (by omega)) (fun i => sm 609 i (by decide) (by decide) (by decide) (by decide) (by omega)) (sm 603 8 (by decide) (by decide) (by decide) (by decide) (by decide)) (fun i => sc 186 i (by decide) (by decide) (by omega) (by omega) (by omega))) ?_ ?_
  · by_cases q : o < 603
    · exact sc o i q w8 (by omega) (by omega) (by omega)
    · refine sm o i (by omega) w5 (fun z => w1 (by unfold scr; omega)) (fun z => w1 (by unfold scr; omega)) (by omega)
  · rw [s5]
    refine ⟨rOk_cg (fun i p q => m5 i (by omega) (by omega)) hF.1, yR_cg (fun i p q => m5 i (by omega) (by omega)) (yR_fr hF.2.1 (sc _ _ (by decide) (by decide) (by omega) (by omega) (by omega)) (fun o i p q => sc o i (by omega) (by omega) (by omega) (by omega) (by omega))), ?_, ?_⟩
    · obtain ⟨f1, f2, f3, f4⟩ := hF.2.2.1
      have g : ∀ i, i ≠ 1 → i < 170 → mm 605 i = mem 605 i := fun i p q => m5 i p (by omega)
      refine ⟨by rw [sc 349 0 (by decide) (by decide) (by omega) (by omega) (by omega), g 0 (by decide) (by decide)]; exact f1, by rw [g 0 (by decide) (by decide)]; exact f2, by rw [g 0 (by decide) (by decide)]; exact f3, fun i a b => ?_⟩
      rw [sc (349 + 1) i (by decide) (by decide) (by omega) (by omega) (by omega), sc (349 + 2) i (by decide) (by decide) (by omega) (by omega) (by omega), sc (349 + 3) i (by decide) (by decide) (by omega) (by omega) (by omega), g _ (by omega) (by omega), g (145 + 3 * i) (by omega) (by omega), g (146 + 3 * i) (by omega) (by omega)]
      exact f4 i a b
    · have old : ∀ i, 0 ≤ i → i < mk → ∃ D, TxS (spl mc mm) (353 + 2 + 9 * i) 10 D ∧ slotS (mm 605) (170 + 900 * i) D := by
        intro i a b
        obtain ⟨D, d1, d2⟩ := l7 i a (by rw [hmk]; exact b)
        exact ⟨D, TxS_fr (fun o j u v => sc o j (by omega) (by omega) (by omega) (by omega) (by omega)) d1, slotS_cp (fun j u v => m5 j (by omega) (by omega)) d2⟩
      have e2 : mm 605 2 = mem 605 2 := m5 2 (by decide) (by omega)
      have e32 : spl mc mm 353 2 = mem 353 2 := sc _ _ (by decide) (by decide) (by omega) (by omega) (by omega)
      rcases hlaw with ⟨h1, h2⟩ | ⟨h0, h1, h2, D, d1, d2⟩
      · refine ⟨by rw [spl_c (by decide), h1, h2], by rw [h2]; exact l2, by rw [h2]; exact l3, by rw [e32, e2]; exact l4, by rw [e2]; exact l5, by rw [e2, h2]; exact l6, fun i a b => ?_⟩
        rw [h2] at b
        exact old i a b
      · refine ⟨by rw [spl_c (by decide), h1, h2], by rw [h2]; omega, by rw [h2]; omega, by rw [e32, e2]; exact l4, by rw [e2]; exact l5, by rw [e2, h2]; omega, fun i a b => ?_⟩
        rw [h2] at b
        by_cases c : i = mk
        · subst c
          exact ⟨D, TxS_fr (fun o j u v => spl_c (by omega)) (by rw [show (353 : Int) + 2 + 9 * i = 355 + 9 * i by omega]; exact d1), d2⟩
        · exact old i a (by omega)
  · have hl := hC.2.2.2.1
    unfold iLw at hl ⊢
    rw [s5, m5 2 (by decide) (by omega), sc 2 9 (by decide) (by decide) (by omega) (by omega) (by omega)]
    exact hl
  · obtain ⟨s1, s2, s3, s4, s5', s6, s7, s8, s9⟩ := hC.2.1
    have a0 : spl mc mm 0 11 = mem 0 11 := sc _ _ (by decide) (by decide) (by omega) (by omega) (by omega)
    have a19 : spl mc mm 1 9 = mem 1 9 := sc _ _ (by decide) (by decide) (by omega) (by omega) (by omega)
    have a16 : spl mc mm 1 6 = mem 1 6 := sc _ _ (by decide) (by decide) (by omega) (by omega) (by omega)
    have b11 : spl mc mm 603 11 = mem 603 11 := sm _ _ (by decide) (by decide) (by decide) (by decide) (by decide)
    have b56 : spl mc mm 603 56 = mem 603 56 := sm _ _ (by decide) (by decide) (by decide) (by decide) (by decide)
    have b43 : spl mc mm 603 43 = mem 603 43 := sm _ _ (by decide) (by decide) (by decide) (by decide) (by decide)
    refine ⟨by rw [a0, b11]; exact s1, by rw [spl_c (by decide), spl_m (by decide)]; exact h12, by rw [a19, b56]; exact s3, by rw [a16, b43]; exact s4, by rw [spl_m (by decide)]; exact m20, by rw [a0]; exact s6, by rw [a0]; exact s7, by rw [a16]; exact s8, by rw [a16]; exact s9⟩
  · have e : spl mc mm 591 2 = 0 := (spl_c (by decide)).trans hc2
    refine ⟨by rw [e, spl_m (by decide), m13], by rw [e]; decide, by rw [e]; decide, fun i a b => ?_⟩
    rw [e] at b
    omega
