-- the model's loops over the CLAUSES of ORDERS
def clV (cl : CLd) : Prop := (¬ ¬ cl.1 = 3 → ∀ w, cl.2.2.1 w = 1) ∧ (¬ cl.1 = 0 → ∀ w, cl.2.2.2.1 w = 1)
theorem mOr_O {m m2 : Mm} {S i : Int} {cl : CLd} (h : mOF m m2) (hc : mOr m S i cl) : mOr m2 S i cl := mOr_fr (s := S) (fun j _ => ⟨h _ _ (by decide) (by omega) (by decide) (by decide) (by decide) (by decide) (by decide) (by omega), h _ _ (by decide) (by omega) (by decide) (by decide) (by decide) (by decide) (by decide) (by omega)⟩) (Int.le_refl _) (fun j _ _ => h _ _ (by decide) (by omega) (by decide) (by decide) (by decide) (by decide) (by decide) (by omega)) hc
theorem m_ordC {E : EN} (hE : Ep E) {K : Nat} {m0 : Mm} {Q : Int → Mm → Prop} {L : LW} {r0 : Rw} {n S x1 x2 : Int} (hn : n ≤ 12) (h21 : m0 603 21 = n) (hS : S ≤ 400) (rx1 : R32 x1) : ∀ (l : List CLd) (i : Int) (s : RS) (m : Mm), (∀ (j : Nat) cl, l[j]? = some cl → mOr m0 S (i + j) cl) → (∀ cl ∈ l, clOk cl ∧ clV cl) → 0 ≤ i → i + l.length = n → mO m s L → oOk r0 (20 * i) s → mOF m0 m →
    (∀ m2 s2, oAll L l i s = (0, n, s2) → mOF m0 m2 → mO m2 s2 L → oOk r0 240 s2 → R32 (m2 603 54) → CI E mX12_tell (K + 9 + 1) m2 [aR 603, aI (m2 603 54)] Q) →
    (∀ a i2 m2 s2, a < 0 → oAll L l i s = (a, i2, s2) → 0 ≤ i2 → i2 < n → mOF m0 m2 → (∀ j, j < 3 ∨ 80 ≤ j → m2 605 j = r0 j) → m2 603 20 = 0 → R32 x1 → CV E mX12_giveBack (K + 9 + 1) m2 [aR 603, aI x1] (fun m8 => (R32 a → CI E mX12_tell (K + 9 + 1) (aUp (aUp m8 603 43 x2) 603 56 i2) [aR 603, aI a] Q))) → VM E mX12_orders (K + 9 + 1 + 1) m 145 [(0, aR 603), (1, aI x1), (2, aI x2), (3, aI i)] [] (retI Q) := by
  intro l
  induction l with
  | nil =>
    intro i s m hc hok hi hin hO ho hf hG hB
    have hin : i + 0 = n := hin
    have e21 : m 603 21 = n := (hf _ _ (by decide) (by decide) (by decide) (by decide) (by decide) (by decide) (by decide) (by omega)).trans h21
    refine rX12_orders_145 (k := K + 9 + 1) hE ⟨fun _ r => hG m s ?_ hf hO (oOk_le (by omega) ho) r, fun z => absurd z (by omega)⟩
    show ((0 : Int), i, s) = (0, n, s)
    rw [show i = n by omega]
  | cons cl l ih =>
    intro i s m hc hok hi hin hO ho hf hG hB
    have hin : i + ((l.length : Int) + 1) = n := by rw [← hin]; simp
    have e21 : m 603 21 = n := (hf _ _ (by decide) (by decide) (by decide) (by decide) (by decide) (by decide) (by decide) (by omega)).trans h21
    obtain ⟨hcl, v1, v2⟩ := hok cl (List.mem_cons_self ..)
    have hcl' := hcl
    obtain ⟨k1, k2, k3, k4, -⟩ := hcl'
    have hc0 : mOr m0 S i cl := by have := hc 0 cl rfl; rwa [show i + ((0 : Nat) : Int) = i by omega] at this
    have rep : ∀ (d : Nat) (j : Int) (s' : RS) (m' : Mm), 0 ≤ j → j + d = cl.2.1 → mO m' s' L → oOk r0 (20 * i + j) s' → mOF m0 m' → oRep L cl d s' = oRep L cl cl.2.1.toNat s → VM E mX12_orders (K + 9 + 1 + 1) m' 156 [(0, aR 603), (1, aI x1), (2, aI x2), (3, aI i), (4, aI j)] [] (retI Q) := by
      intro d
      induction d with
      | zero =>
        intro j s' m' hj hjd hO' ho' hf' hR
        obtain rfl : j = cl.2.1 := by omega
        have eC := (mOr_O hf' hc0).2.1
        have hR : ((0 : Int), s') = oRep L cl cl.2.1.toNat s := hR
        have eA : oAll L (cl :: l) i s = oAll L l (i + 1) s' := by
          show (if (oRep L cl cl.2.1.toNat s).1 < 0 then ((oRep L cl cl.2.1.toNat s).1, i, (oRep L cl cl.2.1.toNat s).2) else oAll L l (i + 1) (oRep L cl cl.2.1.toNat s).2) = _
          rw [← hR, if_neg (show ¬ (0 : Int) < 0 by decide)]
        refine rX12_orders_156 (k := K + 9 + 1) hE ⟨⟨by omega, by omega⟩, ⟨by omega, by omega⟩, ⟨by omega, by omega⟩, fun _ => ⟨⟨by omega, by omega⟩, ?_⟩, fun z => absurd z (by omega)⟩
        refine ih (i + 1) s' m' (fun x c h => ?_) (fun c h => hok c (List.mem_cons_of_mem _ h)) (by omega) (by omega) hO' (oOk_le (by omega) ho') hf' (fun m2 s2 h => hG m2 s2 (eA.trans h)) (fun a i2 m2 s2 ha h h0 => hB a i2 m2 s2 ha (eA.trans h) (by omega))
        have := hc (x + 1) c h
        rwa [show i + ((x + 1 : Nat) : Int) = i + 1 + (x : Int) by omega] at this
      | succ d ihd =>
        intro j s' m' hj hjd hO' ho' hf' hR
        have eC := mOr_O hf' hc0
        have e2 := eC.2.1
        refine rX12_orders_156 (k := K + 9 + 1) hE ⟨⟨by omega, by omega⟩, ⟨by omega, by omega⟩, ⟨by omega, by omega⟩, fun z => absurd z (by omega), fun _ r => ?_⟩
        rw [oRep_1] at hR
        refine m_run (K := K) (L := L) (s := s') (cl := cl) hE hO' ho' (by omega) eC hcl v1 v2 ⟨by omega, by omega⟩ hS (fun m2 g1 g2 g3 => ⟨fun _ => ?_, fun z => absurd z (by decide)⟩) (fun m2 g1 g2 g3 g4 => ⟨fun z => absurd z (by omega), fun _ rr => ?_⟩)
        · rw [if_neg (by omega)] at hR
          exact ⟨⟨by omega, by omega⟩, ihd (j + 1) _ m2 (by omega) (by omega) g3 (oOk_le (by omega) (oStep_ok ho')) (mOF_tr hf' g1) hR⟩
        · rw [if_pos g2] at hR
          refine hB (oStep L cl s').1 i m2 (oStep L cl s').2 g2 ?_ hi (by omega) (mOF_tr hf' g1) g3 g4 rr
          show (if (oRep L cl cl.2.1.toNat s).1 < 0 then ((oRep L cl cl.2.1.toNat s).1, i, (oRep L cl cl.2.1.toNat s).2) else oAll L l (i + 1) (oRep L cl cl.2.1.toNat s).2) = _
          rw [← hR, if_pos g2]
    refine rX12_orders_145 (k := K + 9 + 1) hE ⟨fun z => absurd z (by omega), fun _ => ?_⟩
    exact rep cl.2.1.toNat 0 s m (by decide) (by omega) hO (oOk_le (by omega) ho) hf rfl
/-- before the run: the past is copied aside -/
theorem m_ordB {E : EN} (hE : Ep E) {K : Nat} {m0 : Mm} {Q : Int → Mm → Prop} {x1 x2 : Int} (hQ : ∀ m5, (∀ o i, o ≠ 610 → o ≠ 611 → ¬ (o = 603 ∧ (i = 54 ∨ i = 55)) → m5 o i = m0 o i) → (∀ i, 0 ≤ i → i < 1232 → m5 610 i = m0 608 i) → (∀ i, 0 ≤ i → i < 16 → m5 611 i = m0 609 i) → m5 603 54 = 0 → m5 603 55 = -1 → VM E mX12_orders (K + 9 + 1 + 1) m5 145 [(0, aR 603), (1, aI x1), (2, aI x2), (3, aI 0)] [] (retI Q)) : VM E mX12_orders (K + 9 + 1 + 1) m0 82 [(0, aR 603), (1, aI x1), (2, aI x2), (3, aI 0)] [] (retI Q) := by
  have l2 : ∀ (d : Nat) (j : Int) (m : Mm), 0 ≤ j → j + d = 16 → (∀ o i, o ≠ 610 → o ≠ 611 → m o i = m0 o i) → (∀ i, 0 ≤ i → i < 1232 → m 610 i = m0 608 i) → (∀ i, 0 ≤ i → i < j → m 611 i = m0 609 i) → VM E mX12_orders (K + 9 + 1 + 1) m 109 [(0, aR 603), (1, aI x1), (2, aI x2), (3, aI j)] [] (retI Q) := by
    intro d
    induction d with
    | zero =>
      intro j m j0 jd f a b
      refine rX12_orders_109 (k := K + 9 + 1) hE ⟨fun _ => hQ _ (fun o i u v w => ?_) (fun i u v => ?_) (fun i u v => ?_) ?_ aUp_re, fun z => absurd z (by omega)⟩
      · rw [aUp_nn (by omega), aUp_nn (by omega)]; exact f o i u v
      · rw [aUp_rn (by decide), aUp_rn (by decide)]; exact a i u v
      · rw [aUp_rn (by decide), aUp_rn (by decide)]; exact b i u (by omega)
      · rw [aUp_nn (by omega), aUp_re]
    | succ d ih =>
      intro j m j0 jd f a b
      refine rX12_orders_109 (k := K + 9 + 1) hE ⟨fun z => absurd z (by omega), fun _ => ⟨⟨by omega, by omega⟩, ⟨by omega, by omega⟩, ?_⟩⟩
      rw [f 609 j (by decide) (by decide)]
      refine ih (j + 1) _ (by omega) (by omega) (fun o i u v => (aUp_rn v).trans (f o i u v)) (fun i u v => (aUp_rn (by decide)).trans (a i u v)) (fun i u v => ?_)
      by_cases c : i = j
      · rw [c, aUp_re]
      · rw [aUp_ri c]; exact b i u (by omega)
  have l1 : ∀ (d : Nat) (j : Int) (m : Mm), 0 ≤ j → j + d = 1232 → (∀ o i, o ≠ 610 → m o i = m0 o i) → (∀ i, 0 ≤ i → i < j → m 610 i = m0 608 i) → VM E mX12_orders (K + 9 + 1 + 1) m 82 [(0, aR 603), (1, aI x1), (2, aI x2), (3, aI j)] [] (retI Q) := by
    intro d
    induction d with
    | zero =>
      intro j m j0 jd f a
      exact rX12_orders_82 (k := K + 9 + 1) hE ⟨fun _ => l2 16 0 m (by decide) (by decide) (fun o i u _ => f o i u) (fun i u v => a i u (by omega)) (fun i u v => absurd v (by omega)), fun z => absurd z (by omega)⟩
    | succ d ih =>
      intro j m j0 jd f a
      refine rX12_orders_82 (k := K + 9 + 1) hE ⟨fun z => absurd z (by omega), fun _ => ⟨⟨by omega, by omega⟩, ⟨by omega, by omega⟩, ⟨by omega, by omega⟩, ?_⟩⟩
      rw [f 608 j (by decide)]
      refine ih (j + 1) _ (by omega) (by omega) (fun o i u => (aUp_rn u).trans (f o i u)) (fun i u v => ?_)
      by_cases c : i = j
      · rw [c, aUp_re]
      · rw [aUp_ri c]; exact a i u (by omega)
  exact l1 1232 0 m0 (by decide) (by decide) (fun _ _ _ => rfl) (fun i u v => absurd v (by omega))
/-- given back: row, past, sorts, how many -/
theorem m_giveBk {E : EN} (hE : Ep E) {k : Nat} {mem : Mm} {Q : Mm → Prop} {p0 : Int} (rp : R32 p0) (hQ : ∀ m2, (∀ o i, ¬ (o = 605 ∧ 3 ≤ i ∧ i < 80) → ¬ (o = 608 ∧ i < 1232) → o ≠ 609 → ¬ (o = 603 ∧ i = 8) → m2 o i = mem o i) → (∀ i, 3 ≤ i → i < 80 → m2 605 i = mem 608 (1309 + (i - 3))) → (∀ i, 0 ≤ i → i < 1232 → m2 608 i = mem 610 i) → (∀ i, 0 ≤ i → i < 16 → m2 609 i = mem 611 i) → m2 603 8 = p0 → Q m2) : CV E mX12_giveBack (k + 1) mem [aR 603, aI p0] Q := by
  refine eX12_giveBack (k := k) rp (rX12_giveBack_0 (k := k) hE (m_putb hE (by decide) (by decide) ?_))
  have f1 : ∀ o i, ¬ (o = 605 ∧ 3 ≤ i ∧ i < 80) → (fun (o i : Int) => if o = 605 ∧ 3 ≤ i ∧ i < 80 then mem 608 (77 * 17 + (i - 3)) else mem o i) o i = mem o i := fun o i z => if_neg z
  have f2 : ∀ i, 3 ≤ i → i < 80 → (fun (o i : Int) => if o = 605 ∧ 3 ≤ i ∧ i < 80 then mem 608 (77 * 17 + (i - 3)) else mem o i) 605 i = mem 608 (1309 + (i - 3)) := fun i u v => if_pos ⟨rfl, u, v⟩
  generalize (fun (o i : Int) => if o = 605 ∧ 3 ≤ i ∧ i < 80 then mem 608 (77 * 17 + (i - 3)) else mem o i) = m1 at *
  have l2 : ∀ (d : Nat) (j : Int) (m : Mm), 0 ≤ j → j + d = 16 → (∀ o i, ¬ (o = 608 ∧ i < 1232) → o ≠ 609 → m o i = m1 o i) → (∀ i, 0 ≤ i → i < 1232 → m 608 i = mem 610 i) → (∀ i, 0 ≤ i → i < j → m 609 i = mem 611 i) → VM E mX12_giveBack (k + 1) m 35 [(0, aR 603), (1, aI p0), (2, aI j)] [] (retV Q) := by
    intro d
    induction d with
    | zero =>
      intro j m j0 jd f a b
      refine rX12_giveBack_35 (k := k) hE ⟨fun _ => hQ _ (fun o i u v w x => ?_) (fun i u v => ?_) (fun i u v => ?_) (fun i u v => ?_) aUp_re, fun z => absurd z (by omega)⟩
      · rw [aUp_nn (by omega), f o i v w]; exact f1 o i u
      · rw [aUp_rn (by decide), f 605 i (by omega) (by decide)]; exact f2 i u v
      · rw [aUp_rn (by decide)]; exact a i u v
      · rw [aUp_rn (by decide)]; exact b i u (by omega)
    | succ d ih =>
      intro j m j0 jd f a b
      refine rX12_giveBack_35 (k := k) hE ⟨fun z => absurd z (by omega), fun _ => ⟨⟨by omega, by omega⟩, ⟨by omega, by omega⟩, ?_⟩⟩
      rw [f 611 j (by omega) (by decide), f1 611 j (by omega)]
      refine ih (j + 1) _ (by omega) (by omega) (fun o i u v => (aUp_rn v).trans (f o i u v)) (fun i u v => (aUp_rn (by decide)).trans (a i u v)) (fun i u v => ?_)
      by_cases c : i = j
      · rw [c, aUp_re]
      · rw [aUp_ri c]; exact b i u (by omega)
  have l1 : ∀ (d : Nat) (j : Int) (m : Mm), 0 ≤ j → j + d = 1232 → (∀ o i, ¬ (o = 608 ∧ i < 1232) → m o i = m1 o i) → (∀ i, 0 ≤ i → i < j → m 608 i = mem 610 i) → VM E mX12_giveBack (k + 1) m 8 [(0, aR 603), (1, aI p0), (2, aI j)] [] (retV Q) := by
    intro d
    induction d with
    | zero =>
      intro j m j0 jd f a
      exact rX12_giveBack_8 (k := k) hE ⟨fun _ => l2 16 0 m (by decide) (by decide) (fun o i u _ => f o i u) (fun i u v => a i u (by omega)) (fun i u v => absurd v (by omega)), fun z => absurd z (by omega)⟩
    | succ d ih =>
      intro j m j0 jd f a
      refine rX12_giveBack_8 (k := k) hE ⟨fun z => absurd z (by omega), fun _ => ⟨⟨by omega, by omega⟩, ⟨by omega, by omega⟩, ⟨by omega, by omega⟩, ?_⟩⟩
      rw [f 610 j (by omega), f1 610 j (by omega)]
      refine ih (j + 1) _ (by omega) (by omega) (fun o i u => (aUp_nn (by omega)).trans (f o i u)) (fun i u v => ?_)
      by_cases c : i = j
      · rw [c, aUp_re]
      · rw [aUp_ri c]; exact a i u (by omega)
  exact l1 1232 0 m1 (by decide) (by decide) (fun _ _ _ => rfl) (fun i u v => absurd v (by omega))
/-- the verbs' unused SUMS -/
theorem pT2_v {T : Rw} {n q d q3 d3 t3 : Int} {g1 g2 h1 h2 : Rw → Int} (h : pT2 T n g1 g2 q d = .inl (q3, d3, t3, h1, h2)) : h1 = g1 ∧ h2 = g2 := by
  unfold pT2 at h
  cases e : pTm T n q with
  | inr x => rw [e] at h; cases h
  | inl v =>
    rw [e] at h
    have h := Sum.inl.inj h
    exact ⟨(congrArg (fun v => v.2.2.2.1) h).symm, (congrArg (fun v => v.2.2.2.2) h).symm⟩
theorem pCl_v {T : Rw} {n p c q d : Int} {cl : CLd} (h : pCl true T n p c = .inl (q, d, cl)) : clV cl := by
  unfold pCl at h
  by_cases z : vIx true (tW T n p) = -1
  · rw [if_pos z] at h; cases h
  rw [if_neg z] at h
  generalize vIx true (tW T n p) = v at *
  cases e : pBd true T n v (tT T n p) c with
  | inr x => rw [e] at h; cases h
  | inl w =>
    obtain ⟨q3, d3, t3, g1, g2⟩ := w
    rw [e] at h
    have h : sB (pIf true T n q3 d3) (fun q4 d4 g4 => .inl (q4, d4, v, t3, g1, g2, g4)) = .inl (q, d, cl) := h
    have hv : clV (v, t3, g1, g2, f1) := by
      have e : pAc T n v (tT T n p) c = .inl (q3, d3, t3, g1, g2) := e
      unfold pAc at e
      by_cases v3 : v = 3
      · rw [if_pos v3] at e
        obtain ⟨rfl, rfl⟩ := pT2_v e
        exact ⟨fun _ _ => rfl, fun _ _ => rfl⟩
      · rw [if_neg v3] at e
        refine ⟨fun y => absurd v3 y, fun v0 => ?_⟩
        cases e1 : pSum true T n 8 (tT T n p) c with
        | inr x => rw [e1] at e; cases e
        | inl u =>
          obtain ⟨u1, u2, u3⟩ := u
          rw [e1] at e
          have e : pT2 T n u3 f1 u1 u2 = .inl (q3, d3, t3, g1, g2) := by
            have v0 : ¬ v = 0 := v0
            unfold pA2 at e
            dsimp only at e
            rw [if_neg v0] at e
            exact e
          obtain ⟨-, rfl⟩ := pT2_v e
          exact fun _ => rfl
    cases e2 : pIf true T n q3 d3 with
    | inr x => rw [e2] at h; cases h
    | inl u =>
      obtain ⟨q4, d4, g4⟩ := u
      rw [e2] at h
      have e3 := Sum.inl.inj h
      obtain rfl : (v, t3, g1, g2, g4) = cl := congrArg (fun v => v.2.2) e3
      exact hv
theorem pText_v {T : Rw} {n : Int} : ∀ (k : Nat) (p c : Int) (l : List CLd), pText true T n k p c = .inl l → ∀ cl ∈ l, clV cl := by
  intro k
  induction k with
  | zero => intro p c l h; cases h
  | succ k ih =>
    intro p c l h
    unfold pText at h
    cases e : pCl true T n p c with
    | inr y => rw [e] at h; cases h
    | inl v =>
      obtain ⟨q, d, cl⟩ := v
      rw [e] at h
      dsimp only at h
      have hc := pCl_v e
      by_cases z : tS T n q = 0
      · rw [if_pos z] at h
        obtain rfl := Sum.inl.inj h
        intro x hx
        obtain rfl := List.mem_singleton.mp hx
        exact hc
      · rw [if_neg z] at h
        by_cases g : tG T n q = 59
        · rw [if_pos g] at h
          cases e2 : pText true T n k (tT T n q) d with
          | inr y => rw [e2] at h; cases h
          | inl l2 =>
            rw [e2] at h
            obtain rfl := Sum.inl.inj h
            intro x hx
            rcases List.mem_cons.mp hx with rfl | hx
            · exact hc
            · exact ih _ _ _ e2 x hx
        · rw [if_neg g] at h; cases h
