-- the class's loops over the CLAUSES of ORDERS
theorem oOk_le {r0 : Rw} {d d2 : Int} {s : RS} (h : d ≤ d2) (ho : oOk r0 d s) : oOk r0 d2 s := ⟨ho.1, ho.2.1, ho.2.2.1, ⟨ho.2.2.2.1.1, by have := ho.2.2.2.1.2; omega⟩, ho.2.2.2.2⟩
theorem oRep_1 {L : LW} {cl : CLd} {n : Nat} {s : RS} : oRep L cl (n + 1) s = if (oStep L cl s).1 < 0 then oStep L cl s else oRep L cl n (oStep L cl s).2 := rfl
theorem tx_593 {o : Int} (h : 593 ≤ o) (h2 : o ≤ 600) : ¬ isTx (o - 8) := by unfold isTx; omega
theorem c_ordC {E : EN} (hE : Ep E) {k : Nat} {m0 : Mm} {Q : Int → Mm → Prop} {L : LW} {r0 : Rw} {n : Int} (hn : n ≤ 12) (h0 : m0 593 0 = n) (h8 : m0 593 8 ≤ 400) : ∀ (l : List CLd) (i : Int) (s : RS) (m : Mm), (∀ (j : Nat) cl, l[j]? = some cl → cCk m0 (i + j) cl) → (∀ cl ∈ l, clOk cl) → 0 ≤ i → i + l.length = n → cO m s L → oOk r0 (20 * i) s → cOF m0 m →
    (∀ m2 s2, oAll L l i s = (0, n, s2) → cOF m0 m2 → cO m2 s2 L → oOk r0 240 s2 → R32 (m2 1 8) → CI E mX11_granted (k + 6 + 1) m2 [aR 0, aI (m2 1 8)] Q) →
    (∀ a i2 m2 s2, a < 0 → oAll L l i s = ((if a = -5 then -5 else -3), i2, s2) → 0 ≤ i2 → i2 < n → cOF m0 m2 → (∃ P2, pC m2 P2) → R32 i2 → CV E mX8_giveUpOrders (k + 6 + 1) m2 [aR 1, aI i2] (fun m6 => (¬ a = (-5) → CI E mX11_refused (k + 6 + 1) m6 [aR 0, aI (-3)] Q) ∧ (a = (-5) → CI E mX11_refused (k + 6 + 1) m6 [aR 0, aI (-5)] Q))) → VM E mX11_orders (k + 6 + 1 + 1) m 53 [(0, aR 0), (1, aR 593), (2, aI i)] [] (retI Q) := by
  intro l
  induction l with
  | nil =>
    intro i s m hc hok hi hin hO ho hf hG hB
    have hin : i + 0 = n := hin
    have e0 : m 593 0 = n := (hf.1 _ _ (by omega) (tx_593 (by omega) (by omega)) (by omega) (by omega)).trans h0
    refine rX11_orders_53 (k := k + 6 + 1) hE tx593 ⟨fun _ r => hG m s ?_ hf hO (oOk_le (by omega) ho) r, fun z => absurd z (by omega)⟩
    show ((0 : Int), i, s) = (0, n, s)
    rw [show i = n by omega]
  | cons cl l ih =>
    intro i s m hc hok hi hin hO ho hf hG hB
    have hin : i + ((l.length : Int) + 1) = n := by rw [← hin]; simp
    have e0 : m 593 0 = n := (hf.1 _ _ (by omega) (tx_593 (by omega) (by omega)) (by omega) (by omega)).trans h0
    have hcl := hok cl (List.mem_cons_self ..)
    obtain ⟨k1, k2, k3, k4, -⟩ := hcl
    have hc0 : cCk m0 i cl := by have := hc 0 cl rfl; rwa [show i + ((0 : Nat) : Int) = i by omega] at this
    have rep : ∀ (d : Nat) (j : Int) (s' : RS) (m' : Mm), 0 ≤ j → j + d = cl.2.1 → cO m' s' L → oOk r0 (20 * i + j) s' → cOF m0 m' → oRep L cl d s' = oRep L cl cl.2.1.toNat s → VM E mX11_orders (k + 6 + 1 + 1) m' 69 [(0, aR 0), (1, aR 593), (2, aI i), (3, aI j)] [] (retI Q) := by
      intro d
      induction d with
      | zero =>
        intro j s' m' hj hjd hO' ho' hf' hR
        obtain rfl : j = cl.2.1 := by omega
        have eC := cCk_fr (fun o x u v => hf'.1 o x (by omega) (tx_593 u v) (by omega) (by omega)) hc0
        have hR : ((0 : Int), s') = oRep L cl cl.2.1.toNat s := hR
        have eA : oAll L (cl :: l) i s = oAll L l (i + 1) s' := by
          show (if (oRep L cl cl.2.1.toNat s).1 < 0 then ((oRep L cl cl.2.1.toNat s).1, i, (oRep L cl cl.2.1.toNat s).2) else oAll L l (i + 1) (oRep L cl cl.2.1.toNat s).2) = _
          rw [← hR, if_neg (show ¬ (0 : Int) < 0 by decide)]
        refine rX11_orders_69 (k := k + 6 + 1) hE tx593 ⟨⟨by omega, by omega⟩, fun _ => ⟨⟨by omega, by omega⟩, ?_⟩, fun z => absurd z (by have := eC.2.1; omega)⟩
        refine ih (i + 1) s' m' (fun x c h => ?_) (fun c h => hok c (List.mem_cons_of_mem _ h)) (by omega) (by omega) hO' (oOk_le (by omega) ho') hf' (fun m2 s2 h => hG m2 s2 (eA.trans h)) (fun a i2 m2 s2 ha h h0 => hB a i2 m2 s2 ha (eA.trans h) h0)
        have := hc (x + 1) c h
        rwa [show i + ((x + 1 : Nat) : Int) = i + 1 + (x : Int) by omega] at this
      | succ d ihd =>
        intro j s' m' hj hjd hO' ho' hf' hR
        have eC := cCk_fr (fun o x u v => hf'.1 o x (by omega) (tx_593 u v) (by omega) (by omega)) hc0
        have e8 : m' 593 8 ≤ 400 := by rw [hf'.1 593 8 (by omega) (tx_593 (by omega) (by omega)) (by omega) (by omega)]; exact h8
        have e2 := eC.2.1
        refine rX11_orders_69 (k := k + 6 + 1) hE tx593 ⟨⟨by omega, by omega⟩, fun z => absurd z (by omega), fun _ r => ?_⟩
        rw [oRep_1] at hR
        refine c_obey (k := k) (L := L) (s := s') (cl := cl) hE hO' ho' (by omega) eC (hok cl (List.mem_cons_self ..)) ⟨by omega, by omega⟩ e8 fun a m2 g1 g2 g3 => ⟨fun za => ?_, fun za r2 => ?_⟩
        · rcases g3 with ⟨-, b1, b2⟩ | ⟨b0, -⟩
          · rw [b1, if_neg (by decide)] at hR
            exact ⟨⟨by omega, by omega⟩, ihd (j + 1) _ m2 (by omega) (by omega) b2 (oOk_le (by omega) (oStep_ok ho')) (cOF_tr hf' g1) hR⟩
          · exact absurd b0 (by omega)
        · rcases g3 with ⟨b0, -⟩ | ⟨b0, b1⟩
          · exact absurd b0 (by omega)
          · have b2 : (oStep L cl s').1 < 0 := by rw [b1]; split <;> decide
            rw [if_pos b2] at hR
            refine hB a i m2 (oStep L cl s').2 za ?_ hi (by omega) (cOF_tr hf' g1) g2 r2
            show (if (oRep L cl cl.2.1.toNat s).1 < 0 then ((oRep L cl cl.2.1.toNat s).1, i, (oRep L cl cl.2.1.toNat s).2) else oAll L l (i + 1) (oRep L cl cl.2.1.toNat s).2) = _
            rw [← hR, if_pos b2, b1]
    refine rX11_orders_53 (k := k + 6 + 1) hE tx593 ⟨fun z => absurd z (by omega), fun _ => ⟨fun z => absurd z (by omega), fun _ => ?_⟩⟩
    exact rep cl.2.1.toNat 0 s m (by decide) (by omega) hO (oOk_le (by omega) ho) hf rfl
