-- the class runs ORDERS
def cOF (m m2 : Mm) : Prop := (∀ o i, ¬ (2 ≤ o ∧ o ≤ 174) → ¬ isTx (o - 8) → ¬ (o = 1 ∧ (i = 6 ∨ i = 7 ∨ i = 8)) → o ≠ 348 → m2 o i = m o i) ∧ m2 2 9 = m 2 9
theorem cOF_rf {m : Mm} : cOF m m := ⟨fun _ _ _ _ _ _ => rfl, rfl⟩
theorem cOF_tr {m m2 m3 : Mm} (h : cOF m m2) (h2 : cOF m2 m3) : cOF m m3 := ⟨fun o i a b c d => (h2.1 o i a b c d).trans (h.1 o i a b c d), h2.2.trans h.2⟩
def cO (m : Mm) (s : RS) (L : LW) : Prop := cV m s.1 s.2.1 L ∧ m 1 8 = s.2.2.1 ∧ m 1 7 = s.2.2.2.1 ∧ m 1 6 = s.2.2.2.2
theorem tx593 : isTx 593 := by unfold isTx; omega
theorem cV_o {m m2 : Mm} {r : Rw} {P : PS} {L : LW} (h16 : P.1 ≤ 16) (h : ∀ o i, o ≠ 348 → ¬ isTx (o - 8) → o ≠ 1 → m2 o i = m o i) (hV : cV m r P L) : cV m2 r P L := by
  obtain ⟨a, b, c⟩ := hV
  refine ⟨yR_fr a (h _ _ (by decide) (by unfold isTx; omega) (by decide)) (fun o i u v => h o i (by omega) (by unfold isTx; omega) (by omega)), pC_fr h16 (fun o i u v => h o i (by omega) (by unfold isTx; omega) (by omega)) b, ?_⟩
  unfold yL at c ⊢
  rw [h 2 9 (by decide) (by unfold isTx; omega) (by decide)]
  rcases c with q | ⟨q, D, q2, q3⟩
  · exact Or.inl q
  · exact Or.inr ⟨q, D, TxS_fr (fun o i u v => h o i (by have := tx_lt q; omega) (tx_stk q u v) (by have := tx_lt q; omega)) q2, q3⟩
/-- a CLAUSE of ORDERS in the class's text -/
def cCk (m : Mm) (i : Int) (cl : CLd) : Prop := m (593 + 1) i = cl.1 ∧ m (593 + 2) i = cl.2.1 ∧ vS m 593 78 (m (593 + 3) i) cl.2.2.1 ∧ vS m 593 78 (m (593 + 4) i) cl.2.2.2.1 ∧ vS m 593 78 (m (593 + 5) i) cl.2.2.2.2
theorem cCk_fr {m m2 : Mm} {i : Int} {cl : CLd} (h : ∀ o j, 593 ≤ o → o ≤ 600 → m2 o j = m o j) (hc : cCk m i cl) : cCk m2 i cl := by
  have e6 : m2 (593 + 6) = m (593 + 6) := funext fun j => h _ _ (by omega) (by omega)
  have e7 : m2 (593 + 7) = m (593 + 7) := funext fun j => h _ _ (by omega) (by omega)
  unfold cCk vS at *
  rw [e6, e7, h 593 8 (by omega) (by omega), h (593 + 1) i (by omega) (by omega), h (593 + 2) i (by omega) (by omega), h (593 + 3) i (by omega) (by omega), h (593 + 4) i (by omega) (by omega), h (593 + 5) i (by omega) (by omega)]
  exact hc
theorem vB_r {f : Rw → Int} (h : vB f) {w : Rw} (hw : wOk w) : R32 (f w) := by
  have := bRK_v
  rcases h w hw with z | z
  · rw [z]; exact ⟨by omega, by omega⟩
  · exact ⟨by omega, by omega⟩
theorem c_obey {E : EN} (hE : Ep E) {k : Nat} {mem : Mm} {Q : Int → Mm → Prop} {L : LW} {s : RS} {cl : CLd} {i d : Int} {r0 : Rw} (hO : cO mem s L) (ho : oOk r0 d s) (hd : d ≤ 1000) (hc : cCk mem i cl) (hok : clOk cl) (hi : 0 ≤ i ∧ i < 12) (h8 : mem 593 8 ≤ 400)
    (hQ : ∀ a m2, cOF mem m2 → (∃ P2, pC m2 P2) → ((0 ≤ a ∧ (oStep L cl s).1 = 0 ∧ cO m2 (oStep L cl s).2 L) ∨ (a < 0 ∧ (oStep L cl s).1 = (if a = -5 then -5 else -3))) → Q a m2) : CI E mX8_obey (k + 6 + 1) mem [aR 1, aR 593, aI i] Q := by
  obtain ⟨hV, e8, e7, e6⟩ := hO
  obtain ⟨h1, h2, h3, h4, h5, h6, h7⟩ := ho
  obtain ⟨k1, k2, k3, k4, k5, k6, k7⟩ := hok
  have hbk := bRK_v
  have hw := wO_ok h1 (dn := s.2.2.1) (mv := s.2.2.2.1) ⟨h4.1, by omega⟩ h5
  have h30 : mem 10 0 = s.1 3 := hV.1.2.2.2 0 (by decide) (by decide)
  refine eX8_obey ⟨by omega, by omega⟩ (rX8_obey_0 (k := k + 6) hE tx593 (s_tellO hE hV.1 h1.2.1 h30 e8 e7 fun m1 a1 a2 => ⟨hi, fun r1 => ?_⟩))
  have hw1 : ∀ j : Int, 0 ≤ j → j < ((78 : Nat) : Int) → m1 348 j = wO s.1 s.2.2.1 s.2.2.2.1 j := fun j u v => a2 j u (by omega)
  have c1 : cCk m1 i cl := cCk_fr (fun o j u v => a1 o j (by omega)) hc
  refine s_value (k := k + 5) (N := 78) hE tx593 r1 at348 (by decide) (by decide) hw1 hw (by rw [a1 _ _ (by decide)]; exact h8) c1.2.2.2.2 fun m3 b1 => ?_
  have f3 : ∀ o j, o ≠ 348 → ¬ isTx (o - 8) → m3 o j = mem o j := fun o j u v => (b1 o j (by unfold isTx at v; omega)).trans (a1 o j u)
  refine ⟨fun q r2 => ?_, fun q => ?_⟩
  · have c3 : cCk m3 i cl := cCk_fr (fun o j u v => b1 o j (by omega)) c1
    refine s_value (k := k + 5) (N := 78) hE tx593 r2 at348 (by decide) (by decide) (fun j u v => (b1 _ _ (by decide)).trans (hw1 j u v)) hw (by rw [f3 _ _ (by decide) (by unfold isTx; omega)]; exact h8) c3.2.2.1 fun m5 b2 r3 => ?_
    have c5 : cCk m5 i cl := cCk_fr (fun o j u v => b2 o j (by omega)) c3
    refine s_value (k := k + 5) (N := 78) hE tx593 r3 at348 (by decide) (by decide) (fun j u v => (b2 _ _ (by decide)).trans ((b1 _ _ (by decide)).trans (hw1 j u v))) hw (by rw [b2 _ _ (by decide), f3 _ _ (by decide) (by unfold isTx; omega)]; exact h8) c5.2.2.2.1 fun m7 b3 => ?_
    have f7 : ∀ o j, o ≠ 348 → ¬ isTx (o - 8) → m7 o j = mem o j := fun o j u v => (b3 o j (by unfold isTx at v; omega)).trans ((b2 o j (by unfold isTx at v; omega)).trans (f3 o j u v))
    have c7 : cCk m7 i cl := cCk_fr (fun o j u v => b3 o j (by omega)) c5
    have g7 : cOF mem m7 := ⟨fun o j _ u _ v => f7 o j v u, f7 _ _ (by decide) (by unfold isTx; omega)⟩
    have V7 : cV m7 s.1 s.2.1 L := cV_o h2.2.1 (fun o j u v _ => f7 o j u v) hV
    have brk : cl.2.2.1 (wO s.1 s.2.2.1 s.2.2.2.1) = bRK ∨ cl.2.2.2.1 (wO s.1 s.2.2.1 s.2.2.2.1) = bRK → Q (-3) m7 := fun z => hQ (-3) m7 g7 ⟨_, V7.2.1⟩ (Or.inr ⟨by decide, by rw [show oStep L cl s = (-3, s) from (if_neg (Classical.not_not.mpr q)).trans (if_pos z)]; rfl⟩)
    refine ⟨fun z => brk (Or.inl z), fun zx => ⟨fun zy => ?_, fun z => brk (Or.inr z)⟩⟩
    have e18 : m7 1 8 = s.2.2.1 := (f7 _ _ (by decide) (by unfold isTx; omega)).trans e8
    rw [e18]
    refine ⟨⟨by omega, by omega⟩, ?_⟩
    have f8 : ∀ o j, ¬ (o = 1 ∧ j = 8) → (aUp m7 1 8 (s.2.2.1 + 1)) o j = m7 o j := fun o j z => aUp_nn z
    have e88 : (aUp m7 1 8 (s.2.2.1 + 1)) 1 8 = s.2.2.1 + 1 := aUp_re
    have V8 : cV (aUp m7 1 8 (s.2.2.1 + 1)) s.1 s.2.1 L := cV_o h2.2.1 (fun o j _ _ w => f8 o j (by omega)) V7
    have ev : (aUp m7 1 8 (s.2.2.1 + 1)) (593 + 1) i = cl.1 := (f8 _ _ (by omega)).trans c7.1
    rw [ev]
    generalize (aUp m7 1 8 (s.2.2.1 + 1)) = m8 at *
    have e87 : m8 1 7 = s.2.2.2.1 := (f8 _ _ (by omega)).trans ((f7 _ _ (by decide) (by unfold isTx; omega)).trans e7)
    have e86 : m8 1 6 = s.2.2.2.2 := (f8 _ _ (by omega)).trans ((f7 _ _ (by decide) (by unfold isTx; omega)).trans e6)
    have fin : ∀ m9, aFr m8 m9 → m9 2 9 = m8 2 9 → cV m9 (oAct L cl s).2.1 (oAct L cl s).2.2 L → (0 ≤ (oAct L cl s).1 → m9 1 7 = (oNext L cl s).2.2.2.1 ∧ m9 1 6 = (oNext L cl s).2.2.2.2) → Q (oAct L cl s).1 m9 := by
      intro m9 g1 g2 g3 g4
      have eS : oStep L cl s = if (oAct L cl s).1 < 0 then ((if (oAct L cl s).1 = -5 then -5 else -3), s) else (0, oNext L cl s) := (if_neg (Classical.not_not.mpr q)).trans (if_neg fun z => z.elim zx zy)
      refine hQ _ m9 ⟨fun o j u v w x => (g1 o j u v (by omega)).trans ((f8 o j (by omega)).trans (f7 o j x v)), g2.trans ((f8 _ _ (by omega)).trans (f7 _ _ (by decide) (by unfold isTx; omega)))⟩ ⟨_, g3.2.1⟩ ?_
      rw [eS]
      by_cases c : (oAct L cl s).1 < 0
      · rw [if_pos c]; exact Or.inr ⟨c, rfl⟩
      · rw [if_neg c]
        exact Or.inl ⟨by omega, rfl, g3, (g1 1 8 (by omega) (by unfold isTx; omega) (by omega)).trans e88, (g4 (by omega)).1, (g4 (by omega)).2⟩
    have rx := vB_r k5 hw
    have ry := vB_r k6 hw
    refine ⟨fun v0 _ _ => ?_, fun v1 _ => ?_, fun v2 _ => ?_, fun v3 => ?_⟩
    · have eA : oAct L cl s = aBury L s.1 s.2.1 (cl.2.2.1 (wO s.1 s.2.2.1 s.2.2.2.1)) (cl.2.2.2.1 (wO s.1 s.2.2.1 s.2.2.2.1)) 0 := if_pos v0
      have n7 : (oNext L cl s).2.2.2.1 = s.2.2.2.1 := if_neg (by omega)
      have n6 : (oNext L cl s).2.2.2.2 = s.2.2.2.2 := if_neg (by omega)
      rw [eA, n7, n6] at fin
      exact s_layDown (k := k + 1) hE V8 h1 h2 rx ry (by decide) fun m9 g1 g2 g3 g4 => fin m9 g1 g2 g4 fun _ => ⟨(g3 7).trans e87, (g3 6).trans e86⟩
    · have eA : oAct L cl s = aBuy s.1 s.2.1 (cl.2.2.1 (wO s.1 s.2.2.1 s.2.2.2.1)) := (if_neg (by omega)).trans (if_pos v1)
      have n7 : (oNext L cl s).2.2.2.1 = s.2.2.2.1 := if_neg (by omega)
      have n6 : (oNext L cl s).2.2.2.2 = s.2.2.2.2 := if_neg (by omega)
      rw [eA, n7, n6] at fin
      exact s_purchase (k := k + 3) hE V8 h2 rx fun m9 g1 g2 g3 g4 => fin m9 g1 g2 g4 fun _ => ⟨(g3 7).trans e87, (g3 6).trans e86⟩
    · have eA : oAct L cl s = aRaise s.1 s.2.1 (cl.2.2.1 (wO s.1 s.2.2.1 s.2.2.2.1)) := (if_neg (by omega)).trans ((if_neg (by omega)).trans (if_pos v2))
      have n7 : (oNext L cl s).2.2.2.1 = s.2.2.2.1 := if_neg (by omega)
      have n6 : (oNext L cl s).2.2.2.2 = s.2.2.2.2 := if_neg (by omega)
      rw [eA, n7, n6] at fin
      exact s_takeUp (k := k + 3) hE V8 h1 h2 rx fun m9 g1 g2 g3 g4 => fin m9 g1 g2 g4 fun _ => ⟨(g3 7).trans e87, (g3 6).trans e86⟩
    · have v3 : cl.1 = 3 := by omega
      have eA : oAct L cl s = aPass L s.1 s.2.1 := (if_neg (by omega)).trans ((if_neg (by omega)).trans (if_neg (by omega)))
      have n7 : (oNext L cl s).2.2.2.1 = (aPass L s.1 s.2.1).1 := (if_pos v3).trans (by rw [eA])
      have n6 : (oNext L cl s).2.2.2.2 = (rTn L s.1).2.2 := if_pos v3
      rw [eA, n7, n6] at fin
      refine s_bringYear (k := k + 1) hE V8 h1 h2 fun m9 g1 g2 g3 g4 g5 g6 => fin m9 g1 g2 g4 fun z => ?_
      have hn : ¬ 999 ≤ s.1 3 := fun y => by
        unfold aPass at z
        rw [if_pos y] at z
        exact absurd (show (0 : Int) ≤ -3 from z) (by decide)
      rw [if_neg hn] at g5 g6
      exact ⟨g6.trans (by unfold aPass; rw [if_neg hn]), g5⟩
  · have eS : oStep L cl s = (0, s) := if_pos q
    have V3 : cV m3 s.1 s.2.1 L := cV_o h2.2.1 (fun o j u v _ => f3 o j u v) hV
    refine hQ 0 m3 ⟨fun o j _ u _ v => f3 o j v u, f3 _ _ (by decide) (by unfold isTx; omega)⟩ ⟨_, V3.2.1⟩ (Or.inl ⟨by decide, by rw [eS], ?_⟩)
    rw [eS]
    exact ⟨V3, (f3 _ _ (by decide) (by unfold isTx; omega)).trans e8, (f3 _ _ (by decide) (by unfold isTx; omega)).trans e7, (f3 _ _ (by decide) (by unfold isTx; omega)).trans e6⟩
