-- the model runs a CLAUSE of ORDERS
def mOF (m m2 : Mm) : Prop := ∀ o i, o ≠ 605 → ¬ (o = 608 ∧ i < 1232) → o ≠ 609 → o ≠ 621 → o ≠ 622 → o ≠ 623 → o ≠ 624 → ¬ (o = 603 ∧ (i = 8 ∨ i = 20 ∨ i = 34 ∨ (38 ≤ i ∧ i ≤ 43) ∨ i = 54 ∨ i = 55 ∨ i = 57)) → m2 o i = m o i
theorem mOF_rf {m : Mm} : mOF m m := fun _ _ _ _ _ _ _ _ _ _ => rfl
theorem mOF_tr {m m2 m3 : Mm} (h : mOF m m2) (h2 : mOF m2 m3) : mOF m m3 := fun o i a b c d e f g x => (h2 o i a b c d e f g x).trans (h o i a b c d e f g x)
theorem mOF_s {m m2 : Mm} (h : sFr m m2) : mOF m m2 := fun o i _ _ _ _ _ e _ g => h o i e fun z => g ⟨z.1, by omega⟩
theorem mOF_b {m m2 : Mm} (h : bFr m m2) : mOF m m2 := fun o i a b c d _ e f g => h o i a b c d e f fun z => g ⟨z.1, by omega⟩
def mO (m : Mm) (s : RS) (L : LW) : Prop := mV m s.1 s.2.1 L ∧ m 603 54 = s.2.2.1 ∧ m 603 55 = s.2.2.2.1 ∧ m 603 43 = s.2.2.2.2
theorem mV_o {m m2 : Mm} {r : Rw} {P : PS} {L : LW} (h16 : P.1 ≤ 16) (h5 : ∀ i, m2 605 i = m 605 i) (h8 : ∀ i, i < 1232 → m2 608 i = m 608 i) (h9 : ∀ i, m2 609 i = m 609 i) (hn : m2 603 8 = m 603 8) (h20 : m2 603 20 = 0) (h : mV m r P L) : mV m2 r P L :=
  ⟨(funext h5).trans h.1, pM_row (fun i _ => h5 i) h8 h9 hn h16 h.2.1, mL_eq (funext h5) h.2.2.1, h20⟩
theorem m_run {E : EN} (hE : Ep E) {K : Nat} {mem : Mm} {Q : Int → Mm → Prop} {L : LW} {s : RS} {cl : CLd} {i d S : Int} {r0 : Rw} (hO : mO mem s L) (ho : oOk r0 d s) (hd : d ≤ 1000) (hc : mOr mem S i cl) (hok : clOk cl) (h3 : ¬ ¬ cl.1 = 3 → ∀ w, cl.2.2.1 w = 1) (h0 : ¬ cl.1 = 0 → ∀ w, cl.2.2.2.1 w = 1) (hi : 0 ≤ i ∧ i < 12) (hS : S ≤ 400)
    (hG : ∀ m2, mOF mem m2 → (oStep L cl s).1 = 0 → mO m2 (oStep L cl s).2 L → Q 0 m2)
    (hB : ∀ m2, mOF mem m2 → (oStep L cl s).1 < 0 → (∀ j, j < 3 ∨ 80 ≤ j → m2 605 j = r0 j) → m2 603 20 = 0 → Q (oStep L cl s).1 m2) : CI E mX12_run (K + 9 + 1) mem [aR 603, aI (8 * i)] Q := by
  obtain ⟨hV, e54, e55, e43⟩ := hO
  obtain ⟨q1, q2, q3, q4, q5, q6, q7⟩ := ho
  obtain ⟨k1, k2, k3, k4, k5, k6, k7⟩ := hok
  obtain ⟨⟨c1, c2, c3⟩, c4, c5⟩ := hc
  have hbk := bRK_v
  have hw := wO_ok q1 (dn := s.2.2.1) (mv := s.2.2.2.1) ⟨q4.1, by omega⟩ q5
  have hdn : 0 ≤ s.2.2.1 ∧ s.2.2.1 ≤ 1000 := ⟨q4.1, by omega⟩
  have e605 : mem 605 = s.1 := hV.1
  refine eX12_run (k := K + 9) ⟨by omega, by omega⟩ (rX12_run_0 (k := K + 9) hE (m_term hE (by decide) (by decide) ?_))
  have f1 : ∀ o j, o ≠ 622 → ¬ (o = 603 ∧ j = 57) → (aUp (aUp (aUp (aUp (aUp mem 622 1 (mem 605 (3 + 0))) 622 2 (mem 605 7)) 622 3 (mem 603 54)) 622 4 (mem 603 55)) 603 57 0) o j = mem o j := fun o j u v => by rw [aUp_nn v, aUp_rn u, aUp_rn u, aUp_rn u, aUp_rn u]
  have w1 : (aUp (aUp (aUp (aUp (aUp mem 622 1 (mem 605 (3 + 0))) 622 2 (mem 605 7)) 622 3 (mem 603 54)) 622 4 (mem 603 55)) 603 57 0) 622 1 = s.1 3 := by rw [aUp_rn (by decide), aUp_ri (by decide), aUp_ri (by decide), aUp_ri (by decide), aUp_re, e605]; rfl
  have w2 : (aUp (aUp (aUp (aUp (aUp mem 622 1 (mem 605 (3 + 0))) 622 2 (mem 605 7)) 622 3 (mem 603 54)) 622 4 (mem 603 55)) 603 57 0) 622 2 = s.1 7 := by rw [aUp_rn (by decide), aUp_ri (by decide), aUp_ri (by decide), aUp_re, e605]
  have w3 : (aUp (aUp (aUp (aUp (aUp mem 622 1 (mem 605 (3 + 0))) 622 2 (mem 605 7)) 622 3 (mem 603 54)) 622 4 (mem 603 55)) 603 57 0) 622 3 = s.2.2.1 := by rw [aUp_rn (by decide), aUp_ri (by decide), aUp_re]; exact e54
  have w4 : (aUp (aUp (aUp (aUp (aUp mem 622 1 (mem 605 (3 + 0))) 622 2 (mem 605 7)) 622 3 (mem 603 54)) 622 4 (mem 603 55)) 603 57 0) 622 4 = s.2.2.2.1 := by rw [aUp_rn (by decide), aUp_re]; exact e55
  have w57 : (aUp (aUp (aUp (aUp (aUp mem 622 1 (mem 605 (3 + 0))) 622 2 (mem 605 7)) 622 3 (mem 603 54)) 622 4 (mem 603 55)) 603 57 0) 603 57 = 0 := aUp_re
  generalize (aUp (aUp (aUp (aUp (aUp mem 622 1 (mem 605 (3 + 0))) 622 2 (mem 605 7)) 622 3 (mem 603 54)) 622 4 (mem 603 55)) 603 57 0) = m1 at *
  have g1 : mOF mem m1 := fun o j _ _ _ _ a _ _ b => f1 o j a (by omega)
  have w20 : m1 603 20 = 0 := (f1 _ _ (by decide) (by decide)).trans hV.2.2.2
  have eO : ∀ mb, sFr m1 mb → mb 614 = mem 614 ∧ mb 615 = mem 615 ∧ mb 634 = mem 634 ∧ mb 605 = s.1 := fun mb g => ⟨funext fun j => (g _ _ (by decide) (by omega)).trans (f1 _ _ (by decide) (by omega)), funext fun j => (g _ _ (by decide) (by omega)).trans (f1 _ _ (by decide) (by omega)), funext fun j => (g _ _ (by decide) (by omega)).trans (f1 _ _ (by decide) (by omega)), (funext fun j => (g _ _ (by decide) (by omega)).trans (f1 _ _ (by decide) (by omega))).trans e605⟩
  have Vb : ∀ mb, sFr m1 mb → mb 603 20 = 0 → mV mb s.1 s.2.1 L := fun mb g h20 => mV_o q2.2.1 (fun j => (g _ _ (by decide) (by omega)).trans (f1 _ _ (by decide) (by omega))) (fun j _ => (g _ _ (by decide) (by omega)).trans (f1 _ _ (by decide) (by omega))) (fun j => (g _ _ (by decide) (by omega)).trans (f1 _ _ (by decide) (by omega))) ((g _ _ (by decide) (by omega)).trans (f1 _ _ (by decide) (by omega))) h20 hV
  have Ob : ∀ mb, sFr m1 mb → mOF mem mb := fun mb g => mOF_tr g1 (mOF_s g)
  have gNo : ∀ mb, sFr m1 mb → mb 603 20 = 0 → ¬ cl.2.2.2.2 (wO s.1 s.2.2.1 s.2.2.2.1) = 1 → Q 0 mb := by
    intro mb g h20 q
    have eS : oStep L cl s = (0, s) := if_pos q
    refine hG mb (Ob mb g) (by rw [eS]) ?_
    rw [eS]
    exact ⟨Vb mb g h20, (g _ _ (by decide) (by omega)).trans ((f1 _ _ (by decide) (by omega)).trans e54), (g _ _ (by decide) (by omega)).trans ((f1 _ _ (by decide) (by omega)).trans e55), (g _ _ (by decide) (by omega)).trans ((f1 _ _ (by decide) (by omega)).trans e43)⟩
  have one : ∀ (mb : Mm) (j : Int) (F : Rw → Int) (b : Prop), sFr m1 mb → mb 603 57 = 0 → mb 603 20 = 0 → mSo mem S b (mem 634 j) (mem 634 (j + 1)) F → (¬ b → ∀ w, F w = 1) → vB F → 0 ≤ j ∧ j < 95 → R32 j → ∀ Z : Int → Mm → Prop, (∀ v m2, sFr m1 m2 → m2 603 20 = 0 → ((F (wO s.1 s.2.2.1 s.2.2.2.1) = bRK ∧ m2 603 57 = 1) ∨ (¬ F (wO s.1 s.2.2.1 s.2.2.2.1) = bRK ∧ m2 603 57 = 0 ∧ (b → v = F (wO s.1 s.2.2.1 s.2.2.2.1)))) → Z v m2) → CI E mX12_sumOf (K + 6 + 2 + 1) mb [aR 603, aI j] Z := by
    intro mb j F b g h57 h20 hs hb vF hj rj Z hZ
    obtain ⟨p1, p2, p3, p4⟩ := eO mb g
    have e2 : ∀ x, mb 622 x = m1 622 x := fun x => g _ _ (by decide) (by omega)
    by_cases hb2 : b
    · obtain ⟨s1, s2⟩ := hs.1 hb2
      rw [← p1, ← p2] at s1
      exact m_sumO (k := K + 6) hE p4 q1 hdn q5 ((e2 1).trans w1) ((e2 2).trans w2) ((e2 3).trans w3) ((e2 4).trans w4) h57 hj rj (by rw [p3]) (by rw [p3]) s1 (by omega) vF fun v m2 a1 a2 a3 => hZ v m2 (sFr_tr g a1) a2 (a3.imp id fun z => ⟨z.1, z.2.1, fun _ => z.2.2⟩)
    · exact m_sumN (k := K + 6 + 2) hE hj rj (Or.inr (by rw [p3]; exact hs.2 hb2)) (hZ _ _ g h20 (Or.inr ⟨by rw [hb hb2]; decide, h57, fun z => absurd z hb2⟩))
  -- both SUMS and the act
  have sums : ∀ mb, sFr m1 mb → mb 603 57 = 0 → mb 603 20 = 0 → cl.2.2.2.2 (wO s.1 s.2.2.1 s.2.2.2.1) = 1 → (R32 (8 * i + 1)) ∧ (R32 (8 * i + 1) → CI E mX12_sumOf (K + 9) mb [aR 603, aI (8 * i + 1)] (fun r22 m21 => (R32 (8 * i + 3)) ∧ (R32 (8 * i + 3) → CI E mX12_sumOf (K + 9) m21 [aR 603, aI (8 * i + 3)] (fun r25 m24 => (((m24 603 57) = 0 → (0 ≤ 8 * i ∧ 8 * i < 96) ∧ (R32 (m24 634 (8 * i)) → R32 r22 → R32 r25 → CI E mX12_act (K + 9) m24 [aR 603, aI (m24 634 (8 * i)), aI r22, aI r25] (fun r28 m27 => ((0 ≤ r28 → ((¬ (m27 634 (8 * i)) = 3 → (R32 ((m27 603 54) + 1)) ∧ Q 0 (aUp (aUp m27 603 55 (m27 603 55)) 603 54 ((m27 603 54) + 1))) ∧ ((m27 634 (8 * i)) = 3 → (R32 ((m27 603 54) + 1)) ∧ Q 0 (aUp (aUp m27 603 55 r28) 603 54 ((m27 603 54) + 1))))) ∧ (r28 < 0 → ((¬ r28 = (-5) → Q (-3) m27) ∧ (r28 = (-5) → Q (-5) m27))))))) ∧ (¬ (m24 603 57) = 0 → Q (-3) m24)))))) := by
    intro mb gb b57 b20 ht
    have brk : ∀ m2, sFr m1 m2 → m2 603 20 = 0 → (cl.2.2.1 (wO s.1 s.2.2.1 s.2.2.2.1) = bRK ∨ cl.2.2.2.1 (wO s.1 s.2.2.1 s.2.2.2.1) = bRK) → Q (-3) m2 := by
      intro m2 g h20 z
      have eS : oStep L cl s = (-3, s) := (if_neg (Classical.not_not.mpr ht)).trans (if_pos z)
      have := hB m2 (Ob m2 g) (by rw [eS]; exact (by decide : (-3 : Int) < 0)) (fun j hj => by rw [(eO m2 g).2.2.2]; exact q3 j hj) h20
      rw [eS] at this
      exact this
    refine ⟨⟨by omega, by omega⟩, fun r1 => one mb (8 * i + 1) cl.2.2.1 (¬ cl.1 = 3) gb b57 b20 (by rw [show 8 * i + 1 + 1 = 8 * i + 2 by omega]; exact c2) h3 k5 ⟨by omega, by omega⟩ r1 _ fun v1 m21 g21 h21 a21 => ⟨⟨by omega, by omega⟩, fun r3 => ?_⟩⟩
    rcases a21 with ⟨z1, z2⟩ | ⟨zx, z2, z3⟩
    · refine m_sumN (k := K + 8) hE ⟨by omega, by omega⟩ r3 (Or.inl (by rw [z2]; decide)) ⟨fun y => absurd (z2.symm.trans y) (by decide), fun _ => brk m21 g21 h21 (Or.inl z1)⟩
    refine one m21 (8 * i + 3) cl.2.2.2.1 (cl.1 = 0) g21 z2 h21 (by rw [show 8 * i + 3 + 1 = 8 * i + 4 by omega]; exact c3) h0 k6 ⟨by omega, by omega⟩ r3 _ fun v2 m24 g24 h24 a24 => ?_
    rcases a24 with ⟨y1, y2⟩ | ⟨zy, y2, y3⟩
    · exact ⟨fun y => absurd (y2.symm.trans y) (by decide), fun _ => brk m24 g24 h24 (Or.inr y1)⟩
    refine ⟨fun _ => ⟨⟨by omega, by omega⟩, fun _ rv1 rv2 => ?_⟩, fun y => absurd y2 y⟩
    have ev : m24 634 (8 * i) = cl.1 := by rw [(eO m24 g24).2.2.1]; exact c1
    rw [ev]
    have V := Vb m24 g24 h24
    have x54 : m24 603 54 = s.2.2.1 := (g24 _ _ (by decide) (by omega)).trans ((f1 _ _ (by decide) (by omega)).trans e54)
    have x55 : m24 603 55 = s.2.2.2.1 := (g24 _ _ (by decide) (by omega)).trans ((f1 _ _ (by decide) (by omega)).trans e55)
    have x43 : m24 603 43 = s.2.2.2.2 := (g24 _ _ (by decide) (by omega)).trans ((f1 _ _ (by decide) (by omega)).trans e43)
    have fin : ∀ m27, bFr m24 m27 → mV m27 (oAct L cl s).2.1 (oAct L cl s).2.2 L → (0 ≤ (oAct L cl s).1 → m27 603 43 = (oNext L cl s).2.2.2.2) → ((0 ≤ (oAct L cl s).1 → ((¬ (m27 634 (8 * i)) = 3 → (R32 ((m27 603 54) + 1)) ∧ Q 0 (aUp (aUp m27 603 55 (m27 603 55)) 603 54 ((m27 603 54) + 1))) ∧ ((m27 634 (8 * i)) = 3 → (R32 ((m27 603 54) + 1)) ∧ Q 0 (aUp (aUp m27 603 55 (oAct L cl s).1) 603 54 ((m27 603 54) + 1))))) ∧ ((oAct L cl s).1 < 0 → ((¬ (oAct L cl s).1 = (-5) → Q (-3) m27) ∧ ((oAct L cl s).1 = (-5) → Q (-5) m27)))) := by
      intro m27 b1 b2 b3
      have eS : oStep L cl s = if (oAct L cl s).1 < 0 then ((if (oAct L cl s).1 = -5 then -5 else -3), s) else (0, oNext L cl s) := (if_neg (Classical.not_not.mpr ht)).trans (if_neg fun z => z.elim zx zy)
      obtain ⟨o1, o2, o3, o4, o5⟩ : aOk s.1 (oAct L cl s) := aAct_ok q1 q2
      have u27 : m27 634 (8 * i) = cl.1 := (b1 _ _ (by decide) (by omega) (by decide) (by decide) (by decide) (by decide) (by omega)).trans ev
      have u54 : m27 603 54 = s.2.2.1 := (b1 _ _ (by decide) (by decide) (by decide) (by decide) (by decide) (by decide) (by omega)).trans x54
      have u55 : m27 603 55 = s.2.2.2.1 := (b1 _ _ (by decide) (by decide) (by decide) (by decide) (by decide) (by decide) (by omega)).trans x55
      have O27 := mOF_tr (Ob m24 g24) (mOF_b b1)
      rw [u27, u54, u55]
      refine ⟨fun a0 => ?_, fun a0 => ?_⟩
      · rw [if_neg (by omega)] at eS
        have done : ∀ x, x = (oNext L cl s).2.2.2.1 → Q 0 (aUp (aUp m27 603 55 x) 603 54 (s.2.2.1 + 1)) := by
          intro x hx
          have gs : ∀ o j, ¬ (o = 603 ∧ (j = 54 ∨ j = 55)) → (aUp (aUp m27 603 55 x) 603 54 (s.2.2.1 + 1)) o j = m27 o j := fun o j z => by rw [aUp_nn (by omega), aUp_nn (by omega)]
          refine hG _ (fun o j z1 z2 z3 z4 z5 z6 z7 z8 => (gs o j (by omega)).trans (O27 o j z1 z2 z3 z4 z5 z6 z7 z8)) (by rw [eS]) ?_
          rw [eS]
          exact ⟨mV_o o2.2.1 (fun j => gs _ _ (by omega)) (fun j _ => gs _ _ (by omega)) (fun j => gs _ _ (by omega)) (gs _ _ (by omega)) ((gs _ _ (by omega)).trans b2.2.2.2) b2, aUp_re, by rw [aUp_nn (by omega), aUp_re]; exact hx, (gs _ _ (by omega)).trans (b3 a0)⟩
        exact ⟨fun n3 => ⟨⟨by omega, by omega⟩, done _ (if_neg n3).symm⟩, fun y3 => ⟨⟨by omega, by omega⟩, done _ (if_pos y3).symm⟩⟩
      · rw [if_pos a0] at eS
        have b := hB m27 O27 (by rw [eS]; show (if (oAct L cl s).1 = -5 then (-5 : Int) else -3) < 0; split <;> decide) (fun j hj => by rw [b2.1]; exact (o3 j hj).trans (q3 j hj)) b2.2.2.2
        rw [eS] at b
        exact ⟨fun n => by rw [show ((if (oAct L cl s).1 = -5 then (-5 : Int) else -3), s).1 = -3 from if_neg n] at b; exact b, fun n => by rw [show ((if (oAct L cl s).1 = -5 then (-5 : Int) else -3), s).1 = -5 from if_pos n] at b; exact b⟩
    refine eX12_act (k := K + 8) ⟨by omega, by omega⟩ rv1 rv2 (rX12_act_0 (k := K + 8) hE ⟨fun v0 _ _ => ?_, fun v1' _ => ?_, fun v2' _ => ?_, fun v3 => ?_⟩)
    · have eA : oAct L cl s = aBury L s.1 s.2.1 (cl.2.2.1 (wO s.1 s.2.2.1 s.2.2.2.1)) (cl.2.2.2.1 (wO s.1 s.2.2.1 s.2.2.2.1)) 0 := if_pos v0
      have n6 : (oNext L cl s).2.2.2.2 = s.2.2.2.2 := if_neg (by omega)
      rw [eA, n6] at fin
      rw [z3 (by omega), y3 v0] at *
      exact m_buryNow (k := K + 1) hE V q1 q2 rv1 rv2 (by decide) (Or.inl rfl) fun m27 a1 a2 a3 => fin m27 a1 a3 fun _ => a2.trans x43
    · have eA : oAct L cl s = aBuy s.1 s.2.1 (cl.2.2.1 (wO s.1 s.2.2.1 s.2.2.2.1)) := (if_neg (by omega)).trans (if_pos v1')
      have n6 : (oNext L cl s).2.2.2.2 = s.2.2.2.2 := if_neg (by omega)
      rw [eA, n6] at fin
      rw [z3 (by omega)] at *
      exact m_buyNow (k := K + 6) hE V q2 rv1 fun m27 a1 a2 a3 => fin m27 a1 a3 fun _ => a2.trans x43
    · have eA : oAct L cl s = aRaise s.1 s.2.1 (cl.2.2.1 (wO s.1 s.2.2.1 s.2.2.2.1)) := (if_neg (by omega)).trans ((if_neg (by omega)).trans (if_pos v2'))
      have n6 : (oNext L cl s).2.2.2.2 = s.2.2.2.2 := if_neg (by omega)
      rw [eA, n6] at fin
      rw [z3 (by omega)] at *
      exact m_raiseNow (k := K + 6) hE V q1 q2 rv1 fun m27 a1 a2 a3 => fin m27 a1 a3 fun _ => a2.trans x43
    · have v3' : cl.1 = 3 := by omega
      have eA : oAct L cl s = aPass L s.1 s.2.1 := (if_neg (by omega)).trans ((if_neg (by omega)).trans (if_neg (by omega)))
      have n6 : (oNext L cl s).2.2.2.2 = (rTn L s.1).2.2 := if_pos v3'
      rw [eA, n6] at fin
      refine m_passNow (k := K) hE V q1 q2 fun m27 a1 a2 a3 => fin m27 a1 a3 fun z => ?_
      have hn : ¬ 999 ≤ s.1 3 := fun y => by
        unfold aPass at z
        rw [if_pos y] at z
        exact absurd (show (0 : Int) ≤ -3 from z) (by decide)
      rw [if_neg hn] at a2
      exact a2
  have p5 : (0 : Int) ≤ 8 * i + 5 ∧ 8 * i + 5 < 96 := ⟨by omega, by omega⟩
  have tB1 : ∀ z : Int, z = cl.2.2.2.2 (wO s.1 s.2.2.1 s.2.2.2.1) → ¬ z = bRK → z = 0 ∨ z = 1 := fun z h n => by
    rcases k7 _ hw with y | y | y
    · exact absurd (h.trans y) n
    · exact Or.inl (h.trans y)
    · exact Or.inr (h.trans y)
  refine ⟨⟨by omega, by omega⟩, ⟨by omega, by omega⟩, ⟨by omega, by omega⟩, ⟨by omega, by omega⟩, fun le => ?_, fun lt r5 => ?_⟩
  · have ht : ∀ w, cl.2.2.2.2 w = 1 := by
      rcases c5 with ⟨-, z⟩ | ⟨z, -⟩
      · exact z
      · exact absurd z (by omega)
    exact sums m1 (fun _ _ _ _ => rfl) w57 w20 (ht _)
  · rcases c5 with ⟨z, -⟩ | ⟨-, t1, t2⟩
    · exact absurd z (by omega)
    refine one m1 (8 * i + 5) cl.2.2.2.2 True (fun _ _ _ _ => rfl) w57 w20 ⟨fun _ => ⟨by rw [show 8 * i + 5 + 1 = 8 * i + 6 by omega]; exact t1, by rw [show 8 * i + 5 + 1 = 8 * i + 6 by omega]; exact t2⟩, fun z => absurd trivial z⟩ (fun z => absurd trivial z) (tB_v k7) ⟨by omega, by omega⟩ r5 _ fun v m18 g18 h18 a18 => ?_
    rcases a18 with ⟨y1, y2⟩ | ⟨y1, y2, y3⟩
    · exact ⟨fun _ => gNo m18 g18 h18 (by rw [y1]; decide), fun z => absurd (y2.symm.trans z) (by decide)⟩
    · have y3 := y3 trivial
      refine ⟨fun z => absurd y2 z, fun _ => ⟨fun nz => sums m18 g18 y2 h18 ?_, fun ez => gNo m18 g18 h18 (by rw [← y3, ez]; decide)⟩⟩
      rw [← y3]
      exact (tB1 v y3 (by rw [y3]; exact y1)).resolve_left nz
