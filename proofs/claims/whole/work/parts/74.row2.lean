theorem m_row_l {E : EN} (hE : Ep E) {m0 : Mm} {Q : Int → Mm → Prop} {r0 : Rw} {tp : Int → Int} {had : Int} (hh : had ≤ 400) (ht : ∀ i, 0 ≤ i → i < had → m0 612 i = tp i) : ∀ (n : Nat) (mem : Mm) (j : Int) (s : Rw × Int × Int), 0 ≤ j → had ≤ 2 * j + 2 * n → 2 * j + 2 * n ≤ had + 1 → (∀ o i, o ≠ 605 → ¬ (o = 603 ∧ i = 11) → mem o i = m0 o i) → mem 605 = s.1 → mem 603 11 = s.2.2 → rwB r0 j s → (∀ m2 : Mm, (∀ o i, o ≠ 605 → ¬ (o = 603 ∧ i = 11) → m2 o i = m0 o i) → m2 605 = (rwL tp had n j s).1 → m2 603 11 = (rwL tp had n j s).2.2 → rwB r0 (j + n) (rwL tp had n j s) → R32 (rwL tp had n j s).2.1 → CI E mX12_tell 1198 (aUp m2 603 8 0) [aR 603, aI (rwL tp had n j s).2.1] Q) → VM E mX12_row 1199 mem 35 [(0, aR 603), (1, aI had), (2, aI s.2.1), (3, aI (2 * j))] [] (retI Q) := by
  intro n
  induction n with
  | zero =>
    intro mem j s h0 h1 h2 hf hR h11 hB hQ
    exact rX12_row_35 (k := 1198) hE ⟨fun _ r => hQ mem hf hR h11 (by rw [show j + ((0 : Nat) : Int) = j by omega]; exact hB) r, fun u => absurd u (by omega)⟩
  | succ n ih =>
    intro mem j s h0 h1 h2 hf hR h11 hB hQ
    obtain ⟨b1, b2, b3, b4, b5⟩ := hB
    have nx : ∀ (m2 : Mm) (s2 : Rw × Int × Int), s2 = rwS tp had j s → (∀ o i, o ≠ 605 → ¬ (o = 603 ∧ i = 11) → m2 o i = m0 o i) → m2 605 = s2.1 → m2 603 11 = s2.2.2 → VM E mX12_row 1199 m2 35 [(0, aR 603), (1, aI had), (2, aI s2.2.1), (3, aI (2 * j + 2))] [] (retI Q) := by
      intro m2 s2 q1 q2 q3 q4
      rw [show 2 * j + 2 = 2 * (j + 1) by omega]
      subst q1
      refine ih m2 (j + 1) _ (by omega) (by omega) (by omega) q2 q3 q4 (rwB_S h0 ⟨b1, b2, b3, b4, b5⟩) fun m3 w1 w2 w3 w4 => hQ m3 w1 w2 w3 ?_
      rw [show j + ((n + 1 : Nat) : Int) = j + 1 + n by omega]
      exact w4
    have no : ¬ rwOk s.1 had j tp → R32 (mem 603 11 + 1) ∧ R32 (2 * j + 2) ∧ VM E mX12_row (1198 + 1) (aUp mem 603 11 (mem 603 11 + 1)) 35 [(0, aR 603), (1, aI had), (2, aI s.2.1), (3, aI (2 * j + 2))] [] (retI Q) := fun w =>
      ⟨⟨by omega, by omega⟩, ⟨by omega, by omega⟩, nx _ (s.1, s.2.1, s.2.2 + 1) (if_neg w).symm (fun o i x y => (aUp_nn y).trans (hf o i x y)) ((aUp_ne (by decide)).trans hR) (by rw [aUp_re, h11])⟩
    refine rX12_row_35 (k := 1198) hE ?_
    rw [half j h0 (by omega)]
    refine ⟨fun u => absurd u (by omega), fun u => ⟨⟨by omega, by omega⟩, fun z => no fun w => absurd w.1 (by omega), fun z rj => m_isCell (k := 1197) hE rj (fun c0 c1 => ⟨fun d => absurd d (by decide), fun _ => ⟨⟨by omega, by omega⟩, fun rk => m_canBe (k := 1197) hE (by decide) rk (fun g0 => ⟨fun d => absurd d (by decide), fun _ => ⟨⟨by omega, by omega⟩, fun rp => m_canBe (k := 1197) hE (by decide) rp (fun g1 => ⟨fun d => absurd d (by decide), fun _ _ => ?_⟩) (fun g => ⟨fun _ => no fun w => ?_, fun d => absurd rfl d⟩)⟩⟩) (fun g => ⟨fun _ => no fun w => ?_, fun d => absurd rfl d⟩)⟩⟩) (fun c => ⟨fun _ => no fun w => by have := w.2.1; omega, fun d => absurd rfl d⟩)⟩⟩
    rotate_left
    · rw [hf 612 _ (by decide) (by omega), ht _ (by omega) z] at g; exact g w.2.2.2.1
    · rw [hf 612 _ (by decide) (by omega), ht _ (by omega) u] at g; exact g w.2.2.1
    have ek : mem 612 (2 * j) = tp (2 * j) := by rw [hf 612 _ (by decide) (by omega), ht _ (by omega) u]
    have ep : mem 612 (2 * j + 1) = tp (2 * j + 1) := by rw [hf 612 _ (by decide) (by omega), ht _ (by omega) z]
    rw [ek] at rk g0 ⊢
    rw [ep] at rp g1
    -- written
    have yes : rMay s.1 0 j (tp (2 * j)) → CV E mX12_setKind 1198 mem [aR 603, aI j, aI (tp (2 * j))] (fun m22 => R32 (112 + j) ∧ (0 ≤ 112 + j ∧ 112 + j < 5570) ∧ R32 (s.2.1 + 1) ∧ R32 (2 * j + 2) ∧ VM E mX12_row (1198 + 1) (aUp m22 605 (112 + j) (m22 612 (2 * j + 1))) 35 [(0, aR 603), (1, aI had), (2, aI (s.2.1 + 1)), (3, aI (2 * j + 2))] [] (retI Q)) := by
      intro my
      have ok : rwOk s.1 had j tp := ⟨z, c1, g0, g1, my⟩
      have st : ∀ m22 : Mm, m22 605 = rSet s.1 0 j (tp (2 * j)) → (∀ o i, o ≠ 605 → m22 o i = mem o i) → VM E mX12_row (1198 + 1) (aUp m22 605 (112 + j) (m22 612 (2 * j + 1))) 35 [(0, aR 603), (1, aI had), (2, aI (s.2.1 + 1)), (3, aI (2 * j + 2))] [] (retI Q) := fun m22 f1 f2 =>
        nx _ (rSet (rSet s.1 0 j (tp (2 * j))) 1 j (tp (2 * j + 1)), s.2.1 + 1, s.2.2) (if_pos ok).symm (fun o i x y => (aUp_rn x).trans ((f2 o i x).trans (hf o i x y))) (by rw [aUp_rUp, f1, f2 612 _ (by decide), ep]; rfl) (((aUp_rn (by decide)).trans (f2 603 11 (by decide))).trans h11)
      refine eX12_setKind rj rk (rX12_setKind_0 hE ⟨⟨by omega, by omega⟩, ⟨by omega, by omega⟩, ⟨by omega, by omega⟩, fun v1 => ⟨⟨by omega, by omega⟩, ⟨by omega, by omega⟩, ⟨by omega, by omega⟩, ⟨by omega, by omega⟩, ⟨by omega, by omega⟩, st _ ?_ fun o i x => by rw [aUp_rn x, aUp_rn x]⟩, fun v1 => ⟨⟨by omega, by omega⟩, ⟨by omega, by omega⟩, ⟨by omega, by omega⟩, ⟨by omega, by omega⟩, ⟨by omega, by omega⟩, st _ ?_ fun o i x => by rw [aUp_rn x, aUp_rn x]⟩⟩)
      · rw [aUp_rUp, aUp_rUp, hR]
        unfold rSet
        rw [if_pos rfl, if_neg v1]
      · rw [aUp_rUp, aUp_rUp, hR]
        unfold rSet
        rw [if_pos rfl, if_pos v1, rUp_n (show (48 : Int) + j ≠ 80 + j by omega)]
    have solid : (tp (2 * j) = 1 ∨ tp (2 * j) = 3) → ∀ (_ : R32 j), CI E mX12_plotIn 1198 mem [aR 603, aI j] (fun r28 m27 => ((¬ r28 = (-1) → (R32 ((m27 603 11) + 1)) ∧ (R32 (2 * j + 2)) ∧ VM E mX12_row (1198 + 1) (aUp m27 603 11 ((m27 603 11) + 1)) 35 [(0, aR 603), (1, aI had), (2, aI s.2.1), (3, aI (2 * j + 2))] [] (retI Q)) ∧ (r28 = (-1) → (R32 j → R32 (m27 612 (2 * j)) → CV E mX12_setKind 1198 m27 [aR 603, aI j, aI (m27 612 (2 * j))] (fun m22 => R32 (112 + j) ∧ (0 ≤ 112 + j ∧ 112 + j < 5570) ∧ R32 (s.2.1 + 1) ∧ R32 (2 * j + 2) ∧ VM E mX12_row (1198 + 1) (aUp m22 605 (112 + j) (m22 612 (2 * j + 1))) 35 [(0, aR 603), (1, aI had), (2, aI (s.2.1 + 1)), (3, aI (2 * j + 2))] [] (retI Q)))))) := by
      intro hs _
      refine m_yIn hE (by rw [hR]; exact b1.1) (by rw [hR]; exact b1.2.1) rj fun x hx => ⟨fun d => no fun w => ?_, fun d _ _ => ?_⟩
      · rw [hR] at hx
        rcases hx with ⟨x1, -⟩ | ⟨-, -, x3⟩
        · exact absurd x1 d
        · rcases w.2.2.2.2.1 rfl with q | q | q
          · omega
          · omega
          · rw [q] at x3; cases x3
      · rw [ek]
        refine yes ⟨fun _ => ?_, fun q => absurd q (by decide)⟩
        rw [hR] at hx
        rcases hx with ⟨-, x2⟩ | ⟨x1, -, -⟩
        · exact Or.inr (Or.inr x2)
        · omega
    refine eX12_isSolid rk (rX12_isSolid_0 hE ⟨fun v1 => ⟨fun d => absurd d (by decide), fun _ => solid (Or.inl v1)⟩, fun v1 => ⟨fun v3 => ⟨fun _ _ _ => ?_, fun d => absurd rfl d⟩, fun v3 => ⟨fun d => absurd d (by decide), fun _ => solid (Or.inr v3)⟩⟩⟩)
    rw [ek]
    refine yes ⟨fun _ => ?_, fun q => absurd q (by decide)⟩
    unfold isFt at g0
    omega
theorem st_row {E : EN} (hE : Ep E) : stI E 1199 (iAll jC) mX11_row mX12_row 0 := by
  intro t mem av ht hl hr hI
  obtain rfl := no_args hl
  have hC := hI.2
  obtain ⟨t1, t2, t3, t4⟩ := hC.1
  refine eX11_row (k := 1198) (rX11_row_0 hE ⟨fun u => ?_, fun u => ?_⟩)
  · obtain ⟨n, n1, n2⟩ : ∃ n : Nat, mem 591 2 ≤ 2 * (n : Int) ∧ 2 * (n : Int) ≤ mem 591 2 + 1 := ⟨((mem 591 2 + 1) / 2).toNat, by omega, by omega⟩
    have hB : rwB (mem 605) 0 (mem 605, 0, 0) := ⟨hC.2.2.1.1, fun _ _ => rfl, Int.le_refl 0, Int.le_refl 0, rfl⟩
    have e592 : ∀ v : Int, (aUp mem 0 11 v) 592 = mem 592 := fun v => aUp_ne (by decide)
    refine s_row_l (m0 := aUp mem 0 11 0) hE t3 (aUp_nn (by omega)) n _ 0 (mem 605, 0, 0) (by decide) (by omega) (by omega) (fun _ _ _ _ _ _ => rfl) (yR_fr hC.2.2.1.2.1 (aUp_nn (by omega)) fun o i _ _ => aUp_nn (by omega)) aUp_re hB fun mc c1 c2 c3 c4 => ?_
    rw [e592] at c2 c3 c4 ⊢
    generalize hs : rwL (mem 592) (mem 591 2) n 0 (mem 605, 0, 0) = s at c2 c3 c4
    have cm : ∀ o i, o ≠ 3 → o ≠ 4 → o ≠ 5 → ¬ (o = 0 ∧ i = 11) → ¬ (o = 591 ∧ i = 2) → ¬ (o = 12 ∧ i = 2) → (aUp (aUp mc 591 2 0) 12 2 0) o i = mem o i := fun o i x y z w v q => by
      rw [aUp_nn q, aUp_nn v, c1 o i x y z w, aUp_nn w]
    have k12 : (aUp (aUp mc 591 2 0) 12 2 0) 12 2 = 0 := aUp_re
    have k591 : (aUp (aUp mc 591 2 0) 12 2 0) 591 2 = 0 := by rw [aUp_nn (by omega), aUp_re]
    have k11 : (aUp (aUp mc 591 2 0) 12 2 0) 0 11 = s.2.2 := by rw [aUp_nn (by omega), aUp_nn (by omega)]; exact c3
    have kR : yR (aUp (aUp mc 591 2 0) 12 2 0) 2 s.1 := yR_fr c2 (by rw [aUp_nn (by omega), aUp_nn (by omega)]) fun o i _ _ => by rw [aUp_nn (by omega), aUp_nn (by omega)]
    obtain ⟨b1, b2, b3, b4, b5⟩ := c4
    generalize aUp (aUp mc 591 2 0) 12 2 0 = mk at cm k12 k591 k11 kR
    refine s_graA hE ⟨by omega, by omega⟩ b3 ?_
    have eM : ∀ o i, 603 ≤ o → aAns mk s.2.1 o i = mem o i := fun o i h => (aAns_M h).trans (cm o i (by omega) (by omega) (by omega) (by omega) (by omega) (by omega))
    refine eX12_row (k := 1198) (rX12_row_0 hE ⟨fun _ => ?_, fun q => absurd q (by rw [eM 603 13 (by decide), ← t1]; exact u)⟩)
    rw [eM 603 13 (by decide), ← t1]
    have e5 : (aUp (aUp (aUp (aAns mk s.2.1) 603 0 0) 603 13 0) 603 11 0) 605 = mem 605 := funext fun i => by rw [aUp_nn (by omega), aUp_nn (by omega), aUp_nn (by omega), eM 605 i (by decide)]
    refine m_row_l (m0 := aUp (aUp (aUp (aAns mk s.2.1) 603 0 0) 603 13 0) 603 11 0) (tp := mem 592) hE t3 (fun i x y => ?_) n _ 0 (mem 605, 0, 0) (by decide) (by omega) (by omega) (fun _ _ _ _ => rfl) e5 aUp_re hB fun m2 d1 d2 d3 d4 rr => ?_
    · rw [aUp_nn (by omega), aUp_nn (by omega), aUp_nn (by omega), eM 612 i (by decide)]; exact (t4 i x y).1.symm
    rw [hs] at d2 d3 rr ⊢
    have dM : ∀ o i, 603 ≤ o → o ≠ 605 → ¬ (o = 603 ∧ (i = 0 ∨ i = 8 ∨ i = 11 ∨ i = 13)) → (aUp m2 603 8 0) o i = mem o i := fun o i x y z => by
      rw [aUp_nn (by omega), d1 o i y (by omega), aUp_nn (by omega), aUp_nn (by omega), aUp_nn (by omega), eM o i x]
    have d8 : (aUp m2 603 8 0) 603 8 = 0 := aUp_re
    have d11 : (aUp m2 603 8 0) 603 11 = s.2.2 := (aUp_nn (by omega)).trans d3
    have d13 : (aUp m2 603 8 0) 603 13 = 0 := by rw [aUp_nn (by omega), d1 _ _ (by decide) (by omega), aUp_nn (by omega), aUp_re]
    have d605 : (aUp m2 603 8 0) 605 = s.1 := (aUp_ne (by decide)).trans d2
    have dC : ∀ o i, o < 603 → (aUp m2 603 8 0) o i = aAns mk s.2.1 o i := fun o i h => by
      rw [aUp_nn (by omega), d1 o i (by omega) (by omega), aUp_nn (by omega), aUp_nn (by omega), aUp_nn (by omega)]
    generalize aUp m2 603 8 0 = mm at dM d8 d11 d13 d605 dC
    refine m_tel hE rr (by omega) (fun q => absurd q (by omega)) ⟨rfl, fin_all (mc := mk) hI.1 (by omega) (fun j => cm 602 j (by omega) (by omega) (by omega) (by omega) (by omega) (by omega)) (fun j => dM 604 j (by decide) (by decide) (by omega)) dC ?_⟩
    have s1 : ∀ o i, o < 603 → spl mk mm o i = mk o i := fun o i h => spl_c h
    have s2 : ∀ o i, 603 ≤ o → spl mk mm o i = mm o i := fun o i h => spl_m h
    have s5 : spl mk mm 605 = s.1 := (funext fun i => s2 605 i (by decide)).trans d605
    have sc : ∀ o i, o < 603 → o ≠ 3 → o ≠ 4 → o ≠ 5 → ¬ (o = 0 ∧ i = 11) → ¬ (o = 591 ∧ i = 2) → ¬ (o = 12 ∧ i = 2) → spl mk mm o i = mem o i := fun o i h x y z w v q => (s1 o i h).trans (cm o i x y z w v q)
    have sm : ∀ o i, 603 ≤ o → o ≠ 605 → ¬ (o = 603 ∧ (i = 0 ∨ i = 8 ∨ i = 11 ∨ i = 13)) → spl mk mm o i = mem o i := fun o i x y z => (s2 o i x).trans (dM o i x y z)
    obtain ⟨g1, g2, g3, g4, g5, g6, g7, g8, g9⟩ := hC.2.1
    refine jC_yard hC (fun o i w1 w2 w3 w4 w5 w6 w7 w8 w9 w10 w11 w12 => ?_) (fun i q => by rw [s5]; exact b2 i (by omega)) (by rw [s5]; exact b1) (by rw [s5]; exact yR_fr kR (s1 _ _ (by decide)) fun o i x y => s1 o i (by omega)) (sc 2 9 (by decide) (by decide) (by decide) (by decide) (by decide) (by decide) (by decide)) ⟨?_, ?_, ?_, fun k a b => ?_, fun j k a b a2 b2 q => ?_, fun k a b => absurd b (by rw [s2 603 8 (by decide), d8]; omega)⟩ ⟨?_, ?_, ?_, ?_, ?_, ?_, ?_, ?_, ?_⟩ ⟨?_, ?_, ?_, fun i x y => ?_⟩
    · by_cases q : o < 603
      · exact sc o i q (by omega) (by omega) (by omega) (by omega) (by omega) (by omega)
      · exact sm o i (by omega) w4 (by omega)
    · rw [s1 12 2 (by decide), s2 603 8 (by decide), k12, d8]
    · rw [s2 603 8 (by decide), d8]; exact Int.le_refl 0
    · rw [s2 603 8 (by decide), d8]; decide
    · rw [sc 13 k (by decide) (by decide) (by decide) (by decide) (by omega) (by omega) (by omega), sc 186 k (by decide) (by decide) (by decide) (by decide) (by omega) (by omega) (by omega)]
      exact hC.2.2.2.2.1.2.2.2.1 k a b
    · rw [sc 13 j (by decide) (by decide) (by decide) (by decide) (by omega) (by omega) (by omega), sc 13 k (by decide) (by decide) (by decide) (by decide) (by omega) (by omega) (by omega)] at q
      exact hC.2.2.2.2.1.2.2.2.2.1 j k a b a2 b2 q
    · rw [s1 0 11 (by decide), s2 603 11 (by decide), k11, d11]
    · rw [sc 0 12 (by decide) (by decide) (by decide) (by decide) (by decide) (by decide) (by decide), sm 603 18 (by decide) (by decide) (by decide)]; exact g2
    · rw [sc 1 9 (by decide) (by decide) (by decide) (by decide) (by decide) (by decide) (by decide), sm 603 56 (by decide) (by decide) (by decide)]; exact g3
    · rw [sc 1 6 (by decide) (by decide) (by decide) (by decide) (by decide) (by decide) (by decide), sm 603 43 (by decide) (by decide) (by decide)]; exact g4
    · rw [sm 603 20 (by decide) (by decide) (by decide)]; exact g5
    · rw [s1 0 11 (by decide), k11]; exact b4
    · rw [s1 0 11 (by decide), k11]; omega
    · rw [sc 1 6 (by decide) (by decide) (by decide) (by decide) (by decide) (by decide) (by decide)]; exact g8
    · rw [sc 1 6 (by decide) (by decide) (by decide) (by decide) (by decide) (by decide) (by decide)]; exact g9
    · rw [s1 591 2 (by decide), s2 603 13 (by decide), k591, d13]
    · rw [s1 591 2 (by decide), k591]; exact Int.le_refl 0
    · rw [s1 591 2 (by decide), k591]; decide
    · rw [s1 591 2 (by decide), k591] at y
      exact absurd y (by omega)
  · refine s_refA hE (by decide) (by decide) (r602 hI.1 ht (by decide) (by decide) fun _ => rfl) ?_
    refine eX12_row (k := 1198) (rX12_row_0 hE ⟨fun q => absurd (show aAns mem (-6) 603 13 = 0 by rw [aAns_M (by decide), ← t1]; exact u) q, fun _ => ?_⟩)
    have e : aUp (aUp (aAns mem (-6)) 603 0 0) 603 13 0 = aUp (aAns mem (-6)) 603 0 0 := by
      funext o i
      by_cases z : o = 603 ∧ i = 13
      · obtain ⟨rfl, rfl⟩ := z
        rw [aUp_re, aUp_nn (by omega), aAns_M (by decide), ← t1]; exact u.symm
      · rw [aUp_nn z]
    rw [e]
    exact m_tel hE (by decide) (by decide) (fun _ => r604 hI.1 ht (by decide) (by decide) fun j => (aUp_nn (by omega)).trans (aAns_M (by decide))) ⟨rfl, fin_ref hI (by decide)⟩
