-- the row: the tape's pairs written into the cells
def rwOk (r : Rw) (had j : Int) (tp : Int → Int) : Prop := 2 * j + 1 < had ∧ j < 32 ∧ isFt 0 (tp (2 * j)) ∧ isFt 1 (tp (2 * j + 1)) ∧ rMay r 0 j (tp (2 * j))
noncomputable def rwS (tp : Int → Int) (had j : Int) (s : Rw × Int × Int) : Rw × Int × Int := @ite _ (rwOk s.1 had j tp) (Classical.propDecidable _) (rSet (rSet s.1 0 j (tp (2 * j))) 1 j (tp (2 * j + 1)), s.2.1 + 1, s.2.2) (s.1, s.2.1, s.2.2 + 1)
noncomputable def rwL (tp : Int → Int) (had : Int) : Nat → Int → Rw × Int × Int → Rw × Int × Int
  | 0, _, s => s
  | n + 1, j, s => rwL tp had n (j + 1) (rwS tp had j s)
theorem s_wcell {E : EN} (hE : Ep E) {k : Nat} {mem : Mm} {Q : Int → Mm → Prop} {r : Rw} {c kd pr : Int} (hR : yR mem 2 r) (hok : rOk 999 r) (hcR : R32 c) (hk : R32 kd) (hp : R32 pr) (h1 : 0 ≤ c → c < 32 → isFt 0 kd → isFt 1 pr → rMay r 0 c kd → ∀ m2 : Mm, (∀ o i, o ≠ 3 → o ≠ 4 → o ≠ 5 → m2 o i = mem o i) → yR m2 2 (rSet (rSet r 0 c kd) 1 c pr) → Q 1 m2) (h0 : ¬ (c < 32 ∧ isFt 0 kd ∧ isFt 1 pr ∧ rMay r 0 c kd) ∨ c < 0 → Q 0 mem) : CI E mX10_writeCell (k + 2) mem [aR 2, aI c, aI kd, aI pr] Q := by
  refine eX10_writeCell (k := k + 1) hcR hk hp (rX10_writeCell_0 hE (Or.inl rfl) fun _ => s_isCell hE hcR (fun a b => ⟨fun d => absurd d (by decide), fun _ _ => s_isFact (k := k) hE (by decide) hk (fun f0 => ⟨fun d => absurd d (by decide), fun _ _ => s_isFact (k := k) hE (by decide) hp (fun f1 => ⟨fun d => absurd d (by decide), fun _ _ _ => s_mayW (k := k) hE hR hok.2.1 a b (by decide) hk (fun my => ⟨fun _ _ _ => s_write2 hE hR a b (by decide) hk f0 fun m1 d1 d2 _ _ => s_write2 hE d2 a b (by decide) hp f1 fun m2 e1 e2 => h1 a b f0 f1 my m2 (fun o i x y z => (e1 o i x y z).trans (d1 o i x y z)) e2, fun d => absurd d (by decide)⟩) (fun my => ⟨fun d => absurd rfl d, fun _ => h0 (Or.inl fun q => my q.2.2.2)⟩)⟩) (fun n => ⟨fun _ => h0 (Or.inl fun q => n q.2.2.1), fun d => absurd rfl d⟩)⟩) (fun n => ⟨fun _ => h0 (Or.inl fun q => n q.2.1), fun d => absurd rfl d⟩)⟩) (fun a => ⟨fun _ => h0 (a.elim Or.inr fun q => Or.inl fun w => by omega), fun d => absurd rfl d⟩))
theorem half (j : Int) (h0 : 0 ≤ j) (h1 : j ≤ 1000) : w32 (Int.tdiv (2 * j) 2) = j := by
  rw [Int.mul_comm, Int.mul_tdiv_cancel _ (by decide)]
  exact w32_id (by omega) (by omega)
def rwB (r0 : Rw) (j : Int) (s : Rw × Int × Int) : Prop := rOk 999 s.1 ∧ (∀ i, i < 48 ∨ 144 ≤ i → s.1 i = r0 i) ∧ 0 ≤ s.2.1 ∧ 0 ≤ s.2.2 ∧ s.2.1 + s.2.2 = j
theorem rwB_S {r0 : Rw} {tp : Int → Int} {had j : Int} {s : Rw × Int × Int} (h0 : 0 ≤ j) (h : rwB r0 j s) : rwB r0 (j + 1) (rwS tp had j s) := by
  obtain ⟨h1, h2, h3, h4, h5⟩ := h
  unfold rwS
  split
  · rename_i q
    obtain ⟨q1, q2, q3, q4, q5⟩ := q
    obtain ⟨a1, a2⟩ := rSet_ok h1 q3 h0 q2
    obtain ⟨b1, b2⟩ := rSet_ok a1 q4 h0 q2
    exact ⟨b1, fun i u => (b2 i u).trans ((a2 i u).trans (h2 i u)), by dsimp only; omega, h4, by dsimp only; omega⟩
  · exact ⟨h1, h2, h3, by dsimp only; omega, by dsimp only; omega⟩
theorem s_row_l {E : EN} (hE : Ep E) {m0 : Mm} {Q : Int → Mm → Prop} {r0 : Rw} {had : Int} (hh : had ≤ 400) (e2 : m0 591 2 = had) : ∀ (n : Nat) (mem : Mm) (j : Int) (s : Rw × Int × Int), 0 ≤ j → had ≤ 2 * j + 2 * n → 2 * j + 2 * n ≤ had + 1 → (∀ o i, o ≠ 3 → o ≠ 4 → o ≠ 5 → ¬ (o = 0 ∧ i = 11) → mem o i = m0 o i) → yR mem 2 s.1 → mem 0 11 = s.2.2 → rwB r0 j s → (∀ m2 : Mm, (∀ o i, o ≠ 3 → o ≠ 4 → o ≠ 5 → ¬ (o = 0 ∧ i = 11) → m2 o i = m0 o i) → yR m2 2 (rwL (m0 592) had n j s).1 → m2 0 11 = (rwL (m0 592) had n j s).2.2 → rwB r0 (j + n) (rwL (m0 592) had n j s) → CI E mX11_granted 1198 (aUp (aUp m2 591 2 0) 12 2 0) [aR 0, aI (rwL (m0 592) had n j s).2.1] Q) → VM E mX11_row 1199 mem 26 [(0, aR 0), (1, aI s.2.1), (2, aI (2 * j))] [] (retI Q) := by
  intro n
  induction n with
  | zero =>
    intro mem j s h0 h1 h2 hf hR h11 hB hQ
    refine rX11_row_26 (k := 1198) hE ⟨fun _ _ => hQ mem hf hR h11 (by rw [show j + ((0 : Nat) : Int) = j by omega]; exact hB), fun u => absurd u ?_⟩
    rw [hf 591 2 (by decide) (by decide) (by decide) (by decide), e2]
    omega
  | succ n ih =>
    intro mem j s h0 h1 h2 hf hR h11 hB hQ
    obtain ⟨b1, b2, b3, b4, b5⟩ := hB
    have f2 : mem 591 2 = had := (hf 591 2 (by decide) (by decide) (by decide) (by decide)).trans e2
    have nx : ∀ (m2 : Mm) (s2 : Rw × Int × Int), s2 = rwS (m0 592) had j s → (∀ o i, o ≠ 3 → o ≠ 4 → o ≠ 5 → ¬ (o = 0 ∧ i = 11) → m2 o i = m0 o i) → yR m2 2 s2.1 → m2 0 11 = s2.2.2 → VM E mX11_row 1199 m2 26 [(0, aR 0), (1, aI s2.2.1), (2, aI (2 * j + 2))] [] (retI Q) := by
      intro m2 s2 q1 q2 q3 q4
      rw [show 2 * j + 2 = 2 * (j + 1) by omega]
      subst q1
      refine ih m2 (j + 1) _ (by omega) (by omega) (by omega) q2 q3 q4 (rwB_S h0 ⟨b1, b2, b3, b4, b5⟩) fun m3 w1 w2 w3 w4 => hQ m3 w1 w2 w3 ?_
      rw [show j + ((n + 1 : Nat) : Int) = j + 1 + n by omega]
      exact w4
    have no : ¬ rwOk s.1 had j (m0 592) → R32 (mem 0 11 + 1) ∧ R32 (2 * j + 2) ∧ VM E mX11_row (1198 + 1) (aUp mem 0 11 (mem 0 11 + 1)) 26 [(0, aR 0), (1, aI s.2.1), (2, aI (2 * j + 2))] [] (retI Q) := fun w =>
      ⟨⟨by omega, by omega⟩, ⟨by omega, by omega⟩, nx _ (s.1, s.2.1, s.2.2 + 1) (if_neg w).symm (fun o i x y z u => (aUp_nn u).trans (hf o i x y z u)) (yR_fr hR (aUp_nn (by omega)) fun o i _ _ => aUp_nn (by omega)) (by rw [aUp_re, h11])⟩
    refine rX11_row_26 (k := 1198) hE ?_
    rw [half j h0 (by omega), f2]
    refine ⟨fun u => absurd u (by omega), fun u => ⟨⟨by omega, by omega⟩, fun z => no fun w => absurd w.1 (by omega), fun z => ⟨fun w => absurd w (by omega), fun w => ⟨⟨by omega, by omega⟩, ⟨by omega, w⟩, fun r1 r2 r3 => s_wcell (k := 1196) hE hR b1 r1 r2 r3 (fun c0 c1 g0 g1 g2 m2 d1 d2 => ⟨fun d => absurd d (by decide), fun _ => ⟨⟨by omega, by omega⟩, ⟨by omega, by omega⟩, nx m2 (_, s.2.1 + 1, s.2.2) (if_pos ?_).symm (fun o i x y z u => (d1 o i x y z).trans (hf o i x y z u)) ?_ ?_⟩⟩) (fun g => ⟨fun _ => no fun w => ?_, fun d => absurd rfl d⟩)⟩⟩⟩⟩
    · rw [hf 592 _ (by decide) (by decide) (by decide) (by omega)] at g0 g2
      rw [hf 592 _ (by decide) (by decide) (by decide) (by omega)] at g1
      exact ⟨z, c1, g0, g1, g2⟩
    · rw [hf 592 (2 * j) (by decide) (by decide) (by decide) (by omega), hf 592 (2 * j + 1) (by decide) (by decide) (by decide) (by omega)] at d2
      exact d2
    · exact (d1 0 11 (by decide) (by decide) (by decide)).trans h11
    · rw [hf 592 (2 * j) (by decide) (by decide) (by decide) (by omega), hf 592 (2 * j + 1) (by decide) (by decide) (by decide) (by omega)] at g
      rcases g with g | g
      · exact g ⟨w.2.1, w.2.2.1, w.2.2.2.1, w.2.2.2.2⟩
      · omega
