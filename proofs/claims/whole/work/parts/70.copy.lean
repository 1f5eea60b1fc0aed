-- copies: finds, texts, laws; the model's image of the whole row
theorem mGo_cg {op op2 ag ag2 : Int → Int} {lf : Int → Int → Int} {last : Int} (h : ∀ k, 0 ≤ k → k < 400 → op2 k = op k ∧ ag2 k = ag k) : ∀ (n : Nat) (k : Int) (s : List Int), mGo op2 ag2 lf last n k s = mGo op ag lf last n k s
  | 0, _, _ => rfl
  | n + 1, k, s => by
    have ih := mGo_cg (lf := lf) (last := last) h n
    by_cases hk : 0 ≤ k ∧ k < 400
    · obtain ⟨e1, e2⟩ := h k hk.1 hk.2
      simp only [mGo, e1, e2, ih]
    · simp only [mGo]
      by_cases hl : last ≤ k
      · rw [if_pos hl, if_pos hl]
      · rw [if_neg hl, if_neg hl, if_pos (fun q => hk ⟨q.1, q.2.1⟩), if_pos (fun q => hk ⟨q.1, q.2.1⟩)]
theorem cGo_cg {S : Int} {st st2 op op2 : Int → Int} {N : Int} {w : Rw} (h : ∀ k, 0 ≤ k → k < 400 → st2 k = st k ∧ op2 k = op k) : ∀ (n : Nat) (k : Int) (s : List Int), cGo S st2 op2 N w n k s = cGo S st op N w n k s
  | 0, _, _ => rfl
  | n + 1, k, s => by
    have ih := cGo_cg (S := S) (N := N) (w := w) h n
    by_cases hk : 0 ≤ k ∧ k < 400
    · obtain ⟨e1, e2⟩ := h k hk.1 hk.2
      simp only [cGo, e1, e2, ih]
    · simp only [cGo]
      rw [if_pos (fun q => hk ⟨q.1, q.2.2.1⟩), if_pos (fun q => hk ⟨q.1, q.2.2.1⟩)]
theorem slotS_cp {r r2 : Rw} {a : Int} {D : LD} (h : ∀ i, a + 1 ≤ i → i < a + 898 → r2 i = r i) (hS : slotS r a D) : slotS r2 a D := by
  obtain ⟨h1, h2, h3⟩ := hS
  have sl : ∀ lo hi F, slR r a lo hi F → slR r2 a lo hi F := by
    intro lo hi F q w hw
    obtain ⟨n, e⟩ := q w hw
    exact ⟨n, (mGo_cg (fun k u v => ⟨h _ (by omega) (by omega), h _ (by omega) (by omega)⟩) n lo []).trans e⟩
  refine ⟨by rw [h _ (by omega) (by omega)]; exact h1, h2, fun i u v => ?_⟩
  have := h2.2.1
  obtain ⟨d1, d2, d3⟩ := h3 i u v
  rw [h (a + 2 + 8 * i) (by omega) (by omega), h (a + 2 + 8 * i + 6) (by omega) (by omega), h (a + 2 + 8 * i + 5) (by omega) (by omega), h (a + 2 + 8 * i + 3) (by omega) (by omega), h (a + 2 + 8 * i + 4) (by omega) (by omega)]
  exact ⟨d1, d2.imp id fun q => ⟨q.1, sl _ _ _ q.2⟩, fun q => sl _ _ _ (d3 q)⟩
theorem TxS_cp {m m2 : Mm} {t t2 N : Int} {D : LD} (h0 : m2 t2 0 = m t 0) (h8 : m2 t2 8 = m t 8) (h1 : ∀ i, 0 ≤ i → i < 12 → m2 (t2 + 1) i = m (t + 1) i ∧ m2 (t2 + 3) i = m (t + 3) i ∧ m2 (t2 + 5) i = m (t + 5) i) (h6 : ∀ i, 0 ≤ i → i < 400 → m2 (t2 + 6) i = m (t + 6) i ∧ m2 (t2 + 7) i = m (t + 7) i) (hT : TxS m t N D) : TxS m2 t2 N D := by
  have ev : ∀ fr F, vS m t N fr F → vS m2 t2 N fr F := by
    intro fr F q
    unfold vS at q ⊢
    rw [h8]
    refine q.imp id fun q => ⟨q.1, fun w hw => (cGo_cg h6 _ _ _).trans (q.2 w hw)⟩
  obtain ⟨a, b, c, d⟩ := hT
  refine ⟨h0.trans a, by rw [h8]; exact b, c, fun i u v => ?_⟩
  obtain ⟨d1, d2, d3⟩ := d i u v
  have := c.2.1
  obtain ⟨e1, e2, e3⟩ := h1 i u (by omega)
  rw [e1, e2, e3]
  exact ⟨d1, ev _ _ d2, fun q => ev _ _ (d3 q)⟩
theorem full_cg {m : Mm} {y f l : Int} {r r2 : Rw} (h : ∀ i, 0 ≤ i → i < 5570 → r2 i = r i) (hF : fullR m y f l r) : fullR m y f l r2 := by
  obtain ⟨h1, h2, ⟨f1, f2, f3, f4⟩, l1, l2, l3, l4, l5, l6, l7⟩ := hF
  refine ⟨rOk_cg (fun i a b => h i (by omega) (by omega)) h1, yR_cg (fun i a b => h i (by omega) (by omega)) h2, ⟨by rw [h 0 (by decide) (by decide)]; exact f1, by rw [h 0 (by decide) (by decide)]; exact f2, by rw [h 0 (by decide) (by decide)]; exact f3, fun i a b => by rw [h (144 + 3 * i) (by omega) (by omega), h (145 + 3 * i) (by omega) (by omega), h (146 + 3 * i) (by omega) (by omega)]; exact f4 i a b⟩, by rw [h 1 (by decide) (by decide)]; exact l1, by rw [h 1 (by decide) (by decide)]; exact l2, by rw [h 1 (by decide) (by decide)]; exact l3, by rw [h 2 (by decide) (by decide)]; exact l4, by rw [h 2 (by decide) (by decide)]; exact l5, by rw [h 1 (by decide) (by decide), h 2 (by decide) (by decide)]; exact l6, fun i a b => ?_⟩
  rw [h 1 (by decide) (by decide)] at b
  obtain ⟨D, d1, d2⟩ := l7 i a b
  exact ⟨D, d1, slotS_cp (fun j u v => h j (by omega) (by omega)) d2⟩
theorem s_tcopy {E : EN} (hE : Ep E) {k : Nat} {mem : Mm} {Q : Mm → Prop} {y p : Int} (hy : isTx y) (hp : isTx p) (hd : p + 8 < y ∨ y + 8 < p) (hQ : ∀ m2 : Mm, (∀ o i, (o < y ∨ y + 8 < o) → m2 o i = mem o i) → (∀ N D, TxS mem p N D → TxS m2 y N D) → Q m2) : CV E mX9_copyFrom (k + 1) mem [aR y, aR p] Q := by
  refine eX9_copyFrom (rX9_copyFrom_0 hE hy hp (hQ _ (fun o i q => ?_) fun N D hT => TxS_cp ?_ ?_ (fun i a b => ⟨?_, ?_, ?_⟩) (fun i a b => ⟨?_, ?_⟩) hT))
  · rw [aCp_rn (by omega), aCp_rn (by omega), aCp_rn (by omega), aCp_rn (by omega), aCp_rn (by omega), aCp_rn (by omega), aCp_rn (by omega), aUp_rn (by omega), aUp_rn (by omega)]
  · rw [aCp_rn (by omega), aCp_rn (by omega), aCp_rn (by omega), aCp_rn (by omega), aCp_rn (by omega), aCp_rn (by omega), aCp_rn (by omega), aUp_ri (by omega), aUp_re]
  · rw [aCp_rn (by omega), aCp_rn (by omega), aCp_rn (by omega), aCp_rn (by omega), aCp_rn (by omega), aCp_rn (by omega), aCp_rn (by omega), aUp_re, aUp_rn (by omega)]
  · rw [aCp_rn (by omega), aCp_rn (by omega), aCp_rn (by omega), aCp_rn (by omega), aCp_rn (by omega), aCp_rn (by omega), aCp_re a b, aUp_rn (by omega), aUp_rn (by omega)]
  · rw [aCp_rn (by omega), aCp_rn (by omega), aCp_rn (by omega), aCp_rn (by omega), aCp_re a b, aCp_rn (by omega), aCp_rn (by omega), aUp_rn (by omega), aUp_rn (by omega)]
  · rw [aCp_rn (by omega), aCp_rn (by omega), aCp_re a b, aCp_rn (by omega), aCp_rn (by omega), aCp_rn (by omega), aCp_rn (by omega), aUp_rn (by omega), aUp_rn (by omega)]
  · rw [aCp_rn (by omega), aCp_re a b, aCp_rn (by omega), aCp_rn (by omega), aCp_rn (by omega), aCp_rn (by omega), aCp_rn (by omega), aUp_rn (by omega), aUp_rn (by omega)]
  · rw [aCp_re a b, aCp_rn (by omega), aCp_rn (by omega), aCp_rn (by omega), aCp_rn (by omega), aCp_rn (by omega), aCp_rn (by omega), aUp_rn (by omega), aUp_rn (by omega)]
theorem s_fcopy {E : EN} (hE : Ep E) {k : Nat} {mem : Mm} {Q : Mm → Prop} {y p : Int} {r : Rw} (hy : isFd y) (hp : isFd p) (hne : y ≠ p) (hR : fR mem p r) (hQ : ∀ m2 : Mm, (∀ o i, (o < y ∨ y + 3 < o) → m2 o i = mem o i) → fR m2 y r → Q m2) : CV E mX1_copyFrom (k + 1) mem [aR y, aR p] Q := by
  have hd : p + 3 < y ∨ y + 3 < p := by unfold isFd at hy hp; omega
  obtain ⟨f1, f2, f3, f4⟩ := hR
  refine eX1_copyFrom (rX1_copyFrom_0 hE hy hp (hQ _ (fun o i q => ?_) ⟨?_, f2, f3, fun i a b => ?_⟩))
  · rw [aCp_rn (by omega), aCp_rn (by omega), aCp_rn (by omega), aUp_rn (by omega)]
  · rw [aCp_rn (by omega), aCp_rn (by omega), aCp_rn (by omega), aUp_re]; exact f1
  · obtain ⟨g1, g2, g3, g4⟩ := f4 i a b
    refine ⟨?_, ?_, ?_, g4⟩
    · rw [aCp_rn (by omega), aCp_rn (by omega), aCp_re a b, aUp_rn (by omega)]; exact g1
    · rw [aCp_rn (by omega), aCp_re a b, aCp_rn (by omega), aUp_rn (by omega)]; exact g2
    · rw [aCp_re a b, aCp_rn (by omega), aCp_rn (by omega), aUp_rn (by omega)]; exact g3
theorem s_lcopy_l {E : EN} (hE : Ep E) {k : Nat} {m0 : Mm} {Q : Mm → Prop} {y p c : Int} (hy : isLw y) (hp : isLw p) (hd : p + 55 < y ∨ y + 55 < p) (hc : c ≤ 6) (hQ : ∀ m2 : Mm, (∀ o i, (o < y + 1 ∨ y + 55 < o) → m2 o i = m0 o i) → (∀ i, 0 ≤ i → i < c → ∀ N D, TxS m0 (p + 2 + 9 * i) N D → TxS m2 (y + 2 + 9 * i) N D) → Q m2) : ∀ (n : Nat) (mem : Mm) (x : Int), 0 ≤ x → x + n = c → mem y 1 = c → (∀ o i, (o < y + 1 ∨ y + 55 < o) → mem o i = m0 o i) → (∀ i, 0 ≤ i → i < x → ∀ N D, TxS m0 (p + 2 + 9 * i) N D → TxS mem (y + 2 + 9 * i) N D) → VM E mX3_copyFrom (k + 2) mem 18 [(0, aR y), (1, aR p), (2, aI x)] [] (retV Q) := by
  intro n
  induction n with
  | zero =>
    intro mem x h0 h1 h2 h3 h4
    exact rX3_copyFrom_18 hE hy hp ⟨fun _ => hQ mem h3 fun i a b => h4 i a (by omega), fun q => absurd q (by omega)⟩
  | succ n ih =>
    intro mem x h0 h1 h2 h3 h4
    have ty : isTx (y + 1 + 1 + 9 * x) := by unfold isLw at hy; unfold isTx; omega
    have tp : isTx (p + 1 + 1 + 9 * x) := by unfold isLw at hp; unfold isTx; omega
    refine rX3_copyFrom_18 hE hy hp ⟨fun q => absurd q (by omega), fun q => ⟨fun z => absurd z (by omega), fun _ => ⟨⟨h0, by omega⟩, ty, s_tcopy hE ty tp (by omega) fun m2 a b => ⟨⟨by omega, by omega⟩, ih m2 (x + 1) (by omega) (by omega) ((a y 1 (by omega)).trans h2) (fun o i u => (a o i (by omega)).trans (h3 o i u)) fun i u v N D hT => ?_⟩⟩⟩⟩
    by_cases z : i = x
    · subst z
      have := b N D (TxS_fr (fun o j e f => h3 o j (by omega)) (by rw [show p + 1 + 1 + 9 * i = p + 2 + 9 * i by omega]; exact hT))
      rw [show y + 1 + 1 + 9 * i = y + 2 + 9 * i by omega] at this
      exact this
    · exact TxS_fr (fun o j e f => a o j (by omega)) (h4 i u (by omega) N D hT)
theorem s_lcopy {E : EN} (hE : Ep E) {k : Nat} {mem : Mm} {Q : Mm → Prop} {y p : Int} {r : Rw} (hy : isLw y) (hp : isLw p) (hne : y ≠ p) (hR : lR mem p r) (hQ : ∀ m2 : Mm, (∀ o i, (o < y ∨ y + 55 < o) → m2 o i = mem o i) → lR m2 y r → Q m2) : CV E mX3_copyFrom (k + 2) mem [aR y, aR p] Q := by
  have hd : p + 55 < y ∨ y + 55 < p := by unfold isLw at hy hp; omega
  obtain ⟨l1, l2, l3, l4, l5, l6, l7⟩ := hR
  refine eX3_copyFrom (rX3_copyFrom_0 hE hy hp (s_lcopy_l hE hy hp hd l3 (m0 := aUp (aUp mem y 1 (mem p 1)) y 2 ((aUp mem y 1 (mem p 1)) p 2)) (fun m2 a b => hQ m2 (fun o i q => ?_) ⟨?_, l2, l3, ?_, l5, l6, fun i u v => ?_⟩) (r 1).toNat _ 0 (by decide) (by omega) ?_ (fun _ _ _ => rfl) fun i u v => absurd v (by omega)))
  · rw [a o i (by omega), aUp_rn (by omega), aUp_rn (by omega)]
  · rw [a y 1 (by omega), aUp_ri (by decide), aUp_re]; exact l1
  · rw [a y 2 (by omega), aUp_re, aUp_rn (by omega)]; exact l4
  · obtain ⟨D, d1, d2⟩ := l7 i u v
    exact ⟨D, b i u v 10 D (TxS_fr (fun o j e f => by rw [aUp_rn (by omega), aUp_rn (by omega)]) d1), d2⟩
  · rw [aUp_ri (by decide), aUp_re]; exact l1
theorem m_img_l {E : EN} (hE : Ep E) {k : Nat} {m0 : Mm} {Q : Int → Mm → Prop} {p : Int} (hp : 0 ≤ p) (hp2 : p < 2) (hQ : ∀ m2 : Mm, (∀ o i, ¬ (o = 606 ∧ 5570 * p ≤ i ∧ i < 5570 * p + 5570) → m2 o i = m0 o i) → (∀ i, 0 ≤ i → i < 5570 → m2 606 (5570 * p + i) = m0 605 i) → CI E mX12_tell k (aUp m2 607 p 1) [aR 603, aI 0] Q) : ∀ (n : Nat) (mem : Mm) (x : Int), 0 ≤ x → x + n = 5570 → (∀ o i, ¬ (o = 606 ∧ 5570 * p ≤ i ∧ i < 5570 * p + x) → mem o i = m0 o i) → (∀ i, 0 ≤ i → i < x → mem 606 (5570 * p + i) = m0 605 i) → VM E mX12_image (k + 1) mem 23 [(0, aR 603), (1, aI p), (2, aI x)] [] (retI Q) := by
  intro n
  induction n with
  | zero =>
    intro mem x h0 h1 h2 h3
    obtain rfl : x = 5570 := by omega
    exact rX12_image_23 hE ⟨fun _ => ⟨⟨hp, hp2⟩, hQ mem h2 h3⟩, fun q => absurd q (by omega)⟩
  | succ n ih =>
    intro mem x h0 h1 h2 h3
    refine rX12_image_23 hE ⟨fun q => absurd q (by omega), fun _ => ⟨⟨by omega, by omega⟩, ⟨by omega, by omega⟩, ⟨by omega, by omega⟩, ⟨by omega, by omega⟩, ⟨by omega, by omega⟩, ih _ (x + 1) (by omega) (by omega) (fun o i q => ?_) fun i a b => ?_⟩⟩
    · rw [aUp_nn (by omega)]; exact h2 o i (by omega)
    · by_cases z : i = x
      · rw [z, aUp_re, h2 605 x (by omega)]
      · rw [aUp_ri (by omega)]; exact h3 i a (by omega)
theorem m_bck_l {E : EN} (hE : Ep E) {k : Nat} {m0 : Mm} {Q : Int → Mm → Prop} {p : Int} (hp : 0 ≤ p) (hp2 : p < 2) (hQ : ∀ m2 : Mm, (∀ o i, ¬ (o = 605 ∧ 0 ≤ i ∧ i < 5570) → m2 o i = m0 o i) → (∀ i, 0 ≤ i → i < 5570 → m2 605 i = m0 606 (5570 * p + i)) → CI E mX12_tell k (aUp m2 603 8 0) [aR 603, aI 0] Q) : ∀ (n : Nat) (mem : Mm) (x : Int), 0 ≤ x → x + n = 5570 → (∀ o i, ¬ (o = 605 ∧ 0 ≤ i ∧ i < x) → mem o i = m0 o i) → (∀ i, 0 ≤ i → i < x → mem 605 i = m0 606 (5570 * p + i)) → VM E mX12_back (k + 1) mem 39 [(0, aR 603), (1, aI p), (2, aI x)] [] (retI Q) := by
  intro n
  induction n with
  | zero =>
    intro mem x h0 h1 h2 h3
    obtain rfl : x = 5570 := by omega
    exact rX12_back_39 hE ⟨fun _ => hQ mem h2 h3, fun q => absurd q (by omega)⟩
  | succ n ih =>
    intro mem x h0 h1 h2 h3
    refine rX12_back_39 hE ⟨fun q => absurd q (by omega), fun _ => ⟨⟨by omega, by omega⟩, ⟨by omega, by omega⟩, ⟨by omega, by omega⟩, ⟨by omega, by omega⟩, ⟨by omega, by omega⟩, ih _ (x + 1) (by omega) (by omega) (fun o i q => ?_) fun i a b => ?_⟩⟩
    · rw [aUp_nn (by omega)]; exact h2 o i (by omega)
    · by_cases z : i = x
      · rw [z, aUp_re, h2 606 _ (by omega)]
      · rw [aUp_ri (by omega)]; exact h3 i a (by omega)
