-- ways: sets of walls by their bits
/-- walls not bought, from cell c on (n cells to go), cnt found so far in W -/
def wFn (r : Rw) : Nat → Int → Int → (Int → Int) → Option (Int × (Int → Int))
  | 0, _, cnt, W => some (cnt, W)
  | n + 1, c, cnt, W => if r (80 + c) = 1 ∧ r (48 + c) = 0 then (if cnt = 8 then none else wFn r n (c + 1) (cnt + 1) (rUp W cnt c)) else wFn r n (c + 1) cnt W
theorem wFn_ok {r : Rw} : ∀ (n : Nat) (c cnt : Int) (W : Int → Int) (x : Int × (Int → Int)), 0 ≤ c → c + n = 32 → 0 ≤ cnt → cnt ≤ 8 → (∀ j, 0 ≤ j → j < cnt → 0 ≤ W j ∧ W j < 32) → wFn r n c cnt W = some x → 0 ≤ x.1 ∧ x.1 ≤ 8 ∧ ∀ j, 0 ≤ j → j < x.1 → 0 ≤ x.2 j ∧ x.2 j < 32 := by
  intro n
  induction n with
  | zero =>
    intro c cnt W x _ _ h0 h1 h2 h
    unfold wFn at h
    obtain rfl := Option.some.inj h
    exact ⟨h0, h1, h2⟩
  | succ n ih =>
    intro c cnt W x c0 c1 h0 h1 h2 h
    unfold wFn at h
    split at h
    · split at h
      · cases h
      · refine ih (c + 1) (cnt + 1) _ x (by omega) (by omega) (by omega) (by omega) (fun j u v => ?_) h
        by_cases e : j = cnt
        · rw [e, rUp_e]; omega
        · rw [rUp_n e]; exact h2 j u (by omega)
    · exact ih (c + 1) cnt W x (by omega) (by omega) h0 h1 h2 h
/-- the set s of walls W bought: row, prices, bits -/
def wIn (s : Int) (W : Int → Int) : Nat → Int → R3 → R3
  | 0, _, st => st
  | n + 1, k, st => wIn s W n (k + 1) (if xAnd (xShr s k) 1 = 1 then (rUp st.1 (48 + W k) 1, st.2.1 + st.1 (112 + W k), xLor st.2.2 (xLshl 1 (W k))) else st)
/-- n sets to go from s on: the least price (FAR: none), its bits -/
def wOut (L : LW) (r : Rw) (W : Int → Int) (cnt : Nat) (p c : Int) (N : Nat) : Nat → Int → Int × Int → Int × Int
  | 0, _, b => b
  | n + 1, s, b => wOut L r W cnt p c N n (s + 1) (if (wIn s W cnt 0 (r, 0, 0)).2.1 < b.1 ∧ ¬ rYi L p c N 0 (wIn s W cnt 0 (r, 0, 0)).1 = -1 then ((wIn s W cnt 0 (r, 0, 0)).2.1, (wIn s W cnt 0 (r, 0, 0)).2.2) else b)
theorem rOk_bought {Y : Int} {r : Rw} {w : Int} (h : rOk Y r) (h0 : 0 ≤ w) (h1 : w < 32) : rOk Y (rUp r (48 + w) 1) := by
  obtain ⟨a1, a2, a3, a4, a5, a6, a7, a8, a9, a10, a11, a12, a13⟩ := h
  have g : ∀ i, i ≠ 48 + w → rUp r (48 + w) 1 i = r i := fun i q => rUp_n q
  refine ⟨by rw [g _ (by omega)]; exact a1, by rw [g _ (by omega)]; exact a2, fun q a b => ?_, fun q a b => ?_, by rw [g _ (by omega)]; exact a5, by rw [g _ (by omega)]; exact a6, by rw [g _ (by omega)]; exact a7, by rw [g _ (by omega)]; exact a8, by rw [g _ (by omega)]; exact a9, by rw [g _ (by omega)]; exact a10, by rw [g _ (by omega)]; exact a11, by rw [g _ (by omega)]; exact a12, fun q s a b d e f => ?_⟩
  · rw [g (8 + q) (by omega), g (18 + q) (by omega), g (28 + q) (by omega), g (38 + q) (by omega)]
    exact a3 q a b
  · rw [g (80 + q) (by omega), g (112 + q) (by omega)]
    have := a4 q a b
    by_cases e : q = w
    · rw [e, rUp_e, ← e]; omega
    · rw [g (48 + q) (by omega)]; exact this
  · rw [g 7 (by omega)] at b e
    rw [g (8 + q) (by omega), g (8 + s) (by omega)] at f
    exact a13 q s a b d e f
theorem yR_bought {m : Mm} {y w : Int} {r : Rw} (h : yR m y r) (h0 : 0 ≤ w) (h1 : w < 32) : yR (aUp m (y + 3) w 1) y (rUp r (48 + w) 1) := by
  obtain ⟨a, b, c, d⟩ := h
  refine ⟨by rw [aUp_rn (by omega), rUp_n (by omega)]; exact a, fun i u v => ?_, fun i u v => ?_, fun i u v => ?_⟩
  · rw [aUp_rn (b := y + 1) (by omega), aUp_rn (b := y + 2) (by omega), rUp_n (i := 80 + i) (by omega), rUp_n (i := 112 + i) (by omega)]
    refine ⟨(b i u v).1, (b i u v).2.1, ?_⟩
    by_cases e : i = w
    · rw [e, aUp_re, rUp_e]
    · rw [aUp_ri e, rUp_n (by omega)]; exact (b i u v).2.2
  · rw [aUp_rn (by omega), aUp_rn (by omega), aUp_rn (by omega), aUp_rn (by omega), rUp_n (by omega), rUp_n (by omega), rUp_n (by omega), rUp_n (by omega)]; exact c i u v
  · rw [aUp_rn (by omega), rUp_n (by omega)]; exact d i u v
theorem wIn_pr {s : Int} {W : Int → Int} : ∀ (n : Nat) (k : Int) (st : R3), rOk 999 st.1 → 0 ≤ k → k + n ≤ 8 → (∀ j, 0 ≤ j → j < k + n → 0 ≤ W j ∧ W j < 32) → 0 ≤ st.2.1 → st.2.1 ≤ 99 * k → rOk 999 (wIn s W n k st).1 ∧ 0 ≤ (wIn s W n k st).2.1 ∧ (wIn s W n k st).2.1 ≤ 99 * (k + n) := by
  intro n
  induction n with
  | zero => intro k st h _ _ _ a b; exact ⟨h, a, by show st.2.1 ≤ _; omega⟩
  | succ n ih =>
    intro k st h k0 k1 hW a b
    have w := hW k k0 (by omega)
    have pr := h.2.2.2.1 (W k) w.1 w.2
    unfold wIn
    have e : (99 : Int) * (k + ((n + 1 : Nat) : Int)) = 99 * (k + 1 + (n : Int)) := by omega
    rw [e]
    split
    · exact ih (k + 1) _ (rOk_bought h w.1 w.2) (by omega) (by omega) (fun j u v => hW j u (by omega)) (by dsimp only; omega) (by dsimp only; omega)
    · exact ih (k + 1) st h (by omega) (by omega) (fun j u v => hW j u (by omega)) a (by omega)
theorem shl_cnt {c : Int} (h0 : 0 ≤ c) (h1 : c ≤ 8) : 1 ≤ xShl 1 c ∧ xShl 1 c ≤ 256 := by
  have : c = 0 ∨ c = 1 ∨ c = 2 ∨ c = 3 ∨ c = 4 ∨ c = 5 ∨ c = 6 ∨ c = 7 ∨ c = 8 := by omega
  rcases this with rfl | rfl | rfl | rfl | rfl | rfl | rfl | rfl | rfl <;> decide
/-- the class lists the walls -/
theorem s_lst {E : EN} (hE : Ep E) {k : Nat} {m0 : Mm} {Q : Int → Mm → Prop} {r : Rw} (hR : yR m0 2 r) : ∀ (n : Nat) (mem : Mm) (c cnt : Int) (W : Int → Int), 0 ≤ c → c + n = 32 → 0 ≤ cnt → cnt ≤ 8 → (∀ o i, o ≠ 573 → mem o i = m0 o i) → (∀ j, 0 ≤ j → j < cnt → mem 573 j = W j) → (∀ m2, (∀ o i, o ≠ 573 → m2 o i = m0 o i) → (∀ x, wFn r n c cnt W = some x → (∀ j, 0 ≤ j → j < x.1 → m2 573 j = x.2 j) → Q x.1 m2) ∧ (wFn r n c cnt W = none → Q (-1) m2)) → VM E mX5_listOpenWalls k mem 4 [(0, aR 552), (1, aR 2), (2, aI cnt), (3, aI c)] [] (retI Q) := by
  intro n
  induction n with
  | zero =>
    intro mem c cnt W c0 c1 n0 n1 h1 h2 hQ
    exact rX5_listOpenWalls_4 hE isYd2 ⟨fun _ => (hQ mem h1).1 (cnt, W) rfl h2, fun d => absurd d (by omega)⟩
  | succ n ih =>
    intro mem c cnt W c0 c1 n0 n1 h1 h2 hQ
    have g := hR.2.1 c c0 (by omega)
    have e1 : mem (2 + 1) c = r (80 + c) := (h1 _ _ (by decide)).trans g.1
    have e3 : mem (2 + 3) c = r (48 + c) := (h1 _ _ (by decide)).trans g.2.2
    unfold wFn at hQ
    refine rX5_listOpenWalls_4 hE isYd2 ⟨fun d => absurd d (by omega), fun _ => ⟨⟨c0, by omega⟩, ?_⟩⟩
    rw [e1, e3]
    refine ⟨fun d => ⟨⟨by omega, by omega⟩, ?_⟩, fun d => ⟨fun d2 => ⟨⟨by omega, by omega⟩, ?_⟩, fun d2 => ⟨fun d3 => ⟨⟨n0, d3⟩, ⟨by omega, by omega⟩, ⟨by omega, by omega⟩, ?_⟩, fun d3 => ?_⟩⟩⟩
    · rw [if_neg (fun q => d q.1)] at hQ
      exact ih mem (c + 1) cnt W (by omega) (by omega) n0 n1 h1 h2 hQ
    · rw [if_neg (fun q => d2 q.2)] at hQ
      exact ih mem (c + 1) cnt W (by omega) (by omega) n0 n1 h1 h2 hQ
    · rw [if_pos ⟨d, d2⟩, if_neg (by omega)] at hQ
      refine ih _ (c + 1) (cnt + 1) (rUp W cnt c) (by omega) (by omega) (by omega) (by omega) (fun o i q => (aUp_rn q).trans (h1 o i q)) (fun j u v => ?_) hQ
      by_cases e : j = cnt
      · rw [e, aUp_re, rUp_e]
      · rw [aUp_ri e, rUp_n e]; exact h2 j u (by omega)
    · rw [if_pos ⟨d, d2⟩, if_pos (by omega)] at hQ
      exact (hQ mem h1).2 rfl
/-- the class's one set: the bought walls, prices, bits -/
theorem s_win {E : EN} (hE : Ep E) {m0 : Mm} {Q : Int → Mm → Prop} {L : LW} {W : Int → Int} {p c N cnt x6 s : Int} (hc0 : cnt ≤ 8) (hW : ∀ j, 0 ≤ j → j < cnt → 0 ≤ W j ∧ W j < 32) : ∀ (n : Nat) (mem : Mm) (k : Int) (st : R3), 0 ≤ k → k + n = cnt → pYd m0 mem L st.1 → (∀ j, 0 ≤ j → j < cnt → mem 573 j = W j) → rOk 999 st.1 → 0 ≤ st.2.1 → st.2.1 ≤ 99 * k → (∀ i, mem 552 i = m0 552 i) →
    (∀ m2, pYd m0 m2 L (wIn s W n k st).1 → (∀ j, 0 ≤ j → j < cnt → m2 573 j = W j) → (∀ i, m2 552 i = m0 552 i) → VM E mX5_findWays 1198 m2 126 [(0, aR 552), (1, aR 2), (2, aI p), (3, aI c), (4, aI N), (5, aI cnt), (6, aI x6), (7, aI s), (8, aL (wIn s W n k st).2.1), (10, aL (wIn s W n k st).2.2)] [] (retI Q)) →
    VM E mX5_findWays 1198 mem 44 [(0, aR 552), (1, aR 2), (2, aI p), (3, aI c), (4, aI N), (5, aI cnt), (6, aI x6), (7, aI s), (8, aL st.2.1), (10, aL st.2.2), (12, aI k)] [] (retI Q) := by
  intro n
  induction n with
  | zero =>
    intro mem k st k0 k1 hP hw hok a b h5 hQ
    exact rX5_findWays_44 (k := 1197) hE isYd2 ⟨fun _ => hQ mem hP hw h5, fun d => absurd d (by omega)⟩
  | succ n ih =>
    intro mem k st k0 k1 hP hw hok a b h5 hQ
    unfold wIn at hQ
    have w := hW k k0 (by omega)
    have ew := hw k k0 (by omega)
    refine rX5_findWays_44 (k := 1197) hE isYd2 ⟨fun d => absurd d (by omega), fun _ => ⟨fun d => absurd d (by omega), fun _ => ⟨fun d => ?_, fun d => ?_⟩⟩⟩
    · rw [if_neg d] at hQ
      exact rX5_findWays_120 (k := 1197) hE isYd2 ⟨⟨by omega, by omega⟩, ih mem (k + 1) st (by omega) (by omega) hP hw hok a (by omega) h5 hQ⟩
    · rw [if_pos d] at hQ
      have g := hP.2.1.2.1 (W k) w.1 w.2
      have e2 : mem 555 (W k) = st.1 (112 + W k) := g.2.1
      have pr := hok.2.2.2.1 (W k) w.1 w.2
      rw [ew, e2]
      refine ⟨⟨k0, by omega⟩, ⟨w.1, w.2⟩, ⟨by omega, by omega⟩, rX5_findWays_120 (k := 1197) hE isYd2 ⟨⟨by omega, by omega⟩, ?_⟩⟩
      refine ih (aUp mem 556 (W k) 1) (k + 1) (rUp st.1 (48 + W k) 1, st.2.1 + st.1 (112 + W k), xLor st.2.2 (xLshl 1 (W k))) (by omega) (by omega) ⟨fun o i u => ?_, yR_bought hP.2.1 w.1 w.2, ?_⟩ (fun j u v => ?_) (rOk_bought hok w.1 w.2) (by dsimp only; omega) (by dsimp only; omega) (fun i => (aUp_rn (by decide)).trans (h5 i)) hQ
      · rw [aUp_rn (fun z => u (by unfold scr; omega))]; exact hP.1 o i u
      · exact yL_q isYd553 hP.2.2 (aUp_rn (by decide)) fun o i u v => aUp_rn (by omega)
      · rw [aUp_rn (by decide)]; exact hw j u v
/-- the yard's law text is one of those that the invariant speaks of -/
def lw29 (m : Mm) : Prop := m 2 9 < 0 ∨ (355 ≤ m 2 9 ∧ m 2 9 ≤ 400)
theorem jC_29 {m : Mm} (hC : jC m) : lw29 m := by
  obtain ⟨-, -, ⟨-, -, -, l1, l2, l3, l4, l5, l6, l7⟩, hl, -⟩ := hC
  unfold iLw at hl
  unfold lw29
  split at hl <;> omega
theorem yL2_rEk {m m2 : Mm} {L : LW} (h9 : lw29 m) (hL : yL m 2 L) (h : rEk m m2) : yL m2 2 L ∧ lw29 m2 := by
  have e9 : m2 2 9 = m 2 9 := rEk_sm h (by omega)
  unfold yL lw29
  rw [e9]
  refine ⟨?_, h9⟩
  rcases hL with q | ⟨q, D, q2, q3⟩
  · exact Or.inl q
  · refine Or.inr ⟨q, D, TxS_fr (fun o i u v => ?_) q2, q3⟩
    have ht := tx_lt q
    rcases h9 with z | z
    · omega
    · obtain ⟨w1, w2⟩ := nscr_tx (l := 353) (t := (m 2 9 - 355) / 9) (o := o) (i := i) (by omega) (by omega) (by unfold isTx at q; omega) (by unfold isTx at q; omega)
      exact h _ _ w1 w2
theorem s_wout {E : EN} (hE : Ep E) {m0 : Mm} {Q : Int → Mm → Prop} {L : LW} {r : Rw} {W : Int → Int} {p c N : Int} {cnt : Nat} (hc0 : cnt ≤ 8) (hW : ∀ j : Int, 0 ≤ j → j < cnt → 0 ≤ W j ∧ W j < 32) (hp : 0 ≤ p) (hp2 : p < 10) (hc : R32 c) (hN : 0 ≤ N) (hN2 : N ≤ 30) (hR : yR m0 2 r) (hL : yL m0 2 L) (h29 : lw29 m0) (hok : rOk 999 r)
    (hZ : ∀ (b : Int × Int) (m2 : Mm), b = wOut L r W cnt p c N.toNat (xShl 1 cnt).toNat 0 (100000000, 0) → rEq m0 m2 → (b.1 = 100000000 → Q 0 m2) ∧ (¬ b.1 = 100000000 → m2 552 5 = b.1 → m2 552 6 = b.2 → Q 1 m2)) : ∀ (n : Nat) (mem : Mm) (s x6 : Int) (b : Int × Int), rEq m0 mem → 0 ≤ s → s + n = xShl 1 cnt → wOut L r W cnt p c N.toNat (xShl 1 cnt).toNat 0 (100000000, 0) = wOut L r W cnt p c N.toNat n s b → (∀ j : Int, 0 ≤ j → j < cnt → mem 573 j = W j) → ((x6 = 0 ∧ b.1 = 100000000) ∨ (x6 = 1 ∧ b.1 < 100000000 ∧ mem 552 5 = b.1 ∧ mem 552 6 = b.2)) → VM E mX5_findWays 1198 mem 21 [(0, aR 552), (1, aR 2), (2, aI p), (3, aI c), (4, aI N), (5, aI cnt), (6, aI x6), (7, aI s)] [] (retI Q) := by
  have hsh := shl_cnt (c := cnt) (by omega) (by omega)
  intro n
  induction n with
  | zero =>
    intro mem s x6 b q1 s0 s1 hb hw hx
    have hz := hZ b mem hb.symm q1
    refine rX5_findWays_21 (k := 1197) hE isYd2 ⟨fun _ => ?_, fun d => absurd d (by omega)⟩
    rcases hx with ⟨rfl, e⟩ | ⟨rfl, e, f, g⟩
    · exact ⟨Or.inl rfl, hz.1 e⟩
    · exact ⟨Or.inr rfl, hz.2 (by omega) f g⟩
  | succ n ih =>
    intro mem s x6 b q1 s0 s1 hb hw hx
    have hR1 : yR mem 2 r := rEk_yR (rEq_k q1) (Or.inl rfl) hR
    obtain ⟨hL1, -⟩ := yL2_rEk h29 hL (rEq_k q1)
    have hpr := wIn_pr (s := s) (W := W) cnt 0 (r, 0, 0) hok (by decide) (by omega) (fun j u v => hW j u (by omega)) (Int.le_refl 0) (by dsimp only; omega)
    rw [show wOut L r W cnt p c N.toNat (n + 1) s b = wOut L r W cnt p c N.toNat n (s + 1) (if (wIn s W cnt 0 (r, 0, 0)).2.1 < b.1 ∧ ¬ rYi L p c N.toNat 0 (wIn s W cnt 0 (r, 0, 0)).1 = -1 then ((wIn s W cnt 0 (r, 0, 0)).2.1, (wIn s W cnt 0 (r, 0, 0)).2.2) else b) from rfl] at hb
    generalize hst : wIn s W cnt 0 (r, 0, 0) = st at hb hpr
    have nx : ∀ (m2 : Mm) (y6 : Int) (b2 : Int × Int), b2 = (if st.2.1 < b.1 ∧ ¬ rYi L p c N.toNat 0 st.1 = -1 then (st.2.1, st.2.2) else b) → rEq mem m2 → (∀ j : Int, 0 ≤ j → j < cnt → m2 573 j = W j) → ((y6 = 0 ∧ b2.1 = 100000000) ∨ (y6 = 1 ∧ b2.1 < 100000000 ∧ m2 552 5 = b2.1 ∧ m2 552 6 = b2.2)) → VM E mX5_findWays 1198 m2 180 [(0, aR 552), (1, aR 2), (2, aI p), (3, aI c), (4, aI N), (5, aI cnt), (6, aI y6), (7, aI s)] [] (retI Q) := by
      intro m2 y6 b2 z0 z1 z2 z3
      subst z0
      exact rX5_findWays_180 (k := 1197) hE isYd2 ⟨⟨by omega, by omega⟩, ih m2 (s + 1) y6 _ (rEq_tr q1 z1) (by omega) (by omega) hb z2 z3⟩
    refine rX5_findWays_21 (k := 1197) hE isYd2 ⟨fun d => absurd d (by omega), fun _ => s_begin (k := 1195) hE hR1 hL1 fun m2 cP cf => ?_⟩
    refine s_win hE (m0 := mem) (L := L) (W := W) (by omega) hW cnt m2 0 (r, 0, 0) (by decide) (by omega) cP (fun j u v => (cf 573 j (by omega)).trans (hw j u v)) hok (Int.le_refl 0) (by dsimp only; omega) (fun i => cf 552 i (by omega)) fun m3 y1 y2 y3 => ?_
    rw [hst] at y1 ⊢
    have h141 : st.2.1 < b.1 → VM E mX5_findWays 1198 m3 141 [(0, aR 552), (1, aR 2), (2, aI p), (3, aI c), (4, aI N), (5, aI cnt), (6, aI x6), (7, aI s), (8, aL st.2.1), (10, aL st.2.2)] [] (retI Q) := by
      intro hlt
      refine rX5_findWays_141 (k := 1197) hE isYd2 fun _ r2 _ => s_yearIn (k := 1192) hE hp hp2 r2 hN (by omega) y1 hpr.1 (by omega) fun m4 w1 w2 => ⟨fun u => ?_, fun u => ?_⟩
      · refine nx m4 x6 b (by rw [if_neg (fun q => q.2 u)]) w1 (fun j a d => (w2 573 j (by omega) (by unfold isTx; omega)).trans (y2 j a d)) ?_
        rcases hx with z | ⟨z1, z2, z3, z4⟩
        · exact Or.inl z
        · exact Or.inr ⟨z1, z2, (w2 552 5 (by omega) (by unfold isTx; omega)).trans ((y3 5).trans z3), (w2 552 6 (by omega) (by unfold isTx; omega)).trans ((y3 6).trans z4)⟩
      · refine nx _ 1 (st.2.1, st.2.2) (by rw [if_pos ⟨hlt, u⟩]) (fun o i q => ?_) (fun j a d => ?_) (Or.inr ⟨rfl, by dsimp only; omega, (aUp_ri (by decide)).trans aUp_re, aUp_re⟩)
        · rw [aUp_rn (fun z => q (by unfold scr; omega)), aUp_rn (fun z => q (by unfold scr; omega))]; exact w1 o i q
        · rw [aUp_rn (by decide), aUp_rn (by decide)]; exact (w2 573 j (by omega) (by unfold isTx; omega)).trans (y2 j a d)
    refine rX5_findWays_126 (k := 1197) hE isYd2 ⟨fun u => ?_, fun u => ⟨fun d => ?_, fun d => ?_⟩⟩
    · rcases hx with ⟨z1, z2⟩ | ⟨z1, -⟩
      · exact h141 (by omega)
      · omega
    · rcases hx with ⟨z1, z2⟩ | ⟨z1, z2, z3, z4⟩
      · omega
      · rw [y3 5, z3] at d
        exact nx m3 x6 b (by rw [if_neg (fun q => absurd q.1 (by omega))]) y1.1 y2 (Or.inr ⟨z1, z2, (y3 5).trans z3, (y3 6).trans z4⟩)
    · rcases hx with ⟨z1, z2⟩ | ⟨z1, z2, z3, z4⟩
      · omega
      · rw [y3 5, z3] at d
        exact h141 d
/-- the model lists the walls -/
theorem m_lst {E : EN} (hE : Ep E) {m0 : Mm} {Q : Int → Mm → Prop} {r : Rw} {p c0 N w : Int} (h5 : m0 605 = r) : ∀ (n : Nat) (mem : Mm) (c cnt : Int) (W : Int → Int), 0 ≤ c → c + n = 32 → 0 ≤ cnt → cnt ≤ 8 → (∀ o i, o ≠ 625 → mem o i = m0 o i) → (∀ j, 0 ≤ j → j < cnt → mem 625 j = W j) → (∀ m2, (∀ o i, o ≠ 625 → m2 o i = m0 o i) → (∀ x, wFn r n c cnt W = some x → (∀ j, 0 ≤ j → j < x.1 → m2 625 j = x.2 j) → VM E mX12_ways 1199 m2 127 [(0, aR 603), (1, aI p), (2, aI c0), (3, aI N), (4, aI w), (5, aI x.1), (6, aI 100000000), (7, aL 0), (9, aI 0)] [] (retL Q)) ∧ (wFn r n c cnt W = none → Q (-1) m2)) → VM E mX12_ways 1199 mem 53 [(0, aR 603), (1, aI p), (2, aI c0), (3, aI N), (4, aI w), (5, aI cnt), (6, aI c)] [] (retL Q) := by
  intro n
  induction n with
  | zero =>
    intro mem c cnt W c0 c1 n0 n1 h1 h2 hQ
    exact rX12_ways_53 (k := 1198) hE ⟨fun _ => (hQ mem h1).1 (cnt, W) rfl h2, fun d => absurd d (by omega)⟩
  | succ n ih =>
    intro mem c cnt W c0 c1 n0 n1 h1 h2 hQ
    have e605 : ∀ i, mem 605 i = r i := fun i => (h1 _ _ (by decide)).trans (congrFun h5 i)
    unfold wFn at hQ
    refine rX12_ways_53 (k := 1198) hE ⟨fun d => absurd d (by omega), fun _ => ⟨⟨by omega, by omega⟩, ⟨by omega, by omega⟩, ?_⟩⟩
    rw [e605, e605]
    refine ⟨fun d => rX12_ways_110 (k := 1198) hE ⟨⟨by omega, by omega⟩, ?_⟩, fun d => ⟨⟨by omega, by omega⟩, ⟨by omega, by omega⟩, fun d2 => rX12_ways_110 (k := 1198) hE ⟨⟨by omega, by omega⟩, ?_⟩, fun d2 => ⟨fun d3 => ⟨⟨n0, by omega⟩, ⟨by omega, by omega⟩, rX12_ways_110 (k := 1198) hE ⟨⟨by omega, by omega⟩, ?_⟩⟩, fun d3 => ?_⟩⟩⟩
    · rw [if_neg (fun q => d q.1)] at hQ
      exact ih mem (c + 1) cnt W (by omega) (by omega) n0 n1 h1 h2 hQ
    · rw [if_neg (fun q => d2 q.2)] at hQ
      exact ih mem (c + 1) cnt W (by omega) (by omega) n0 n1 h1 h2 hQ
    · rw [if_pos ⟨d, d2⟩, if_neg d3] at hQ
      refine ih _ (c + 1) (cnt + 1) (rUp W cnt c) (by omega) (by omega) (by omega) (by omega) (fun o i q => (aUp_rn q).trans (h1 o i q)) (fun j u v => ?_) hQ
      by_cases e : j = cnt
      · rw [e, aUp_re, rUp_e]
      · rw [aUp_ri e, rUp_n e]; exact h2 j u (by omega)
    · rw [if_pos ⟨d, d2⟩, if_pos d3] at hQ
      exact (hQ mem h1).2 rfl
theorem pMd_bought {m0 m : Mm} {L : LW} {r : Rw} {w : Int} (h : pMd m0 m L r) (h0 : 0 ≤ w) (h1 : w < 32) : pMd m0 (aUp m 605 (48 + w) 1) L (rUp r (48 + w) 1) := by
  obtain ⟨⟨a1, a2, a3⟩, b, c, d⟩ := h
  refine ⟨⟨fun o i u v => (aUp_rn v).trans (a1 o i u v), fun i u => (aUp_ri (by omega)).trans (a2 i u), fun i u v => (aUp_rn (by decide)).trans (a3 i u v)⟩, by rw [aUp_rUp, b], mL_fr (aUp_ri (by omega)) (fun i u => aUp_ri (by omega)) c, (aUp_rn (by decide)).trans d⟩
theorem m_win {E : EN} (hE : Ep E) {m0 : Mm} {Q : Int → Mm → Prop} {L : LW} {W : Int → Int} {p c N cnt x6 x7 s w : Int} (hc0 : cnt ≤ 8) (hW : ∀ j, 0 ≤ j → j < cnt → 0 ≤ W j ∧ W j < 32) : ∀ (n : Nat) (mem : Mm) (k : Int) (st : R3), 0 ≤ k → k + n = cnt → pMd m0 mem L st.1 → (∀ j, 0 ≤ j → j < cnt → mem 625 j = W j) → rOk 999 st.1 → 0 ≤ st.2.1 → st.2.1 ≤ 99 * k →
    (∀ m2, pMd m0 m2 L (wIn s W n k st).1 → (∀ j, 0 ≤ j → j < cnt → m2 625 j = W j) → VM E mX12_ways 1199 m2 151 [(0, aR 603), (1, aI p), (2, aI c), (3, aI N), (4, aI w), (5, aI cnt), (6, aI x6), (7, aL x7), (9, aI s), (10, aI (wIn s W n k st).2.1), (11, aL (wIn s W n k st).2.2), (13, aI cnt)] [] (retL Q)) →
    VM E mX12_ways 1199 mem 151 [(0, aR 603), (1, aI p), (2, aI c), (3, aI N), (4, aI w), (5, aI cnt), (6, aI x6), (7, aL x7), (9, aI s), (10, aI st.2.1), (11, aL st.2.2), (13, aI k)] [] (retL Q) := by
  intro n
  induction n with
  | zero =>
    intro mem k st k0 k1 hP hw hok a b hQ
    obtain rfl : k = cnt := by omega
    exact hQ mem hP hw
  | succ n ih =>
    intro mem k st k0 k1 hP hw hok a b hQ
    unfold wIn at hQ
    have w1 := hW k k0 (by omega)
    have ew := hw k k0 (by omega)
    refine rX12_ways_151 (k := 1198) hE ⟨fun d => absurd d (by omega), fun _ => ⟨fun d => ?_, fun d => ?_⟩⟩
    · rw [if_neg d] at hQ
      exact rX12_ways_219 (k := 1198) hE ⟨⟨by omega, by omega⟩, ih mem (k + 1) st (by omega) (by omega) hP hw hok a (by omega) hQ⟩
    · rw [if_pos d] at hQ
      have e2 : mem 605 (112 + W k) = st.1 (112 + W k) := congrFun hP.2.1 _
      have pr := hok.2.2.2.1 (W k) w1.1 w1.2
      rw [ew, e2]
      refine ⟨⟨k0, by omega⟩, ⟨by omega, by omega⟩, ⟨by omega, by omega⟩, ⟨by omega, by omega⟩, ⟨by omega, by omega⟩, ⟨by omega, by omega⟩, rX12_ways_219 (k := 1198) hE ⟨⟨by omega, by omega⟩, ?_⟩⟩
      exact ih (aUp mem 605 (48 + W k) 1) (k + 1) (rUp st.1 (48 + W k) 1, st.2.1 + st.1 (112 + W k), xLor st.2.2 (xLshl 1 (W k))) (by omega) (by omega) (pMd_bought hP w1.1 w1.2) (fun j u v => (aUp_rn (by decide)).trans (hw j u v)) (rOk_bought hok w1.1 w1.2) (by dsimp only; omega) (by dsimp only; omega) hQ
theorem m_wout {E : EN} (hE : Ep E) {m0 : Mm} {Q : Int → Mm → Prop} {L : LW} {r : Rw} {W : Int → Int} {p c N w : Int} {cnt : Nat} (hc0 : cnt ≤ 8) (hW : ∀ j : Int, 0 ≤ j → j < cnt → 0 ≤ W j ∧ W j < 32) (hp : 0 ≤ p) (hp2 : p < 10) (hc : R32 c) (hN : 0 ≤ N) (hN2 : N ≤ 30) (h5 : m0 605 = r) (hL : mL m0 L) (h20 : m0 603 20 = 0) (hok : rOk 999 r)
    (hZ : ∀ (b : Int × Int) (m2 : Mm), b = wOut L r W cnt p c N.toNat (xShl 1 cnt).toNat 0 (100000000, 0) → rEq m0 m2 → Q (if b.1 = 100000000 then -1 else if w = 0 then b.1 else b.2) m2) : ∀ (n : Nat) (mem : Mm) (s : Int) (b : Int × Int), rEq m0 mem → 0 ≤ s → s + n = xShl 1 cnt → wOut L r W cnt p c N.toNat (xShl 1 cnt).toNat 0 (100000000, 0) = wOut L r W cnt p c N.toNat n s b → (∀ j : Int, 0 ≤ j → j < cnt → mem 625 j = W j) → VM E mX12_ways 1199 mem 127 [(0, aR 603), (1, aI p), (2, aI c), (3, aI N), (4, aI w), (5, aI cnt), (6, aI b.1), (7, aL b.2), (9, aI s)] [] (retL Q) := by
  have hsh := shl_cnt (c := cnt) (by omega) (by omega)
  intro n
  induction n with
  | zero =>
    intro mem s b q1 s0 s1 hb hw
    have hz := hZ b mem hb.symm q1
    refine rX12_ways_127 (k := 1198) hE ⟨fun _ => ⟨fun u => ⟨fun v => ?_, fun v => ?_⟩, fun u => ?_⟩, fun d => absurd d (by omega)⟩
    · rw [if_neg u, if_neg v] at hz; exact hz
    · rw [if_neg u, if_pos v] at hz; exact hz
    · rw [if_pos u] at hz; exact hz
  | succ n ih =>
    intro mem s b q1 s0 s1 hb hw
    have hpr := wIn_pr (s := s) (W := W) cnt 0 (r, 0, 0) hok (by decide) (by omega) (fun j u v => hW j u (by omega)) (Int.le_refl 0) (by dsimp only; omega)
    rw [show wOut L r W cnt p c N.toNat (n + 1) s b = wOut L r W cnt p c N.toNat n (s + 1) (if (wIn s W cnt 0 (r, 0, 0)).2.1 < b.1 ∧ ¬ rYi L p c N.toNat 0 (wIn s W cnt 0 (r, 0, 0)).1 = -1 then ((wIn s W cnt 0 (r, 0, 0)).2.1, (wIn s W cnt 0 (r, 0, 0)).2.2) else b) from rfl] at hb
    have e605 : mem 605 = r := (rEq_605 q1).trans h5
    have hL1 : mL mem L := mL_eq (rEq_605 q1) hL
    have h201 : mem 603 20 = 0 := (rEk_sm (rEq_k q1) (by omega)).trans h20
    refine rX12_ways_127 (k := 1198) hE ⟨fun d => absurd d (by omega), fun _ => pMd_keep hE rEq_rf hL1 h201 fun m2 cP cf => ?_⟩
    rw [e605] at cP
    refine m_win hE (m0 := mem) (L := L) (W := W) (by omega) hW cnt m2 0 (r, 0, 0) (by decide) (by omega) cP (fun j u v => (cf 625 j (by decide)).trans (hw j u v)) hok (Int.le_refl 0) (by dsimp only; omega) fun m3 y1 y2 => ?_
    generalize hst : wIn s W cnt 0 (r, 0, 0) = st at hb hpr y1 ⊢
    have nx : ∀ (m4 : Mm) (b2 : Int × Int) (rr : Rw), b2 = (if st.2.1 < b.1 ∧ ¬ rYi L p c N.toNat 0 st.1 = -1 then (st.2.1, st.2.2) else b) → pMd mem m4 L rr → (∀ j : Int, 0 ≤ j → j < cnt → m4 625 j = W j) → VM E mX12_ways 1199 m4 253 [(0, aR 603), (1, aI p), (2, aI c), (3, aI N), (4, aI w), (5, aI cnt), (6, aI b2.1), (7, aL b2.2), (9, aI s)] [] (retL Q) := by
      intro m4 b2 rr z0 z1 z2
      subst z0
      exact rX12_ways_253 (k := 1198) hE (m_putP hE z1.1 fun m5 a d => ⟨⟨by omega, by omega⟩, ih m5 (s + 1) _ (rEq_tr q1 a) (by omega) (by omega) hb fun j u v => (d 625 j (by decide)).trans (z2 j u v)⟩)
    refine rX12_ways_151 (k := 1198) hE ⟨fun _ => ⟨fun d => ?_, fun d _ r2 _ => ?_⟩, fun d => absurd d (by omega)⟩
    · exact nx m3 b st.1 (by rw [if_neg (fun q => absurd q.1 (by omega))]) y1 y2
    · refine m_yearIn (k := 1190) hE hp hp2 r2 hN (by omega) y1 hpr.1 (by omega) fun m4 rr w1 w2 => ?_
      have hle := rYi_le (L := L) (p := p) (c := c) N.toNat 0 st.1
      by_cases u : rYi L p c N.toNat 0 st.1 = -1
      · rw [if_pos u]
        exact ⟨fun _ => nx m4 b rr (by rw [if_neg (fun q => q.2 u)]) w1 fun j a e => (w2 625 j rfl).trans (y2 j a e), fun z => absurd rfl z⟩
      · rw [if_neg u]
        exact ⟨fun z => absurd z (by omega), fun _ => nx m4 (st.2.1, st.2.2) rr (by rw [if_pos ⟨d, u⟩]) w1 fun j a e => (w2 625 j rfl).trans (y2 j a e)⟩
def rWy (L : LW) (r : Rw) (p c n w : Int) : Int := match wFn r 32 0 0 (fun _ => 0) with
  | none => -1
  | some x => if (wOut L r x.2 x.1.toNat p c n.toNat (xShl 1 x.1).toNat 0 (100000000, 0)).1 = 100000000 then -1 else if w = 0 then (wOut L r x.2 x.1.toNat p c n.toNat (xShl 1 x.1).toNat 0 (100000000, 0)).1 else (wOut L r x.2 x.1.toNat p c n.toNat (xShl 1 x.1).toNat 0 (100000000, 0)).2
theorem rWy_some {L : LW} {r : Rw} {p c n w : Int} {x : Int × (Int → Int)} (h : wFn r 32 0 0 (fun _ => 0) = some x) : rWy L r p c n w = if (wOut L r x.2 x.1.toNat p c n.toNat (xShl 1 x.1).toNat 0 (100000000, 0)).1 = 100000000 then -1 else if w = 0 then (wOut L r x.2 x.1.toNat p c n.toNat (xShl 1 x.1).toNat 0 (100000000, 0)).1 else (wOut L r x.2 x.1.toNat p c n.toNat (xShl 1 x.1).toNat 0 (100000000, 0)).2 := by
  unfold rWy
  rw [h]
theorem rWy_none {L : LW} {r : Rw} {p c n w : Int} (h : wFn r 32 0 0 (fun _ => 0) = none) : rWy L r p c n w = -1 := by
  unfold rWy
  rw [h]
theorem st_ways {E : EN} (hE : Ep E) : stL E 1199 (iAll jC) mX11_ways mX12_ways 4 := by
  refine obs_pairL fun mem av hl hr hC => ?_
  obtain ⟨p, c, n, w, rfl⟩ := four_arg hl
  have hp : R32 p := hr p (by simp)
  have hc : R32 c := hr c (by simp)
  have hn : R32 n := hr n (by simp)
  have hw : R32 w := hr w (by simp)
  obtain ⟨L, hy, hm⟩ := jC_law hC
  have hF := hC.2.2.1
  have h7 := hF.1.2.1
  refine ⟨if (0 ≤ p ∧ p < mem 605 7) ∧ (0 ≤ c ∧ c < 32) ∧ (0 ≤ n ∧ n ≤ 30) ∧ (w = 0 ∨ w = 1) then rWy L (mem 605) p c n w else -1, fun Q hQ => ?_, fun m1 Q q1 hC1 hQ => ?_⟩
  · refine eX11_ways (k := 1198) hp hc hn hw (rX11_ways_0 hE fun _ => s_has2 hE hC hp (fun a b => ⟨fun d => absurd d (by decide), fun _ _ => s_isCell hE hc (fun a2 b2 => ⟨fun d => absurd d (by decide), fun _ _ => s_isWithin hE hn (by decide) (by decide) (fun a3 b3 => ⟨fun d => absurd d (by decide), fun _ _ => s_isYesNo hE hw (fun a4 => ⟨fun _ _ _ _ => ?_, fun d => absurd d (by decide)⟩) (fun a4 => ⟨fun d => absurd rfl d, fun _ => ?_⟩)⟩) (fun a3 => ⟨fun _ => ?_, fun d => absurd rfl d⟩)⟩) (fun a2 => ⟨fun _ => ?_, fun d => absurd rfl d⟩)⟩) (fun a => ⟨fun _ => ?_, fun d => absurd rfl d⟩))
    · rw [if_pos ⟨⟨a, b⟩, ⟨a2, b2⟩, ⟨a3, b3⟩, a4⟩] at hQ
      refine eX5_findWays (k := 1197) hp hc hn (rX5_findWays_0 hE isYd2 (eX5_listOpenWalls (rX5_listOpenWalls_0 hE isYd2 (s_lst hE hF.2.1 32 mem 0 0 (fun _ => 0) (by decide) (by decide) (by decide) (by decide) (fun _ _ _ => rfl) (fun j u v => absurd v (by omega)) fun m2 z1 => ⟨fun x z2 z3 => ?_, fun z2 => ?_⟩))))
      · rw [rWy_some z2] at hQ
        have ok := wFn_ok 32 0 0 (fun _ => 0) x (by decide) (by decide) (by decide) (by decide) (fun j u v => absurd v (by omega)) z2
        have hq : rEq mem m2 := fun o i u => z1 o i fun q => u (by unfold scr; omega)
        refine ⟨fun _ => ?_, fun d => absurd d (by omega)⟩
        have ec : x.1 = (x.1.toNat : Int) := by omega
        rw [ec]
        rw [ec] at hQ
        simp only [Int.toNat_natCast] at hQ
        refine s_wout hE (m0 := m2) (L := L) (r := mem 605) (W := x.2) (cnt := x.1.toNat) (by omega) (fun j u v => ok.2.2 j u (by omega)) a (by omega) hc a3 b3 (rEk_yR (rEq_k hq) (Or.inl rfl) hF.2.1) (yL2_rEk (jC_29 hC) hy (rEq_k hq)).1 (yL2_rEk (jC_29 hC) hy (rEq_k hq)).2 hF.1 (fun b m3 e1 e2 => ?_) (xShl 1 (x.1.toNat : Int)).toNat m2 0 0 (100000000, 0) rEq_rf (by decide) (by have := shl_cnt (c := x.1) ok.1 ok.2.1; rw [← ec]; omega) rfl (fun j u v => z3 j u (by omega)) (Or.inl ⟨rfl, rfl⟩)
        have hQ := hQ m3 (rEq_tr hq e2)
        rw [← e1] at hQ
        refine ⟨fun u => ?_, fun u v1 v2 => ?_⟩
        · rw [if_pos u] at hQ
          exact ⟨fun d => absurd rfl d, fun _ => hQ⟩
        · rw [if_neg u] at hQ
          refine ⟨fun _ => ⟨fun d => ?_, fun d => ?_⟩, fun d => absurd d (by decide)⟩
          · rw [if_neg d] at hQ; rw [v2]; exact hQ
          · rw [if_pos d] at hQ; rw [v1]; exact hQ
      · rw [rWy_none z2] at hQ
        have hQ := hQ m2 fun o i u => z1 o i fun q => u (by unfold scr; omega)
        exact ⟨fun d => absurd rfl d, fun _ => ⟨fun d => absurd rfl d, fun _ => hQ⟩⟩
    · rw [if_neg (fun q => a4 q.2.2.2)] at hQ; exact hQ mem rEq_rf
    · rw [if_neg (by omega)] at hQ; exact hQ mem rEq_rf
    · rw [if_neg (by omega)] at hQ; exact hQ mem rEq_rf
    · rw [if_neg (by omega)] at hQ; exact hQ mem rEq_rf
  · obtain ⟨hC2, e, hL, h20, hth⟩ := thr_all hm q1 hC1
    have no : ¬ ((0 ≤ p ∧ p < mem 605 7) ∧ (0 ≤ c ∧ c < 32) ∧ (0 ≤ n ∧ n ≤ 30) ∧ (w = 0 ∨ w = 1)) → VM E mX12_ways 1199 (aUp m1 603 0 0) 43 [] [] (retL Q) := by
      intro z
      rw [if_neg z] at hQ
      exact rX12_ways_43 (k := 1198) (p0 := 0) (p1 := 0) (p2 := 0) (p3 := 0) hE (hQ _ hth)
    refine eX12_ways (k := 1198) hp hc hn hw (rX12_ways_0 hE fun _ => m_isP2 (k := 1197) hE hC2 hp (fun a b => ⟨fun d => absurd d (by decide), fun _ _ => m_isCell (k := 1197) hE hc (fun a2 b2 => ⟨fun d => absurd d (by decide), fun _ r => s_in hE r (by decide) (by decide) (fun a3 b3 => ⟨fun d => absurd d (by decide), fun _ r4 => s_in hE r4 (by decide) (by decide) (fun a4 b4 => ⟨fun _ => ?_, fun d => absurd d (by decide)⟩) (fun a4 => ⟨fun d => absurd rfl d, fun _ => no (by omega)⟩)⟩) (fun a3 => ⟨fun _ => no (by omega), fun d => absurd rfl d⟩)⟩) (fun a2 => ⟨fun _ => no (by omega), fun d => absurd rfl d⟩)⟩) (fun a => ⟨fun _ => no (by rw [e] at a; omega), fun d => absurd rfl d⟩))
    rw [e] at b
    rw [if_pos ⟨⟨a, b⟩, ⟨a2, b2⟩, ⟨a3, b3⟩, by omega⟩] at hQ
    refine m_lst hE (m0 := aUp m1 603 0 0) (r := mem 605) e 32 _ 0 0 (fun _ => 0) (by decide) (by decide) (by decide) (by decide) (fun _ _ _ => rfl) (fun j u v => absurd v (by omega)) fun m2 z1 => ⟨fun x z2 z3 => ?_, fun z2 => ?_⟩
    · rw [rWy_some z2] at hQ
      have ok := wFn_ok 32 0 0 (fun _ => 0) x (by decide) (by decide) (by decide) (by decide) (fun j u v => absurd v (by omega)) z2
      have hq : rEq (aUp m1 603 0 0) m2 := fun o i u => z1 o i fun q => u (by unfold scr; omega)
      have e2 : m2 605 = mem 605 := (rEq_605 hq).trans e
      have ec : x.1 = (x.1.toNat : Int) := by omega
      rw [ec]
      rw [ec] at hQ
      simp only [Int.toNat_natCast] at hQ
      exact m_wout hE (m0 := m2) (L := L) (r := mem 605) (W := x.2) (cnt := x.1.toNat) (by omega) (fun j u v => ok.2.2 j u (by omega)) a (by omega) hc a3 b3 e2 (mL_eq (rEq_605 hq) hL) ((rEk_sm (rEq_k hq) (by omega)).trans h20) hF.1 (fun b m3 e1 e2 => by rw [e1]; exact hQ m3 (rEq_tr hth (rEq_tr hq e2))) (xShl 1 (x.1.toNat : Int)).toNat m2 0 (100000000, 0) rEq_rf (by decide) (by have := shl_cnt (c := x.1) ok.1 ok.2.1; rw [← ec]; omega) rfl (fun j u v => z3 j u (by omega))
    · rw [rWy_none z2] at hQ
      exact hQ m2 (rEq_tr hth fun o i u => z1 o i fun q => u (by unfold scr; omega))
