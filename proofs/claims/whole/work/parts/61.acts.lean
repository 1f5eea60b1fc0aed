-- the four acts, one side at a time: code, row, what can be undone
abbrev AT : Type := Int × Rw × PS
def aBury (L : LW) (r : Rw) (P : PS) (f c sm : Int) : AT := if ¬ ((0 ≤ f ∧ f < 6) ∧ 0 ≤ c ∧ c < 32) then (-1, r, P) else if rLi L r f c = false then (-3, r, P) else if 10 ≤ r 7 then (-5, r, P) else (r 7, rAd r f c sm, psh P r 0)
def aBuy (r : Rw) (P : PS) (c : Int) : AT := if ¬ (0 ≤ c ∧ c < 32) then (-1, r, P) else if ¬ (r (80 + c) = 1 ∧ ¬ r (48 + c) = 1) then (-3, r, P) else (r (112 + c), rUp r (48 + c) 1, psh P r 1)
def rRm (r : Rw) (p : Int) : Rw := fun i => if i = 7 then r 7 - 1 else if (8 + p ≤ i ∧ i < 7 + r 7) ∨ (18 + p ≤ i ∧ i < 17 + r 7) ∨ (28 + p ≤ i ∧ i < 27 + r 7) ∨ (38 + p ≤ i ∧ i < 37 + r 7) then r (i + 1) else r i
def aRaise (r : Rw) (P : PS) (p : Int) : AT := if ¬ (0 ≤ p ∧ p < r 7) then (-2, r, P) else (r (8 + p), rRm r p, psh P r 2)
def aPass (L : LW) (r : Rw) (P : PS) : AT := if 999 ≤ r 3 then (-3, r, P) else ((rTn L r).2.1, (rTn L r).1, psh P r 3)
theorem rRm_ok {Y : Int} {r : Rw} {p : Int} (h : rOk Y r) (h0 : 0 ≤ p) (h1 : p < r 7) : rOk Y (rRm r p) := by
  obtain ⟨a1, a2, a3, a4, a5, a6, a7, a8, a9, a10, a11, a12, a13⟩ := h
  have g : ∀ i, i ≠ 7 → i < 8 ∨ 48 ≤ i → rRm r p i = r i := fun i u v => by
    unfold rRm
    rw [if_neg u, if_neg (by omega)]
  have g7 : rRm r p 7 = r 7 - 1 := by unfold rRm; rw [if_pos rfl]
  have gk : ∀ b q, b = 8 ∨ b = 18 ∨ b = 28 ∨ b = 38 → 0 ≤ q → q < 10 → rRm r p (b + q) = if p ≤ q ∧ q < r 7 - 1 then r (b + (q + 1)) else r (b + q) := fun b q hb u v => by
    unfold rRm
    rw [if_neg (by omega)]
    by_cases z : p ≤ q ∧ q < r 7 - 1
    · rw [if_pos z, if_pos (by omega)]
      congr 1
      omega
    · rw [if_neg z, if_neg (by omega)]
  refine ⟨by rw [g7]; omega, by rw [g7]; omega, fun q u v => ?_, fun q u v => ?_, by rw [g 3 (by omega) (by omega)]; exact a5, by rw [g 3 (by omega) (by omega)]; exact a6, by rw [g 4 (by omega) (by omega)]; exact a7, by rw [g 4 (by omega) (by omega)]; exact a8, by rw [g 5 (by omega) (by omega)]; exact a9, by rw [g 5 (by omega) (by omega)]; exact a10, by rw [g 6 (by omega) (by omega)]; exact a11, by rw [g 6 (by omega) (by omega)]; exact a12, fun q s b1 b2 b3 b4 b5 => ?_⟩
  · rw [gk 8 q (by omega) u v, gk 18 q (by omega) u v, gk 28 q (by omega) u v, gk 38 q (by omega) u v]
    by_cases z : p ≤ q ∧ q < r 7 - 1
    · rw [if_pos z, if_pos z, if_pos z, if_pos z]; exact a3 (q + 1) (by omega) (by omega)
    · rw [if_neg z, if_neg z, if_neg z, if_neg z]; exact a3 q u v
  · rw [g (80 + q) (by omega) (by omega), g (112 + q) (by omega) (by omega), g (48 + q) (by omega) (by omega)]
    exact a4 q u v
  · rw [g7] at b2 b4
    rw [gk 8 q (by omega) b1 (by omega), gk 8 s (by omega) b3 (by omega)] at b5
    by_cases z : p ≤ q ∧ q < r 7 - 1
    · rw [if_pos z] at b5
      by_cases z2 : p ≤ s ∧ s < r 7 - 1
      · rw [if_pos z2] at b5
        have := a13 (q + 1) (s + 1) (by omega) (by omega) (by omega) (by omega) b5
        omega
      · rw [if_neg z2] at b5
        have := a13 (q + 1) s (by omega) (by omega) b3 (by omega) b5
        omega
    · rw [if_neg z] at b5
      by_cases z2 : p ≤ s ∧ s < r 7 - 1
      · rw [if_pos z2] at b5
        have := a13 q (s + 1) b1 (by omega) (by omega) (by omega) b5
        omega
      · rw [if_neg z2] at b5
        exact a13 q s b1 (by omega) b3 (by omega) b5
def aFr (m m2 : Mm) : Prop := ∀ o i, ¬ (2 ≤ o ∧ o ≤ 174) → ¬ isTx (o - 8) → ¬ (o = 1 ∧ (i = 6 ∨ i = 7)) → m2 o i = m o i
theorem aFr_rf {m : Mm} : aFr m m := fun _ _ _ _ _ => rfl
theorem aFr_tr {m m2 m3 : Mm} (h : aFr m m2) (h2 : aFr m2 m3) : aFr m m3 := fun o i a b c => (h2 o i a b c).trans (h o i a b c)
def cV (m : Mm) (r : Rw) (P : PS) (L : LW) : Prop := yR m 2 r ∧ pC m P ∧ yL m 2 L
theorem yL_a {m m2 : Mm} {L : LW} (h : aFr m m2) (h9 : m2 2 9 = m 2 9) (hL : yL m 2 L) : yL m2 2 L := by
  unfold yL
  rw [h9]
  rcases hL with q | ⟨q, D, q2, q3⟩
  · exact Or.inl q
  · exact Or.inr ⟨q, D, TxS_fr (fun o i u v => h o i (by have := tx_lt q; omega) (tx_stk q u v) (by have := tx_lt q; omega)) q2, q3⟩
theorem pC_fr {m m2 : Mm} {P : PS} (h16 : P.1 ≤ 16) (h : ∀ o i, 12 ≤ o → o ≤ 174 → m2 o i = m o i) (hP : pC m P) : pC m2 P := by
  obtain ⟨a1, a2, a3, a4⟩ := hP
  have e13 : ∀ k, m2 13 k = m 13 k := fun k => h 13 k (by omega) (by omega)
  refine ⟨(h 12 2 (by omega) (by omega)).trans a1, fun k u v => by rw [e13]; exact a2 k u v, fun j k u v w x y => by rw [e13, e13] at y; exact a3 j k u v w x y, fun k u v => ?_⟩
  have hy := a2 k u (by omega)
  unfold isPy at hy
  rw [e13, h 14 k (by omega) (by omega)]
  exact ⟨yR_fr (a4 k u v).1 (h _ _ (by omega) (by omega)) (fun o i c d => h o i (by omega) (by omega)), (a4 k u v).2⟩
theorem psh_16 {P : PS} {r : Rw} {a : Int} (h : P.1 ≤ 16) : (psh P r a).1 ≤ 16 := by
  unfold psh
  split
  · dsimp only; omega
  · exact Int.le_refl 16
/-- the class buries -/
theorem s_layDown {E : EN} (hE : Ep E) {k : Nat} {mem : Mm} {Q : Int → Mm → Prop} {L : LW} {r : Rw} {P : PS} {f c sm : Int} (hV : cV mem r P L) (hok : rOk 999 r) (hP : pOk P) (hf : R32 f) (hc : R32 c) (hs : R32 sm) (hQ : ∀ m2 : Mm, aFr mem m2 → m2 2 9 = mem 2 9 → (∀ i, m2 1 i = mem 1 i) → cV m2 (aBury L r P f c sm).2.1 (aBury L r P f c sm).2.2 L → Q (aBury L r P f c sm).1 m2) : CI E mX8_layDown (k + 5) mem [aR 1, aI f, aI c, aI sm] Q := by
  obtain ⟨v1, v2, v3⟩ := hV
  unfold aBury at hQ
  have no : ¬ ((0 ≤ f ∧ f < 6) ∧ 0 ≤ c ∧ c < 32) → Q (-1) mem := fun z => by
    rw [if_pos z] at hQ
    exact hQ mem aFr_rf rfl (fun _ => rfl) ⟨v1, v2, v3⟩
  refine eX8_layDown hf hc hs (rX8_layDown_0 hE fun _ => s_isFamily hE hf (fun a b => ⟨fun d => absurd d (by decide), fun _ _ => s_isCell hE hc (fun a2 b2 => ⟨fun _ _ _ => ?_, fun d => absurd d (by decide)⟩) (fun a2 => ⟨fun d => absurd rfl d, fun _ => no (by omega)⟩)⟩) (fun a => ⟨fun _ => no (by omega), fun d => absurd rfl d⟩))
  rw [if_neg (fun z => z ⟨⟨a, b⟩, a2, b2⟩)] at hQ
  refine s_yLi (k := k) hE isYd2 v1 v3 (by decide) hok a b a2 b2 fun m2 q => ?_
  have qa : aFr mem m2 := fun o i u w _ => q o i (by omega) w
  have q9 : m2 2 9 = mem 2 9 := q 2 9 (by decide) (by unfold isTx; omega)
  have q1 : ∀ i, m2 1 i = mem 1 i := fun i => q 1 i (by decide) (by unfold isTx; omega)
  have w1 : yR m2 2 r := yR_q isYd2 v1 q
  have w2 : pC m2 P := pC_fr hP.2.1 (fun o i u w => q o i (by omega) (by unfold isTx; omega)) v2
  have w3 : yL m2 2 L := yL_a qa q9 v3
  cases hl : rLi L r f c with
  | false =>
    rw [hl, if_pos rfl] at hQ
    exact ⟨fun d => absurd rfl d, fun _ => hQ m2 qa q9 q1 ⟨w1, w2, w3⟩⟩
  | true =>
    rw [hl, if_neg (by decide)] at hQ
    refine ⟨fun _ => ⟨fun d => ?_, fun d => ?_⟩, fun d => absurd d (by decide)⟩
    · rw [w1.1] at d
      rw [if_neg (by omega)] at hQ
      refine s_keep (k := k + 2) hE w1 w2 hP.1 hP.2.1 (by decide) fun m3 e1 e2 _ _ _ => ?_
      have x1 : yR m3 2 r := yR_fr w1 (e1 _ _ (by omega)) fun o i u v => e1 o i (by omega)
      refine s_yAd hE isYd2 x1 hok d hf hc hs fun m4 g1 g2 => ?_
      have e10 : m4 2 10 = r 7 + 1 := by rw [g2.1, rAd_at, if_pos rfl]
      rw [e10, show r 7 + 1 - 1 = r 7 by omega]
      have h0 := hok.1
      have qa4 : aFr mem m4 := fun o i u v w => ((g1 o i (by omega) (by omega)).trans (e1 o i (by omega))).trans (qa o i u v w)
      have q94 : m4 2 9 = mem 2 9 := ((g1 2 9 (by omega) (by omega)).trans (e1 2 9 (by omega))).trans q9
      exact ⟨⟨by omega, by omega⟩, hQ m4 qa4 q94 (fun i => ((g1 1 i (by omega) (by omega)).trans (e1 1 i (by omega))).trans (q1 i)) ⟨g2, pC_fr (psh_16 hP.2.1) (fun o i u v => g1 o i (by omega) (by omega)) e2, yL_a qa4 q94 v3⟩⟩
    · rw [w1.1] at d
      rw [if_pos d] at hQ
      exact hQ m2 qa q9 q1 ⟨w1, w2, w3⟩
theorem s_purchase {E : EN} (hE : Ep E) {k : Nat} {mem : Mm} {Q : Int → Mm → Prop} {L : LW} {r : Rw} {P : PS} {c : Int} (hV : cV mem r P L) (hP : pOk P) (hc : R32 c) (hQ : ∀ m2 : Mm, aFr mem m2 → m2 2 9 = mem 2 9 → (∀ i, m2 1 i = mem 1 i) → cV m2 (aBuy r P c).2.1 (aBuy r P c).2.2 L → Q (aBuy r P c).1 m2) : CI E mX8_purchase (k + 3) mem [aR 1, aI c] Q := by
  obtain ⟨v1, v2, v3⟩ := hV
  unfold aBuy at hQ
  refine eX8_purchase hc (rX8_purchase_0 hE fun _ => s_isCell hE hc (fun a b => ⟨fun _ => ⟨⟨a, b⟩, ?_⟩, fun d => absurd d (by decide)⟩) (fun a => ⟨fun d => absurd rfl d, fun _ => ?_⟩))
  · obtain ⟨g1, g2, g3⟩ := v1.2.1 c a b
    rw [show (2 : Int) + 1 = 3 from rfl] at g1
    rw [show (2 : Int) + 2 = 4 from rfl] at g2
    rw [show (2 : Int) + 3 = 5 from rfl] at g3
    rw [if_neg (fun z => z ⟨a, b⟩)] at hQ
    rw [g1, g3]
    have no : ¬ (r (80 + c) = 1 ∧ ¬ r (48 + c) = 1) → Q (-3) mem := fun z => by
      rw [if_pos z] at hQ
      exact hQ mem aFr_rf rfl (fun _ => rfl) ⟨v1, v2, v3⟩
    refine ⟨fun d => no fun z => d z.1, fun d => ⟨fun e => ?_, fun e => no fun z => z.2 e⟩⟩
    rw [if_neg (fun z => z ⟨d, e⟩)] at hQ
    refine s_keep (k := k) hE v1 v2 hP.1 hP.2.1 (by decide) fun m3 e1 e2 => ?_
    have x1 : yR m3 2 r := yR_fr v1 (e1 _ _ (by omega)) fun o i u v => e1 o i (by omega)
    have ep : m3 4 c = r (112 + c) := (e1 4 c (by omega)).trans g2
    rw [ep]
    have qa : aFr mem (aUp m3 5 c 1) := fun o i u v w => (aUp_rn (by omega)).trans (e1 o i (by omega))
    have q9 : (aUp m3 5 c 1) 2 9 = mem 2 9 := (aUp_rn (by decide)).trans (e1 2 9 (by omega))
    exact hQ _ qa q9 (fun i => (aUp_rn (by decide)).trans (e1 1 i (by omega))) ⟨yR_bought x1 a b, pC_fr (psh_16 hP.2.1) (fun o i u v => aUp_rn (by omega)) e2, yL_a qa q9 v3⟩
  · rw [if_pos (by omega)] at hQ
    exact hQ mem aFr_rf rfl (fun _ => rfl) ⟨v1, v2, v3⟩
theorem s_remove {E : EN} (hE : Ep E) {k : Nat} {mem : Mm} {Q : Mm → Prop} {r : Rw} {p : Int} (hR : yR mem 2 r) (h10 : r 7 ≤ 10) (h0 : 0 ≤ p) (h1 : p < r 7) (hQ : ∀ m2 : Mm, (∀ o i, ¬ (6 ≤ o ∧ o ≤ 9) → ¬ (o = 2 ∧ i = 10) → m2 o i = mem o i) → yR m2 2 (rRm r p) → Q m2) : CV E mX10_remove k mem [aR 2, aI p] Q := by
  obtain ⟨a, b, c, d⟩ := hR
  have fin : ∀ m2 : Mm, (∀ o i, ¬ (6 ≤ o ∧ o ≤ 9) → m2 o i = mem o i) → (∀ i, 0 ≤ i → i < 10 → m2 6 i = rRm r p (8 + i) ∧ m2 7 i = rRm r p (18 + i) ∧ m2 8 i = rRm r p (28 + i) ∧ m2 9 i = rRm r p (38 + i)) → (R32 ((m2 2 10) - 1)) ∧ Q (aUp m2 2 10 ((m2 2 10) - 1)) := by
    intro m2 e1 e2
    have e10 : m2 2 10 = r 7 := (e1 2 10 (by omega)).trans a
    have go : ∀ i, i ≠ 7 → i < 8 ∨ 48 ≤ i → rRm r p i = r i := fun i u v => by unfold rRm; rw [if_neg u, if_neg (by omega)]
    rw [e10]
    refine ⟨⟨by omega, by omega⟩, hQ _ (fun o i u v => by rw [aUp_at, if_neg v]; exact e1 o i u) ⟨?_, fun i u v => ?_, fun i u v => ?_, fun i u v => ?_⟩⟩
    · rw [aUp_re]; unfold rRm; rw [if_pos rfl]
    · rw [aUp_rn (by decide), aUp_rn (by decide), aUp_rn (by decide), e1 _ _ (by omega), e1 _ _ (by omega), e1 _ _ (by omega), go (80 + i) (by omega) (by omega), go (112 + i) (by omega) (by omega), go (48 + i) (by omega) (by omega)]
      exact b i u v
    · rw [aUp_rn (by decide), aUp_rn (by decide), aUp_rn (by decide), aUp_rn (by decide)]
      exact e2 i u v
    · rw [aUp_rn (by decide), e1 _ _ (by omega), go (3 + i) (by omega) (by omega)]
      exact d i u v
  have gk : ∀ b q, b = 8 ∨ b = 18 ∨ b = 28 ∨ b = 38 → 0 ≤ q → q < 10 → rRm r p (b + q) = if p ≤ q ∧ q < r 7 - 1 then r (b + (q + 1)) else r (b + q) := fun b q hb u v => by
    unfold rRm
    rw [if_neg (by omega)]
    by_cases z : p ≤ q ∧ q < r 7 - 1
    · rw [if_pos z, if_pos (by omega)]
      congr 1
      omega
    · rw [if_neg z, if_neg (by omega)]
  have lp : ∀ (n : Nat) (m2 : Mm) (x : Int), p + 1 ≤ x → x + n = r 7 → (∀ o i, ¬ (6 ≤ o ∧ o ≤ 9) → m2 o i = mem o i) → (∀ i, 0 ≤ i → i < 10 → m2 6 i = (if p ≤ i ∧ i < x - 1 then r (8 + (i + 1)) else r (8 + i)) ∧ m2 7 i = (if p ≤ i ∧ i < x - 1 then r (18 + (i + 1)) else r (18 + i)) ∧ m2 8 i = (if p ≤ i ∧ i < x - 1 then r (28 + (i + 1)) else r (28 + i)) ∧ m2 9 i = (if p ≤ i ∧ i < x - 1 then r (38 + (i + 1)) else r (38 + i))) → VM E mX10_remove k m2 4 [(0, aR 2), (2, aI x)] [] (retV Q) := by
    intro n
    induction n with
    | zero =>
      intro m2 x x0 x1 e1 e2
      have e10 : m2 2 10 = r 7 := (e1 2 10 (by omega)).trans a
      obtain rfl : x = r 7 := by omega
      have f := fin m2 e1 fun i u v => by
        rw [gk 8 i (by omega) u v, gk 18 i (by omega) u v, gk 28 i (by omega) u v, gk 38 i (by omega) u v]
        exact e2 i u v
      exact rX10_remove_4 (p0 := 0) hE isYd2 ⟨fun q => absurd q (by omega), fun _ => ⟨fun _ => f, fun q => absurd q (by omega)⟩⟩
    | succ n ih =>
      intro m2 x x0 x1 e1 e2
      have e10 : m2 2 10 = r 7 := (e1 2 10 (by omega)).trans a
      obtain ⟨f1, f2, f3, f4⟩ := e2 x (by omega) (by omega)
      rw [if_neg (by omega)] at f1 f2 f3 f4
      refine rX10_remove_4 (p0 := 0) hE isYd2 ⟨fun q => absurd q (by omega), fun _ => ⟨fun q => absurd q (by omega), fun _ => ⟨fun q => absurd q (by omega), fun _ => ⟨⟨by omega, by omega⟩, ⟨by omega, by omega⟩, ⟨by omega, by omega⟩, ⟨by omega, by omega⟩, ih _ (x + 1) (by omega) (by omega) (fun o i u => ?_) (fun i u v => ?_)⟩⟩⟩⟩
      · rw [aUp_rn (by omega), aUp_rn (by omega), aUp_rn (by omega), aUp_rn (by omega)]; exact e1 o i u
      · rw [show (2 : Int) + 4 = 6 from rfl, show (2 : Int) + 5 = 7 from rfl, show (2 : Int) + 6 = 8 from rfl, show (2 : Int) + 7 = 9 from rfl, f1, f2, f3, f4]
        obtain ⟨g1, g2, g3, g4⟩ := e2 i u v
        have i1 : ∀ b : Int, i = x - 1 → b + (i + 1) = b + x := fun b q => by omega
        refine ⟨?_, ?_, ?_, ?_⟩
        · rw [aUp_rn (by decide), aUp_rn (by decide), aUp_rn (by decide), aUp_at]
          by_cases z : i = x - 1
          · rw [if_pos ⟨rfl, z⟩, if_pos (by omega), i1 8 z]
          · rw [if_neg (fun q => z q.2), g1]
            by_cases y : p ≤ i ∧ i < x - 1
            · rw [if_pos y, if_pos (by omega)]
            · rw [if_neg y, if_neg (by omega)]
        · rw [aUp_rn (by decide), aUp_rn (by decide), aUp_at, aUp_rn (by decide)]
          by_cases z : i = x - 1
          · rw [if_pos ⟨rfl, z⟩, if_pos (by omega), i1 18 z]
          · rw [if_neg (fun q => z q.2), g2]
            by_cases y : p ≤ i ∧ i < x - 1
            · rw [if_pos y, if_pos (by omega)]
            · rw [if_neg y, if_neg (by omega)]
        · rw [aUp_rn (by decide), aUp_at, aUp_rn (by decide), aUp_rn (by decide)]
          by_cases z : i = x - 1
          · rw [if_pos ⟨rfl, z⟩, if_pos (by omega), i1 28 z]
          · rw [if_neg (fun q => z q.2), g3]
            by_cases y : p ≤ i ∧ i < x - 1
            · rw [if_pos y, if_pos (by omega)]
            · rw [if_neg y, if_neg (by omega)]
        · rw [aUp_at, aUp_rn (by decide), aUp_rn (by decide), aUp_rn (by decide)]
          by_cases z : i = x - 1
          · rw [if_pos ⟨rfl, z⟩, if_pos (by omega), i1 38 z]
          · rw [if_neg (fun q => z q.2), g4]
            by_cases y : p ≤ i ∧ i < x - 1
            · rw [if_pos y, if_pos (by omega)]
            · rw [if_neg y, if_neg (by omega)]
  refine eX10_remove ⟨by omega, by omega⟩ (rX10_remove_0 hE isYd2 ⟨⟨by omega, by omega⟩, lp (r 7 - (p + 1)).toNat mem (p + 1) (by omega) (by omega) (fun _ _ _ => rfl) fun i u v => ?_⟩)
  rw [if_neg (by omega), if_neg (by omega), if_neg (by omega), if_neg (by omega)]
  exact c i u v
theorem s_takeUp {E : EN} (hE : Ep E) {k : Nat} {mem : Mm} {Q : Int → Mm → Prop} {L : LW} {r : Rw} {P : PS} {p : Int} (hV : cV mem r P L) (hok : rOk 999 r) (hP : pOk P) (hp : R32 p) (hQ : ∀ m2 : Mm, aFr mem m2 → m2 2 9 = mem 2 9 → (∀ i, m2 1 i = mem 1 i) → cV m2 (aRaise r P p).2.1 (aRaise r P p).2.2 L → Q (aRaise r P p).1 m2) : CI E mX8_takeUp (k + 3) mem [aR 1, aI p] Q := by
  obtain ⟨v1, v2, v3⟩ := hV
  have h7 := hok.2.1
  have e7 := v1.1
  unfold aRaise at hQ
  refine eX8_takeUp hp (rX8_takeUp_0 hE fun _ => s_hasPlot hE isYd2 hp (by omega) (fun a b => ⟨fun _ => ?_, fun d => absurd d (by decide)⟩) (fun a => ⟨fun d => absurd rfl d, fun _ => ?_⟩))
  · rw [e7] at b
    rw [if_neg (fun z => z ⟨a, b⟩)] at hQ
    refine s_keep (k := k) hE v1 v2 hP.1 hP.2.1 (by decide) fun m3 e1 e2 => ?_
    have x1 : yR m3 2 r := yR_fr v1 (e1 _ _ (by omega)) fun o i u v => e1 o i (by omega)
    have ep : m3 6 p = r (8 + p) := (x1.2.2.1 p a (by omega)).1
    rw [ep]
    refine ⟨⟨a, by omega⟩, fun _ => s_remove hE x1 h7 a b fun m4 g1 g2 => ?_⟩
    have qa : aFr mem m4 := fun o i u v w => (g1 o i (by omega) (by omega)).trans (e1 o i (by omega))
    have q9 : m4 2 9 = mem 2 9 := (g1 2 9 (by omega) (by omega)).trans (e1 2 9 (by omega))
    exact hQ m4 qa q9 (fun i => (g1 1 i (by omega) (by omega)).trans (e1 1 i (by omega))) ⟨g2, pC_fr (psh_16 hP.2.1) (fun o i u v => g1 o i (by omega) (by omega)) e2, yL_a qa q9 v3⟩
  · rw [e7] at a
    rw [if_pos (by omega)] at hQ
    exact hQ mem aFr_rf rfl (fun _ => rfl) ⟨v1, v2, v3⟩
theorem s_bringYear {E : EN} (hE : Ep E) {k : Nat} {mem : Mm} {Q : Int → Mm → Prop} {L : LW} {r : Rw} {P : PS} (hV : cV mem r P L) (hok : rOk 999 r) (hP : pOk P) (hQ : ∀ m2 : Mm, aFr mem m2 → m2 2 9 = mem 2 9 → (∀ i, i ≠ 6 → i ≠ 7 → m2 1 i = mem 1 i) → cV m2 (aPass L r P).2.1 (aPass L r P).2.2 L → m2 1 6 = (if 999 ≤ r 3 then mem 1 6 else (rTn L r).2.2) → m2 1 7 = (if 999 ≤ r 3 then mem 1 7 else (rTn L r).2.1) → Q (aPass L r P).1 m2) : CI E mX8_bringYear (k + 5) mem [aR 1] Q := by
  obtain ⟨v1, v2, v3⟩ := hV
  have e3 : mem 10 0 = r 3 := v1.2.2.2 0 (by decide) (by decide)
  unfold aPass at hQ
  refine eX8_bringYear (rX8_bringYear_0 hE ⟨fun c => ?_, fun c => ?_⟩)
  · rw [e3] at c
    rw [if_neg (by omega), if_neg (by omega), if_neg (by omega)] at hQ
    refine s_keep (k := k + 2) hE v1 v2 hP.1 hP.2.1 (by decide) fun m3 e1 e2 => ?_
    have x1 : yR m3 2 r := yR_fr v1 (e1 _ _ (by omega)) fun o i u v => e1 o i (by omega)
    have x9 : m3 2 9 = mem 2 9 := e1 2 9 (by omega)
    have x3 : yL m3 2 L := yL_a (fun o i u _ _ => e1 o i (by omega)) x9 v3
    refine s_turn (k := k) hE isYd2 x1 x3 (by decide) hok fun m4 g1 g2 g3 => ?_
    rw [g3.2.1, g3.2.2]
    have qa : aFr mem (aUp (aUp m4 1 6 (rTn L r).2.2) 1 7 (rTn L r).2.1) := fun o i u v w => by
      rw [aUp_at, if_neg (by omega), aUp_at, if_neg (by omega)]
      exact (g1 o i (by omega) v).trans (e1 o i (by omega))
    have q9 : (aUp (aUp m4 1 6 (rTn L r).2.2) 1 7 (rTn L r).2.1) 2 9 = mem 2 9 := by
      rw [aUp_rn (by decide), aUp_rn (by decide)]
      exact g2.trans x9
    refine hQ _ qa q9 (fun i u v => ?_) ⟨yR_fr g3.1 (by rw [aUp_rn (by decide), aUp_rn (by decide)]) (fun o i u v => by rw [aUp_rn (by omega), aUp_rn (by omega)]), pC_fr (psh_16 hP.2.1) (fun o i u v => ?_) e2, yL_a qa q9 v3⟩ ((aUp_ri (by decide)).trans aUp_re) aUp_re
    · rw [aUp_ri v, aUp_ri u]
      exact (g1 1 i (by omega) (by unfold isTx; omega)).trans (e1 1 i (by omega))
    · rw [aUp_rn (by omega), aUp_rn (by omega)]
      exact g1 o i (by omega) (by unfold isTx; omega)
  · rw [e3] at c
    rw [if_pos c, if_pos c, if_pos c] at hQ
    exact hQ mem aFr_rf rfl (fun _ _ _ => rfl) ⟨v1, v2, v3⟩ rfl rfl
