-- a yard's year, and what it is asked besides, on the class's side
theorem s_yIn {E : EN} (hE : Ep E) {k : Nat} {mem : Mm} {Q : Int → Mm → Prop} {y c : Int} {r : Rw} (hy : isYd y) (hR : yR mem y r) (h10 : r 7 ≤ 10) (hc : R32 c) (hQ : ∀ x, (x = -1 ∧ rOc r c = false) ∨ (0 ≤ x ∧ x < r 7 ∧ rOc r c = true) → Q x mem) : CI E mX10_plotIn k mem [aR y, aI c] Q := by
  refine s_plotIn hE hy hc (by rw [hR.1]; exact h10) fun x hx => hQ x ?_
  have := isPl_oc hR.1 (fun p a b => (hR.2.2.1 p a (by rw [hR.1] at b; omega)).1) hx
  rw [hR.1] at this
  exact this
theorem s_yFr {E : EN} (hE : Ep E) {k : Nat} {mem : Mm} {Q : Int → Mm → Prop} {y c : Int} {r : Rw} (hy : isYd y) (hR : yR mem y r) (h10 : r 7 ≤ 10) (hc : 0 ≤ c) (hc2 : c < 32) (hQ : Q (if rFr r c then 1 else 0) mem) : CI E mX10_isFreeGrass (k + 1) mem [aR y, aI c] Q := by
  have hr : R32 c := ⟨by omega, by omega⟩
  obtain ⟨g1, -, -⟩ := hR.2.1 c hc hc2
  unfold rFr at hQ
  refine eX10_isFreeGrass hr (rX10_isFreeGrass_0 hE hy ⟨⟨hc, hc2⟩, fun a => ?_, fun a _ => s_yIn hE hy hR h10 hr fun x hx => ⟨fun b => ?_, fun b => ?_⟩⟩)
  · rw [g1] at a
    simp [a] at hQ
    exact hQ
  · rw [g1] at a
    rcases hx with ⟨h1, h2⟩ | ⟨h1, h2, h3⟩
    · exact absurd h1 b
    · simp [h3] at hQ
      exact hQ
  · rw [g1] at a
    rcases hx with ⟨h1, h2⟩ | ⟨h1, h2, h3⟩
    · simp [a, h2] at hQ
      exact hQ
    · omega
theorem s_yLi {E : EN} (hE : Ep E) {k : Nat} {mem : Mm} {Q : Int → Mm → Prop} {y f c Y : Int} {r : Rw} {L : LW} (hy : isYd y) (hR : yR mem y r) (hL : yL mem y L) (hY : Y ≤ 5000) (hok : rOk Y r) (hf : 0 ≤ f) (hf2 : f < 6) (hc : 0 ≤ c) (hc2 : c < 32) (hQ : ∀ m2 : Mm, qFr y mem m2 → Q (if rLi L r f c then 1 else 0) m2) : CI E mX10_isOpenTo (k + 4) mem [aR y, aI f, aI c] Q := by
  have hr : R32 c := ⟨by omega, by omega⟩
  unfold rLi at hQ
  refine eX10_isOpenTo ⟨by omega, by omega⟩ hr (rX10_isOpenTo_0 hE hy fun _ => s_yFr hE hy hR hok.2.1 hc hc2 ⟨fun a => ?_, fun a _ _ => s_yBr hE hy hR hL hY hok hf hf2 hc hc2 fun m2 q => ?_⟩)
  · have h := hQ mem qFr_rf
    cases z : rFr r c with
    | false => rw [z] at h; exact h
    | true => rw [z] at a; exact absurd a (by decide)
  · have h := hQ m2 q
    cases z : rFr r c with
    | false => rw [z] at a; exact absurd rfl a
    | true =>
      rw [z] at h
      cases z2 : rBr L r f c with
      | false => rw [z2] at h; exact ⟨fun b => absurd rfl b, fun _ => h⟩
      | true => rw [z2] at h; exact ⟨fun _ => h, fun b => absurd b (by decide)⟩
theorem rMv_le {L : LW} {r : Rw} {p : Int} : 0 ≤ rMv L r p ∧ rMv L r p ≤ 9 := by
  unfold rMv
  split <;> omega
theorem rDg_le {L : LW} {r : Rw} {p : Int} : 1 ≤ rDg L r p ∧ rDg L r p ≤ 99 := by
  unfold rDg
  split
  · split <;> omega
  · omega
theorem rWk_mv {L : LW} {p : Int} : ∀ (n : Nat) (s : R3), s.2.1 ≤ (rWk L p n s).2.1 ∧ (rWk L p n s).2.1 ≤ s.2.1 + n ∧ s.2.2 ≤ (rWk L p n s).2.2 ∧ (rWk L p n s).2.2 ≤ s.2.2 + 1 := by
  intro n
  induction n with
  | zero => intro s; unfold rWk; omega
  | succ n ih =>
    intro s
    unfold rWk
    split
    · dsimp only; omega
    · have := ih (rUp s.1 (8 + p) ((s.1 (8 + p) + 1).tmod 32), s.2.1 + 1, s.2.2)
      dsimp only at this
      omega
theorem rPs_mv {L : LW} : ∀ (n : Nat) (p : Int) (s : R3), s.2.1 ≤ (rPs L n p s).2.1 ∧ (rPs L n p s).2.1 ≤ s.2.1 + 9 * n ∧ s.2.2 ≤ (rPs L n p s).2.2 ∧ (rPs L n p s).2.2 ≤ s.2.2 + n := by
  intro n
  induction n with
  | zero => intro p s; unfold rPs; omega
  | succ n ih =>
    intro p s
    have a := ih (p + 1) (rWk L p (rMv L s.1 p).toNat s)
    have b := rWk_mv (L := L) (p := p) (rMv L s.1 p).toNat s
    have c := rMv_le (L := L) (r := s.1) (p := p)
    have e : rPs L (n + 1) p s = rPs L n (p + 1) (rWk L p (rMv L s.1 p).toNat s) := rfl
    rw [e]
    omega
theorem rTn_mv {L : LW} {r : Rw} (h : r 7 ≤ 10) : 0 ≤ (rTn L r).2.1 ∧ (rTn L r).2.1 ≤ 90 ∧ 0 ≤ (rTn L r).2.2 ∧ (rTn L r).2.2 ≤ 10 := by
  have a := rPs_mv (L := L) (r 7).toNat 0 (r, 0, 0)
  show 0 ≤ (rPs L (r 7).toNat 0 (r, 0, 0)).2.1 ∧ (rPs L (r 7).toNat 0 (r, 0, 0)).2.1 ≤ 90 ∧ 0 ≤ (rPs L (r 7).toNat 0 (r, 0, 0)).2.2 ∧ (rPs L (r 7).toNat 0 (r, 0, 0)).2.2 ≤ 10
  dsimp only at a
  omega
/-- the yard y as row, moved and held have it -/
def yR3 (m : Mm) (y : Int) (s : R3) : Prop := yR m y s.1 ∧ m y 11 = s.2.1 ∧ m y 12 = s.2.2
theorem yR_cell {m : Mm} {y p v : Int} {r : Rw} (hR : yR m y r) (hp : 0 ≤ p) (hp2 : p < 10) : yR (aUp m (y + 4) p v) y (rUp r (8 + p) v) := by
  obtain ⟨a, b, c, d⟩ := hR
  refine ⟨by rw [aUp_rn (by omega), rUp_n (by omega)]; exact a, fun i u w => ?_, fun i u w => ?_, fun i u w => ?_⟩
  · rw [aUp_rn (by omega), aUp_rn (by omega), aUp_rn (by omega), rUp_n (by omega), rUp_n (by omega), rUp_n (by omega)]; exact b i u w
  · rw [aUp_rn (b := y + 5) (by omega), aUp_rn (b := y + 6) (by omega), aUp_rn (b := y + 7) (by omega), rUp_n (i := 18 + i) (by omega), rUp_n (i := 28 + i) (by omega), rUp_n (i := 38 + i) (by omega)]
    refine ⟨?_, (c i u w).2⟩
    by_cases e : i = p
    · rw [e, aUp_re, rUp_e]
    · rw [aUp_ri e, rUp_n (by omega)]; exact (c i u w).1
  · rw [aUp_rn (by omega), rUp_n (by omega)]; exact d i u w
theorem s_age_l {E : EN} (hE : Ep E) {k : Nat} {m0 : Mm} {Q : Mm → Prop} {y Y : Int} {r : Rw} (hy : isYd y) (hR : yR m0 y r) (hY : Y ≤ 5000) (hok : rOk Y r) (hQ : ∀ m2 : Mm, yFr y m0 m2 → yR m2 y (rAg r) → m2 y 9 = m0 y 9 → m2 y 11 = m0 y 11 → m2 y 12 = m0 y 12 → Q m2) : ∀ (n : Nat) (mem : Mm) (x : Int), 0 ≤ x → x + n = r 7 → (∀ o i, o ≠ y + 7 → mem o i = m0 o i) → (∀ i, 0 ≤ i → i < 10 → mem (y + 7) i = if i < x then min 999 (m0 (y + 7) i + 1) else m0 (y + 7) i) → VM E mX10_age (k + 1) mem 2 [(0, aR y), (1, aI x)] [] (retV Q) := by
  obtain ⟨a, b, c, d⟩ := hR
  obtain ⟨o1, o2, o3, o4, o5, o6, -⟩ := hok
  have d0 := d 0 (by omega) (by omega)
  intro n
  induction n with
  | zero =>
    intro mem x h0 h1 h2 h3
    have e10 : mem y 10 = r 7 := (h2 y 10 (by omega)).trans a
    have e8 : mem (y + 8) 0 = r 3 := (h2 _ _ (by omega)).trans d0
    refine rX10_age_2 hE hy ⟨fun _ => ⟨by rw [e8]; exact ⟨by omega, by omega⟩, hQ _ (fun o i u v => by rw [aUp_rn (by omega)]; exact h2 o i (by omega)) ⟨?_, fun i u v => ?_, fun i u v => ?_, fun i u v => ?_⟩ (by rw [aUp_rn (by omega)]; exact h2 _ _ (by omega)) (by rw [aUp_rn (by omega)]; exact h2 _ _ (by omega)) (by rw [aUp_rn (by omega)]; exact h2 _ _ (by omega))⟩, fun q => absurd q (by omega)⟩
    · rw [aUp_rn (by omega), e10]; unfold rAg; rw [if_neg (by omega), if_neg (by omega)]
    · rw [aUp_rn (by omega), aUp_rn (by omega), aUp_rn (by omega), h2 _ _ (by omega), h2 _ _ (by omega), h2 _ _ (by omega)]
      unfold rAg
      rw [if_neg (by omega), if_neg (by omega), if_neg (by omega), if_neg (by omega), if_neg (by omega), if_neg (by omega)]
      exact b i u v
    · rw [aUp_rn (by omega), aUp_rn (by omega), aUp_rn (by omega), aUp_rn (by omega), h2 _ _ (by omega), h2 _ _ (by omega), h2 _ _ (by omega), h3 i u v]
      obtain ⟨c1, c2, c3, c4⟩ := c i u v
      unfold rAg
      rw [if_neg (by omega), if_neg (by omega), if_neg (by omega), if_neg (by omega), if_neg (by omega), if_neg (by omega), c4]
      refine ⟨c1, c2, c3, ?_⟩
      by_cases q : i < x
      · rw [if_pos q, if_pos (by omega)]
      · rw [if_neg q, if_neg (by omega), if_neg (by omega)]
    · by_cases q : i = 0
      · subst q
        rw [aUp_re, e8]
        unfold rAg
        rw [if_neg (by omega), if_pos (by omega)]
      · rw [aUp_ri q, h2 _ _ (by omega), d i u v]
        unfold rAg
        rw [if_neg (by omega), if_neg (by omega)]
  | succ n ih =>
    intro mem x h0 h1 h2 h3
    have e10 : mem y 10 = r 7 := (h2 y 10 (by omega)).trans a
    have e7 : mem (y + 7) x = m0 (y + 7) x := by rw [h3 x (by omega) (by omega), if_neg (by omega)]
    have f7 := (c x (by omega) (by omega)).2.2.2
    have g7 := o3 x (by omega) (by omega)
    refine rX10_age_2 hE hy ⟨fun q => absurd q (by omega), fun _ => ⟨fun q => absurd q (by omega), fun _ => ⟨⟨by omega, by omega⟩, ⟨by omega, by omega⟩, ⟨by omega, by omega⟩, ih _ _ (by omega) (by omega) (fun o i u => (aUp_rn u).trans (h2 o i u)) fun i u v => ?_⟩⟩⟩
    by_cases q : i = x
    · subst q
      rw [aUp_re, e7, if_pos (by omega)]
    · rw [aUp_ri q, h3 i u v]
      by_cases q2 : i < x
      · rw [if_pos q2, if_pos (by omega)]
      · rw [if_neg q2, if_neg (by omega)]
theorem s_yAge {E : EN} (hE : Ep E) {k : Nat} {mem : Mm} {Q : Mm → Prop} {y Y : Int} {r : Rw} (hy : isYd y) (hR : yR mem y r) (hY : Y ≤ 5000) (hok : rOk Y r) (hQ : ∀ m2 : Mm, yFr y mem m2 → yR m2 y (rAg r) → m2 y 9 = mem y 9 → m2 y 11 = mem y 11 → m2 y 12 = mem y 12 → Q m2) : CV E mX10_age (k + 1) mem [aR y] Q :=
  eX10_age (rX10_age_0 hE hy (s_age_l hE hy hR hY hok hQ (r 7).toNat mem 0 (by omega) (by have := hok.1; omega) (fun _ _ _ => rfl) fun i a b => by rw [if_neg (by omega)]))
/-- the steps of one plot -/
theorem s_turn_w {E : EN} (hE : Ep E) {k : Nat} {m0 : Mm} {Q : Mm → Prop} {y p Y : Int} {L : LW} (hy : isYd y) (hL : yL m0 y L) (hY : Y ≤ 5000) (hp : 0 ≤ p) (hp2 : p < 10) : ∀ (n : Nat) (mem : Mm) (s : R3) (M x : Int), yFr y m0 mem → mem y 9 = m0 y 9 → yR3 mem y s → rOk Y s.1 → 0 ≤ s.2.1 → s.2.1 ≤ 1000 → 0 ≤ s.2.2 → s.2.2 ≤ 1000 → 0 ≤ x → M - x = n → M ≤ 9 → s.2.1 + n ≤ 1000 →
    (∀ m2 : Mm, yFr y m0 m2 → m2 y 9 = m0 y 9 → yR3 m2 y (rWk L p n s) → VM E mX10_turnYear (k + 4) m2 12 [(0, aR y), (1, aI (p + 1))] [] (retV Q)) → VM E mX10_turnYear (k + 4) mem 34 [(0, aR y), (1, aI p), (2, aI M), (3, aI x)] [] (retV Q) := by
  intro n
  induction n with
  | zero =>
    intro mem s M x q1 q2 q3 _ _ _ _ _ _ h _ _ hQ
    exact rX10_turnYear_34 hE hy ⟨fun _ => ⟨⟨by omega, by omega⟩, hQ mem q1 q2 q3⟩, fun c => absurd c (by omega)⟩
  | succ n ih =>
    intro mem s M x q1 q2 q3 q4 v0 v1 w0 w1 hx h hM hv hQ
    obtain ⟨hR, hmv, hhd⟩ := q3
    have ec := (hR.2.2.1 p hp hp2).1
    have hb := q4.2.2.1 p hp hp2
    obtain ⟨t0, t1, -⟩ := tmod32 hb.1 hb.2.1
    have hL2 : yL mem y L := yL_q hy hL q2 q1
    rw [show rWk L p (n + 1) s = (if rOc s.1 ((s.1 (8 + p) + 1).tmod 32) || !rGo L s.1 p ((s.1 (8 + p) + 1).tmod 32) then (s.1, s.2.1, s.2.2 + 1) else rWk L p n (rUp s.1 (8 + p) ((s.1 (8 + p) + 1).tmod 32), s.2.1 + 1, s.2.2)) from rfl] at hQ
    refine rX10_turnYear_34 hE hy ⟨fun c => absurd c (by omega), fun _ => ⟨⟨hp, hp2⟩, by rw [ec]; exact ⟨by omega, by omega⟩, fun hr => ?_⟩⟩
    rw [ec] at hr ⊢
    -- blocked
    have blk : ∀ m4 : Mm, qFr y mem m4 → (rOc s.1 ((s.1 (8 + p) + 1).tmod 32) || !rGo L s.1 p ((s.1 (8 + p) + 1).tmod 32)) = true → (R32 ((m4 y 12) + 1)) ∧ (R32 (p + 1)) ∧ VM E mX10_turnYear (k + 4) (aUp m4 y 12 ((m4 y 12) + 1)) 12 [(0, aR y), (1, aI (p + 1))] [] (retV Q) := by
      intro m4 z1 z2
      rw [if_pos z2] at hQ
      have e12 : m4 y 12 = s.2.2 := (z1 y 12 (by omega) (yd_stk hy (by omega) (by omega))).trans hhd
      have e11 : m4 y 11 = s.2.1 := (z1 y 11 (by omega) (yd_stk hy (by omega) (by omega))).trans hmv
      rw [e12]
      refine ⟨⟨by omega, by omega⟩, ⟨by omega, by omega⟩, hQ _ ?_ ?_ ⟨yR_fr (yR_q hy hR z1) (aUp_ri (by omega)) fun o i a b => aUp_rn (by omega), (aUp_ri (by omega)).trans e11, aUp_re⟩⟩
      · exact yFr_tr q1 (yFr_tr (qFr_y z1) fun o i a b => aUp_rn (by omega))
      · rw [aUp_ri (by omega), z1 y 9 (by omega) (yd_stk hy (by omega) (by omega))]; exact q2
    refine s_yIn hE hy hR q4.2.1 hr fun z hz => ⟨fun c => ?_, fun c _ _ => ?_⟩
    · rcases hz with ⟨a, b⟩ | ⟨a, b, d⟩
      · exact absurd a c
      · exact blk mem qFr_rf (by rw [d]; rfl)
    · rcases hz with ⟨-, b⟩ | ⟨a, -, -⟩
      · refine s_yGo hE hy hR hL2 hY q4 hp hp2 t0 t1 fun m4 z1 => ⟨fun g => ?_, fun g => ?_⟩
        · have hg : rGo L s.1 p ((s.1 (8 + p) + 1).tmod 32) = true := by
            revert g
            cases rGo L s.1 p ((s.1 (8 + p) + 1).tmod 32) <;> simp
          rw [b, hg] at hQ
          simp only [Bool.not_true, Bool.or_false] at hQ
          rw [if_neg (by decide)] at hQ
          have e11 : m4 y 11 = s.2.1 := (z1 y 11 (by omega) (yd_stk hy (by omega) (by omega))).trans hmv
          have e12 : m4 y 12 = s.2.2 := (z1 y 12 (by omega) (yd_stk hy (by omega) (by omega))).trans hhd
          have e9 : m4 y 9 = m0 y 9 := (z1 y 9 (by omega) (yd_stk hy (by omega) (by omega))).trans q2
          rw [e11]
          refine ⟨⟨by omega, by omega⟩, ⟨by omega, by omega⟩, ih _ (rUp s.1 (8 + p) ((s.1 (8 + p) + 1).tmod 32), s.2.1 + 1, s.2.2) M (x + 1) ?_ ?_ ⟨?_, ?_, ?_⟩ (rOk_step q4 hp hp2 t0 t1 b) (by dsimp only; omega) (by dsimp only; omega) w0 w1 (by omega) (by omega) hM (by dsimp only; omega) hQ⟩
          · exact yFr_tr q1 (yFr_tr (qFr_y z1) fun o i a _ => by rw [aUp_rn (by omega), aUp_rn (by omega)])
          · rw [aUp_ri (by omega), aUp_rn (by omega)]; exact e9
          · exact yR_fr (yR_cell (yR_q hy hR z1) hp hp2) (by rw [aUp_ri (by omega)]) fun o i a _ => by rw [aUp_rn (by omega)]
          · exact aUp_re
          · rw [aUp_ri (by omega), aUp_rn (by omega)]; exact e12
        · have hg : rGo L s.1 p ((s.1 (8 + p) + 1).tmod 32) = false := by
            revert g
            cases rGo L s.1 p ((s.1 (8 + p) + 1).tmod 32) <;> simp
          exact blk m4 z1 (by rw [hg, b]; rfl)
      · omega
theorem s_turn_p {E : EN} (hE : Ep E) {k : Nat} {m0 : Mm} {Q : Mm → Prop} {y Y : Int} {L : LW} (hy : isYd y) (hL : yL m0 y L) (hY : Y ≤ 5000) : ∀ (n : Nat) (mem : Mm) (s : R3) (p : Int), yFr y m0 mem → mem y 9 = m0 y 9 → yR3 mem y s → rOk Y s.1 → 0 ≤ p → p + n = s.1 7 → 0 ≤ s.2.1 → s.2.1 ≤ 10 * p → 0 ≤ s.2.2 → s.2.2 ≤ 10 * p →
    (∀ m2 : Mm, yFr y m0 m2 → m2 y 9 = m0 y 9 → yR3 m2 y (rAg (rPs L n p s).1, (rPs L n p s).2) → Q m2) → VM E mX10_turnYear (k + 4) mem 12 [(0, aR y), (1, aI p)] [] (retV Q) := by
  intro n
  induction n with
  | zero =>
    intro mem s p q1 q2 q3 q4 hp h v0 v1 w0 w1 hQ
    have h10 := q3.1.1
    have hz := q4.2.1
    refine rX10_turnYear_12 hE hy ⟨fun _ => s_yAge hE hy q3.1 hY q4 fun m2 z1 z2 z3 z4 z5 => hQ m2 (yFr_tr q1 z1) (z3.trans q2) ⟨z2, z4.trans q3.2.1, z5.trans q3.2.2⟩, fun c => absurd c (by omega)⟩
  | succ n ih =>
    intro mem s p q1 q2 q3 q4 hp h v0 v1 w0 w1 hQ
    have h10 := q3.1.1
    have hz := q4.2.1
    have hL2 : yL mem y L := yL_q hy hL q2 q1
    refine rX10_turnYear_12 hE hy ⟨fun c => absurd c (by omega), fun _ => ⟨fun c => absurd c (by omega), fun _ _ => s_yMv hE hy q3.1 hL2 hY q4 hp (by omega) fun m2 z1 => ?_⟩⟩
    have hm := rMv_le (L := L) (r := s.1) (p := p)
    have hw := rWk_mv (L := L) (p := p) (rMv L s.1 p).toNat s
    refine s_turn_w hE hy hL hY hp (by omega) (rMv L s.1 p).toNat m2 s (rMv L s.1 p) 0 (yFr_tr q1 (qFr_y z1)) ((z1 y 9 (by omega) (yd_stk hy (by omega) (by omega))).trans q2) ⟨yR_q hy q3.1 z1, (z1 y 11 (by omega) (yd_stk hy (by omega) (by omega))).trans q3.2.1, (z1 y 12 (by omega) (yd_stk hy (by omega) (by omega))).trans q3.2.2⟩ q4 v0 (by omega) w0 (by omega) (by omega) (by omega) hm.2 (by omega) fun m3 y1 y2 y3 => ?_
    have hcl := rWk_cl (L := L) hp (show p < 10 by omega) (rMv L s.1 p).toNat s 7 (by omega)
    exact ih m3 _ (p + 1) y1 y2 y3 (rWk_ok hp (by omega) _ s q4) (by omega) (by omega) (by omega) (by omega) (by omega) (by omega) hQ
theorem s_turn {E : EN} (hE : Ep E) {k : Nat} {mem : Mm} {Q : Mm → Prop} {y Y : Int} {r : Rw} {L : LW} (hy : isYd y) (hR : yR mem y r) (hL : yL mem y L) (hY : Y ≤ 5000) (hok : rOk Y r) (hQ : ∀ m2 : Mm, yFr y mem m2 → m2 y 9 = mem y 9 → yR3 m2 y (rTn L r) → Q m2) : CV E mX10_turnYear (k + 4) mem [aR y] Q := by
  have h0 := hok.1
  refine eX10_turnYear (rX10_turnYear_0 hE hy (s_turn_p hE hy hL hY (r 7).toNat _ (r, 0, 0) 0 (fun o i a _ => by rw [aUp_rn (by omega), aUp_rn (by omega)]) (by rw [aUp_ri (by omega), aUp_ri (by omega)]) ⟨yR_fr hR (by rw [aUp_ri (by omega), aUp_ri (by omega)]) fun o i a _ => by rw [aUp_rn (by omega), aUp_rn (by omega)], by rw [aUp_ri (by omega)]; exact aUp_re, aUp_re⟩ hok (by omega) (by dsimp only; omega) (Int.le_refl 0) (Int.le_refl 0) (Int.le_refl 0) (Int.le_refl 0) hQ))
