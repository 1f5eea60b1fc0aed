-- on paper: the class's sheet, the model's row kept and put back
theorem yd_yd {y z : Int} (hy : isYd y) (hz : isYd z) (h : y ≠ z) : y + 9 < z ∨ z + 9 < y := by unfold isYd at hy hz; omega
theorem aCp_re {mem : Mm} {a d n j : Int} (h0 : 0 ≤ j) (h1 : j < n) : aCp mem a d n d j = mem a j := if_pos ⟨rfl, h0, h1⟩
theorem s_ycopy {E : EN} (hE : Ep E) {k : Nat} {mem : Mm} {Q : Mm → Prop} {y p : Int} {r : Rw} (hy : isYd y) (hp : isYd p) (hne : y ≠ p) (hR : yR mem p r) (hQ : ∀ m2 : Mm, (∀ o i, (o < y ∨ y + 9 < o) → m2 o i = mem o i) → (∀ i, i ≠ 10 → m2 y i = mem y i) → yR m2 y r → Q m2) : CV E mX10_copyFrom (k + 1) mem [aR y, aR p] Q := by
  have hd := yd_yd hy hp hne
  obtain ⟨a, b, c, d⟩ := hR
  refine eX10_copyFrom (rX10_copyFrom_0 hE hy hp (hQ _ (fun o i q => ?_) (fun i q => ?_) ⟨?_, fun i u v => ?_, fun i u v => ?_, fun i u v => ?_⟩))
  · rw [aUp_rn (by omega), aCp_rn (by omega), aCp_rn (by omega), aCp_rn (by omega), aCp_rn (by omega), aCp_rn (by omega), aCp_rn (by omega), aCp_rn (by omega), aCp_rn (by omega)]
  · rw [aUp_ri q, aCp_rn (by omega), aCp_rn (by omega), aCp_rn (by omega), aCp_rn (by omega), aCp_rn (by omega), aCp_rn (by omega), aCp_rn (by omega), aCp_rn (by omega)]
  · rw [aUp_re, aCp_rn (by omega), aCp_rn (by omega), aCp_rn (by omega), aCp_rn (by omega), aCp_rn (by omega), aCp_rn (by omega), aCp_rn (by omega), aCp_rn (by omega)]
    exact a
  · obtain ⟨b1, b2, b3⟩ := b i u v
    refine ⟨?_, ?_, ?_⟩
    · rw [aUp_rn (by omega), aCp_rn (by omega), aCp_rn (by omega), aCp_rn (by omega), aCp_rn (by omega), aCp_rn (by omega), aCp_rn (by omega), aCp_rn (by omega), aCp_re u v]
      exact b1
    · rw [aUp_rn (by omega), aCp_rn (by omega), aCp_rn (by omega), aCp_rn (by omega), aCp_rn (by omega), aCp_rn (by omega), aCp_rn (by omega), aCp_re u v, aCp_rn (by omega)]
      exact b2
    · rw [aUp_rn (by omega), aCp_rn (by omega), aCp_rn (by omega), aCp_rn (by omega), aCp_rn (by omega), aCp_rn (by omega), aCp_re u v, aCp_rn (by omega), aCp_rn (by omega)]
      exact b3
  · obtain ⟨c1, c2, c3, c4⟩ := c i u v
    refine ⟨?_, ?_, ?_, ?_⟩
    · rw [aUp_rn (by omega), aCp_rn (by omega), aCp_rn (by omega), aCp_rn (by omega), aCp_rn (by omega), aCp_re u v, aCp_rn (by omega), aCp_rn (by omega), aCp_rn (by omega)]
      exact c1
    · rw [aUp_rn (by omega), aCp_rn (by omega), aCp_rn (by omega), aCp_rn (by omega), aCp_re u v, aCp_rn (by omega), aCp_rn (by omega), aCp_rn (by omega), aCp_rn (by omega)]
      exact c2
    · rw [aUp_rn (by omega), aCp_rn (by omega), aCp_rn (by omega), aCp_re u v, aCp_rn (by omega), aCp_rn (by omega), aCp_rn (by omega), aCp_rn (by omega), aCp_rn (by omega)]
      exact c3
    · rw [aUp_rn (by omega), aCp_rn (by omega), aCp_re u v, aCp_rn (by omega), aCp_rn (by omega), aCp_rn (by omega), aCp_rn (by omega), aCp_rn (by omega), aCp_rn (by omega)]
      exact c4
  · rw [aUp_rn (by omega), aCp_re u v, aCp_rn (by omega), aCp_rn (by omega), aCp_rn (by omega), aCp_rn (by omega), aCp_rn (by omega), aCp_rn (by omega), aCp_rn (by omega)]
    exact d i u v
theorem isYd553 : isYd 553 := by unfold isYd; omega
theorem yFr553_rEq {m m2 : Mm} (h : yFr 553 m m2) : rEq m m2 := fun o i a => h o i (Classical.byContradiction fun q => a (by unfold scr; omega)) fun q => a (Or.inl q)
/-- the sheet: all the rest as in m0, its row r, its law L -/
def pYd (m0 m : Mm) (L : LW) (r : Rw) : Prop := rEq m0 m ∧ yR m 553 r ∧ yL m 553 L
theorem s_begin {E : EN} (hE : Ep E) {k : Nat} {mem : Mm} {Q : Mm → Prop} {L : LW} {r : Rw} (hR : yR mem 2 r) (hL : yL mem 2 L) (hQ : ∀ m2 : Mm, pYd mem m2 L r → (∀ o i, (o < 553 ∨ 562 < o) → m2 o i = mem o i) → Q m2) : CV E mX5_begin (k + 2) mem [aR 552, aR 2] Q := by
  refine eX5_begin (rX5_begin_0 hE isYd2 (s_ycopy hE isYd553 isYd2 (by decide) hR fun m2 a b c => hQ _ ⟨fun o i q => ?_, yR_fr c (aUp_ri (by decide)) (fun o i u v => aUp_rn (by omega)), ?_⟩ fun o i q => ?_))
  · rw [aUp_rn (fun z => q (by unfold scr; omega))]
    exact a o i (Classical.byContradiction fun z => q (by unfold scr; omega))
  · unfold yL
    rw [aUp_re, a 2 9 (by omega)]
    rcases hL with h | ⟨h, D, h2, h3⟩
    · exact Or.inl h
    · refine Or.inr ⟨h, D, TxS_fr (fun o i u v => ?_) h2, h3⟩
      have := yd_tx isYd553 h
      rw [aUp_rn (by omega)]
      exact a o i (by omega)
  · rw [aUp_rn (by omega)]
    exact a o i q
theorem pYd_turn {E : EN} (hE : Ep E) {k : Nat} {m0 mem : Mm} {Q : Mm → Prop} {L : LW} {r : Rw} {Y : Int} (hP : pYd m0 mem L r) (hY : Y ≤ 5000) (hok : rOk Y r) (hQ : ∀ m2 : Mm, pYd m0 m2 L (rTn L r).1 → m2 553 11 = (rTn L r).2.1 → yFr 553 mem m2 → Q m2) : CV E mX10_turnYear (k + 4) mem [aR 553] Q :=
  s_turn hE isYd553 hP.2.1 hP.2.2 hY hok fun m2 a b c => hQ m2 ⟨rEq_tr hP.1 (yFr553_rEq a), c.1, yL_q isYd553 hP.2.2 b a⟩ c.2.1 a
theorem m_keep_l {E : EN} (hE : Ep E) {k : Nat} {m0 : Mm} {Q : Mm → Prop} {p : Int} (hp : 0 ≤ p) (hp2 : p < 18) (hQ : Q (fun o i => if o = 608 ∧ 77 * p ≤ i ∧ i < 77 * p + 77 then m0 605 (3 + (i - 77 * p)) else m0 o i)) : ∀ (n : Nat) (mem : Mm) (x : Int), 0 ≤ x → x + n = 77 → (mem = fun o i => if o = 608 ∧ 77 * p ≤ i ∧ i < 77 * p + x then m0 605 (3 + (i - 77 * p)) else m0 o i) → VM E mX12_keepAll k mem 2 [(0, aR 603), (1, aI p), (2, aI x)] [] (retV Q) := by
  intro n
  induction n with
  | zero =>
    intro mem x h0 h1 h2
    obtain rfl : x = 77 := by omega
    rw [← h2] at hQ
    exact rX12_keepAll_2 hE ⟨fun _ => hQ, fun c => absurd c (by omega)⟩
  | succ n ih =>
    intro mem x h0 h1 h2
    refine rX12_keepAll_2 hE ⟨fun c => absurd c (by omega), fun _ => ⟨⟨by omega, by omega⟩, ⟨by omega, by omega⟩, ⟨by omega, by omega⟩, ⟨by omega, by omega⟩, ⟨by omega, by omega⟩, ⟨by omega, by omega⟩, ih _ (x + 1) (by omega) (by omega) ?_⟩⟩
    funext o i
    have e : mem 605 (3 + x) = m0 605 (3 + x) := by rw [h2]; exact if_neg (by omega)
    rw [aUp_at, e, h2]
    dsimp only
    by_cases a : o = 608
    · subst a
      simp only [true_and]
      by_cases b : i = 77 * p + x
      · rw [if_pos b, if_pos (by omega)]
        congr 1
        omega
      · rw [if_neg b]
        by_cases c : 77 * p ≤ i ∧ i < 77 * p + x
        · rw [if_pos c, if_pos (by omega)]
        · rw [if_neg c, if_neg (by omega)]
    · rw [if_neg (fun q => a q.1), if_neg (fun q => a q.1), if_neg (fun q => a q.1)]
theorem m_keep {E : EN} (hE : Ep E) {k : Nat} {mem : Mm} {Q : Mm → Prop} {p : Int} (hp : 0 ≤ p) (hp2 : p < 18) (hQ : Q (fun o i => if o = 608 ∧ 77 * p ≤ i ∧ i < 77 * p + 77 then mem 605 (3 + (i - 77 * p)) else mem o i)) : CV E mX12_keepAll k mem [aR 603, aI p] Q :=
  eX12_keepAll ⟨by omega, by omega⟩ (rX12_keepAll_0 hE (m_keep_l hE hp hp2 hQ 77 mem 0 (by omega) (by omega) (by funext o i; rw [if_neg (by omega)])))
theorem m_putb_l {E : EN} (hE : Ep E) {k : Nat} {m0 : Mm} {Q : Mm → Prop} {p : Int} (hp : 0 ≤ p) (hp2 : p < 18) (hQ : Q (fun o i => if o = 605 ∧ 3 ≤ i ∧ i < 80 then m0 608 (77 * p + (i - 3)) else m0 o i)) : ∀ (n : Nat) (mem : Mm) (x : Int), 0 ≤ x → x + n = 77 → (mem = fun o i => if o = 605 ∧ 3 ≤ i ∧ i < 3 + x then m0 608 (77 * p + (i - 3)) else m0 o i) → VM E mX12_putBack k mem 2 [(0, aR 603), (1, aI p), (2, aI x)] [] (retV Q) := by
  intro n
  induction n with
  | zero =>
    intro mem x h0 h1 h2
    obtain rfl : x = 77 := by omega
    rw [show (3 : Int) + 77 = 80 from rfl] at h2
    rw [← h2] at hQ
    exact rX12_putBack_2 hE ⟨fun _ => hQ, fun c => absurd c (by omega)⟩
  | succ n ih =>
    intro mem x h0 h1 h2
    refine rX12_putBack_2 hE ⟨fun c => absurd c (by omega), fun _ => ⟨⟨by omega, by omega⟩, ⟨by omega, by omega⟩, ⟨by omega, by omega⟩, ⟨by omega, by omega⟩, ⟨by omega, by omega⟩, ⟨by omega, by omega⟩, ih _ (x + 1) (by omega) (by omega) ?_⟩⟩
    funext o i
    have e : mem 608 (77 * p + x) = m0 608 (77 * p + x) := by rw [h2]; exact if_neg (by omega)
    rw [aUp_at, e, h2]
    dsimp only
    by_cases a : o = 605
    · subst a
      simp only [true_and]
      by_cases b : i = 3 + x
      · rw [if_pos b, if_pos (by omega)]
        congr 1
        omega
      · rw [if_neg b]
        by_cases c : 3 ≤ i ∧ i < 3 + x
        · rw [if_pos c, if_pos (by omega)]
        · rw [if_neg c, if_neg (by omega)]
    · rw [if_neg (fun q => a q.1), if_neg (fun q => a q.1), if_neg (fun q => a q.1)]
theorem m_putb {E : EN} (hE : Ep E) {k : Nat} {mem : Mm} {Q : Mm → Prop} {p : Int} (hp : 0 ≤ p) (hp2 : p < 18) (hQ : Q (fun o i => if o = 605 ∧ 3 ≤ i ∧ i < 80 then mem 608 (77 * p + (i - 3)) else mem o i)) : CV E mX12_putBack k mem [aR 603, aI p] Q :=
  eX12_putBack ⟨by omega, by omega⟩ (rX12_putBack_0 hE (m_putb_l hE hp hp2 hQ 77 mem 0 (by omega) (by omega) (by funext o i; rw [if_neg (by omega)])))
/-- the model on paper: all but the row as in m0, what putBack needs is kept -/
def pap (m0 m : Mm) : Prop := (∀ o i, ¬ scr o i → o ≠ 605 → m o i = m0 o i) ∧ (∀ i, i < 3 ∨ 80 ≤ i → m 605 i = m0 605 i) ∧ ∀ i, 3 ≤ i → i < 80 → m 608 (1232 + (i - 3)) = m0 605 i
theorem m_keepP {E : EN} (hE : Ep E) {k : Nat} {m0 mem : Mm} {Q : Mm → Prop} (h : rEq m0 mem) (hQ : ∀ m2 : Mm, pap m0 m2 → m2 605 = mem 605 → (∀ o i, o ≠ 608 → m2 o i = mem o i) → Q m2) : CV E mX12_keepAll k mem [aR 603, aI 16] Q := by
  refine m_keep hE (by decide) (by decide) (hQ _ ⟨fun o i a b => ?_, fun i a => ?_, fun i a b => ?_⟩ ?_ fun o i a => if_neg fun q => a q.1)
  · by_cases c : o = 608 ∧ 77 * 16 ≤ i ∧ i < 77 * 16 + 77
    · exact absurd (show scr o i by unfold scr; omega) a
    · exact (if_neg c).trans (h o i a)
  · exact (if_neg (by omega)).trans (congrFun (rEq_605 h) i)
  · refine (if_pos (by omega)).trans ?_
    rw [show 3 + (1232 + (i - 3) - 77 * 16) = i by omega]
    exact congrFun (rEq_605 h) i
  · funext i
    exact if_neg (by omega)
theorem m_putP {E : EN} (hE : Ep E) {k : Nat} {m0 mem : Mm} {Q : Mm → Prop} (h : pap m0 mem) (hQ : ∀ m2 : Mm, rEq m0 m2 → (∀ o i, o ≠ 605 → m2 o i = mem o i) → Q m2) : CV E mX12_putBack k mem [aR 603, aI 16] Q := by
  refine m_putb hE (by decide) (by decide) (hQ _ (fun o i a => ?_) fun o i a => if_neg fun q => a q.1)
  obtain ⟨h1, h2, h3⟩ := h
  by_cases c : o = 605
  · subst c
    by_cases d : 3 ≤ i ∧ i < 80
    · exact (if_pos ⟨rfl, d⟩).trans (h3 i d.1 d.2)
    · exact (if_neg (fun q => d q.2)).trans (h2 i (by omega))
  · exact (if_neg (fun q => c q.1)).trans (h1 o i a c)
theorem pap_fr {m0 m m2 : Mm} (h : pap m0 m) (hf : pFr m m2) (hr : ∀ i, i < 3 ∨ 80 ≤ i → m2 605 i = m 605 i) : pap m0 m2 := by
  obtain ⟨h1, h2, h3⟩ := h
  refine ⟨fun o i a b => ?_, fun i a => (hr i a).trans (h2 i a), fun i a b => ?_⟩
  · rw [hf o i b (fun q => a (by unfold scr; omega)) (fun q => a (by unfold scr; omega)) (fun q => a (by unfold scr; omega)) (fun q => a (by unfold scr; omega))]
    exact h1 o i a b
  · rw [hf 608 _ (by decide) (by decide) (by decide) (by decide) (fun q => absurd q.1 (by decide))]
    exact h3 i a b
theorem rKp_out {r r2 : Rw} (h : rKp r r2) {i : Int} (hi : i < 3 ∨ 80 ≤ i) : r2 i = r i := h i (by omega) (by omega)
/-- the model on paper with its law and row -/
def pMd (m0 m : Mm) (L : LW) (r : Rw) : Prop := pap m0 m ∧ m 605 = r ∧ mL m L ∧ m 603 20 = 0
theorem pMd_turn {E : EN} (hE : Ep E) {k : Nat} {m0 mem : Mm} {Q : Int → Mm → Prop} {L : LW} {r : Rw} {Y : Int} (hP : pMd m0 mem L r) (hY : Y ≤ 5000) (hok : rOk Y r) (hQ : ∀ m2 : Mm, pMd m0 m2 L (rTn L r).1 → gnR r (rTn L r).1 (m2 624) (r 7) → pFr mem m2 → Q (rTn L r).2.1 m2) : CI E mX12_passIt (k + 7) mem [aR 603] Q := by
  obtain ⟨h1, rfl, h3, h4⟩ := hP
  refine m_turn hE h4 h3 hY hok fun m2 a b c d => ?_
  obtain ⟨-, kp⟩ := rTn_ok (L := L) hok
  rw [b] at d
  refine hQ m2 ⟨pap_fr h1 a fun i q => ?_, b, mL_fr ?_ (fun i q => ?_) h3, ?_⟩ d a
  · rw [b]; exact rKp_out kp q
  · rw [b]; exact rKp_out kp (by omega)
  · rw [b]; exact rKp_out kp (by omega)
  · exact (a 603 20 (by decide) (by decide) (by decide) (by decide) (by decide)).trans h4
theorem pMd_keep {E : EN} (hE : Ep E) {k : Nat} {m0 mem : Mm} {Q : Mm → Prop} {L : LW} (h : rEq m0 mem) (hL : mL mem L) (h20 : mem 603 20 = 0) (hQ : ∀ m2 : Mm, pMd m0 m2 L (mem 605) → (∀ o i, o ≠ 608 → m2 o i = mem o i) → Q m2) : CV E mX12_keepAll k mem [aR 603, aI 16] Q :=
  m_keepP hE h fun m2 a b c => hQ m2 ⟨a, b, mL_eq b hL, (c 603 20 (by decide)).trans h20⟩ c
