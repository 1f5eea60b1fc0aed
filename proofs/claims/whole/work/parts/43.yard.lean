-- a yard y of the class as a row r has it; its law's telling L
def yR (m : Mm) (y : Int) (r : Rw) : Prop := m y 10 = r 7 ∧ (∀ c, 0 ≤ c → c < 32 → m (y + 1) c = r (80 + c) ∧ m (y + 2) c = r (112 + c) ∧ m (y + 3) c = r (48 + c)) ∧ (∀ p, 0 ≤ p → p < 10 → m (y + 4) p = r (8 + p) ∧ m (y + 5) p = r (18 + p) ∧ m (y + 6) p = r (28 + p) ∧ m (y + 7) p = r (38 + p)) ∧ ∀ t, 0 ≤ t → t < 4 → m (y + 8) t = r (3 + t)
def yL (m : Mm) (y : Int) (L : LW) : Prop := (m y 9 < 0 ∧ L = noLW) ∨ (isTx (m y 9) ∧ ∃ D, TxS m (m y 9) 10 D ∧ L = lsOf D)
/-- all but the words of y and the stacks of texts -/
def qFr (y : Int) (m m2 : Mm) : Prop := ∀ o i, o ≠ y + 9 → ¬ isTx (o - 8) → m2 o i = m o i
/-- all but yard y and the stacks of texts -/
def yFr (y : Int) (m m2 : Mm) : Prop := ∀ o i, (o < y ∨ y + 9 < o) → ¬ isTx (o - 8) → m2 o i = m o i
theorem yd_tx {y t : Int} (hy : isYd y) (ht : isTx t) : t + 8 < y ∨ y + 9 < t := by unfold isYd at hy; unfold isTx at ht; omega
theorem tx_stk {t o : Int} (ht : isTx t) (h1 : t ≤ o) (h2 : o ≤ t + 7) : ¬ isTx (o - 8) := by unfold isTx at ht ⊢; omega
theorem yd_stk {y o : Int} (hy : isYd y) (h1 : y ≤ o) (h2 : o ≤ y + 9) : ¬ isTx (o - 8) := by unfold isYd at hy; unfold isTx; omega
theorem yd_lt {y : Int} (hy : isYd y) : 2 ≤ y ∧ y < 590 := by unfold isYd at hy; omega
theorem tx_lt {t : Int} (hy : isTx t) : 355 ≤ t ∧ t ≤ 593 := by unfold isTx at hy; omega
theorem qFr_rf {y : Int} {m : Mm} : qFr y m m := fun _ _ _ _ => rfl
theorem qFr_tr {y : Int} {m m2 m3 : Mm} (h : qFr y m m2) (h2 : qFr y m2 m3) : qFr y m m3 := fun o i a b => (h2 o i a b).trans (h o i a b)
theorem yFr_rf {y : Int} {m : Mm} : yFr y m m := fun _ _ _ _ => rfl
theorem yFr_tr {y : Int} {m m2 m3 : Mm} (h : yFr y m m2) (h2 : yFr y m2 m3) : yFr y m m3 := fun o i a b => (h2 o i a b).trans (h o i a b)
theorem qFr_y {y : Int} {m m2 : Mm} (h : qFr y m m2) : yFr y m m2 := fun o i a b => h o i (by omega) b
/-- a change that leaves the yard's rows alone -/
theorem yR_fr {m m2 : Mm} {y : Int} {r : Rw} (h : yR m y r) (h0 : m2 y 10 = m y 10) (h1 : ∀ o i, y < o → o ≤ y + 8 → m2 o i = m o i) : yR m2 y r := by
  obtain ⟨a, b, c, d⟩ := h
  refine ⟨h0.trans a, fun i u v => ?_, fun i u v => ?_, fun i u v => ?_⟩
  · rw [h1 (y + 1) i (by omega) (by omega), h1 (y + 2) i (by omega) (by omega), h1 (y + 3) i (by omega) (by omega)]; exact b i u v
  · rw [h1 (y + 4) i (by omega) (by omega), h1 (y + 5) i (by omega) (by omega), h1 (y + 6) i (by omega) (by omega), h1 (y + 7) i (by omega) (by omega)]; exact c i u v
  · rw [h1 (y + 8) i (by omega) (by omega)]; exact d i u v
theorem yR_q {m m2 : Mm} {y : Int} {r : Rw} (hy : isYd y) (h : yR m y r) (hq : qFr y m m2) : yR m2 y r := yR_fr h (hq y 10 (by omega) (yd_stk hy (by omega) (by omega))) fun o i a b => hq o i (by omega) (yd_stk hy (by omega) (by omega))
/-- another yard is left alone -/
theorem yR_y {m m2 : Mm} {y z : Int} {r : Rw} (hz : isYd z) (hyz : z + 9 < y ∨ y + 9 < z) (h : yR m z r) (hq : yFr y m m2) : yR m2 z r := yR_fr h (hq z 10 (by omega) (yd_stk hz (by omega) (by omega))) fun o i a b => hq o i (by omega) (yd_stk hz (by omega) (by omega))
theorem yL_q {m m2 : Mm} {y : Int} {L : LW} (hy : isYd y) (h : yL m y L) (h9 : m2 y 9 = m y 9) (hq : yFr y m m2) : yL m2 y L := by
  unfold yL
  rw [h9]
  rcases h with h | ⟨h, D, h2, h3⟩
  · exact Or.inl h
  · exact Or.inr ⟨h, D, TxS_fr (fun o i a b => hq o i (by have := yd_tx hy h; omega) (tx_stk h a b)) h2, h3⟩
theorem rGo_f {L : LW} {r : Rw} {p c : Int} (h : L.2 = false) : rGo L r p c = (if r (80 + c) = 1 then r (48 + c) == 1 else !(r (80 + c) == 3)) := by unfold rGo; rw [h]; rfl
theorem rGo_t {L : LW} {r : Rw} {p c : Int} (h : L.2 = true) : rGo L r p c = (L.1 2 (rWd r p (r (18 + p)) c) == 1) := by unfold rGo; rw [h]; rfl
theorem lsOf_hi {D : LD} {h : Int} {w : Rw} (q : ¬ h < 2) : (lsOf D).1 h w = if ldHas D h w D.1.toNat then 1 else 0 := if_neg q
theorem lsOf_b {D : LD} {h : Int} {w : Rw} (q : ¬ h < 2) : ((lsOf D).1 h w == 1) = ldHas D h w D.1.toNat := by
  rw [lsOf_hi q]
  cases ldHas D h w D.1.toNat <;> rfl
theorem s_ytell {E : EN} (hE : Ep E) {k : Nat} {mem : Mm} {Q : Mm → Prop} {y p fam c : Int} {r : Rw} (hy : isYd y) (hR : yR mem y r) (hp : -1 ≤ p) (hp2 : p < 10) (hf : R32 fam) (hc : 0 ≤ c) (hc2 : c < 32) (hQ : ∀ m2 : Mm, (∀ i, 0 ≤ i → i < 10 → m2 (y + 9) i = rWd r p fam c i) → (∀ o i, o ≠ y + 9 → m2 o i = mem o i) → Q m2) : CV E mX10_tell k mem [aR y, aI p, aI fam, aI c] Q := by
  obtain ⟨a, b, d, e⟩ := hR
  obtain ⟨b1, b2, b3⟩ := b c hc hc2
  have e0 := e 0 (by omega) (by omega)
  have e3 := e 3 (by omega) (by omega)
  have hz : ∀ (v6 v7 : Int), v6 = (if p = -1 then -1 else r (28 + p)) → v7 = (if p = -1 then 0 else r (38 + p)) → Q (aUp (aUp (aUp (aUp (aUp (aUp (aUp (aUp (aUp (aUp mem (y + 9) 0 p) (y + 9) 1 c) (y + 9) 2 (mem (y + 1) c)) (y + 9) 3 (mem (y + 2) c)) (y + 9) 4 (mem (y + 3) c)) (y + 9) 5 fam) (y + 9) 6 v6) (y + 9) 7 v7) (y + 9) 8 (mem (y + 8) 0)) (y + 9) 9 (mem (y + 8) 3)) := by
    intro v6 v7 q6 q7
    refine hQ _ (fun i u v => ?_) fun o i u => by rw [aUp_rn u, aUp_rn u, aUp_rn u, aUp_rn u, aUp_rn u, aUp_rn u, aUp_rn u, aUp_rn u, aUp_rn u, aUp_rn u]
    have hi : i = 0 ∨ i = 1 ∨ i = 2 ∨ i = 3 ∨ i = 4 ∨ i = 5 ∨ i = 6 ∨ i = 7 ∨ i = 8 ∨ i = 9 := by omega
    unfold rWd
    rcases hi with rfl | rfl | rfl | rfl | rfl | rfl | rfl | rfl | rfl | rfl <;> simp (disch := decide) only [aUp_re, aUp_ri, if_pos, if_neg] <;> first | rfl | assumption
  refine eX10_tell ⟨by omega, by omega⟩ hf ⟨by omega, by omega⟩ (rX10_tell_0 hE hy ⟨⟨hc, hc2⟩, fun c1 => ⟨⟨by omega, hp2⟩, fun _ => ?_, fun c2 => absurd c2 c1⟩, fun c1 => ⟨fun c2 => absurd c1 c2, fun _ => ?_⟩⟩)
  · exact hz _ _ (by rw [if_neg c1]; exact (d p (by omega) hp2).2.2.1) (by rw [if_neg c1]; exact (d p (by omega) hp2).2.2.2)
  · exact hz _ _ (by rw [if_pos c1]) (by rw [if_pos c1])
theorem qFr_tell {y : Int} {m m2 : Mm} (h : ∀ o i, o ≠ y + 9 → m2 o i = m o i) : qFr y m m2 := fun o i a _ => h o i a
theorem qFr_stk {y t : Int} {m m2 : Mm} (ht : isTx t) (h : ∀ o i, o ≠ t + 8 → m2 o i = m o i) : qFr y m m2 := fun o i _ b => h o i fun q => b (by rw [q, show t + 8 - 8 = t by omega]; exact ht)
theorem s_yMv {E : EN} (hE : Ep E) {k : Nat} {mem : Mm} {Q : Int → Mm → Prop} {y p Y : Int} {r : Rw} {L : LW} (hy : isYd y) (hR : yR mem y r) (hL : yL mem y L) (hY : Y ≤ 5000) (hok : rOk Y r) (hp : 0 ≤ p) (hp2 : p < 10) (hQ : ∀ m2 : Mm, qFr y mem m2 → Q (rMv L r p) m2) : CI E mX10_movesOf (k + 3) mem [aR y, aI p] Q := by
  obtain ⟨d1, d2, d3, d4⟩ := hR.2.2.1 p hp hp2
  have hb := hok.2.2.1 p hp hp2
  refine eX10_movesOf ⟨by omega, by omega⟩ (rX10_movesOf_0 hE hy ⟨fun c => ⟨⟨hp, hp2⟩, fun _ r5 _ => ?_⟩, fun c => ?_⟩)
  · rcases hL with ⟨h, -⟩ | ⟨h, D, h2, rfl⟩
    · exact absurd h (by omega)
    rw [d1, d2] at *
    refine s_ytell hE hy hR (by omega) hp2 (by omega) hb.1 hb.2.1 fun m2 q1 q2 => ?_
    have e9 : m2 y 9 = mem y 9 := q2 _ _ (by omega)
    have hsep := yd_tx hy h
    rw [e9]
    refine ⟨h, ?_⟩
    refine s_tlast hE h (by decide) (by decide) (yd9 hy) (by decide) (by omega) (fun i a b => q1 i a (by omega)) (rWd_ok hY hok (by omega) hp2 hb.2.2.1 hb.2.2.2.1 hb.1 hb.2.1) (TxS_fr (fun o i a b => q2 o i (by omega)) h2) fun m3 q3 => ?_
    have hf := hQ m3 (qFr_tr (qFr_tell q2) (qFr_stk h q3))
    have e : rMv (lsOf D) r p = if ldLast D 0 (rWd r p (r (18 + p)) (r (8 + p))) D.1.toNat = bRK then 1 else max 0 (min 9 (ldLast D 0 (rWd r p (r (18 + p)) (r (8 + p))) D.1.toNat)) := rfl
    rw [e] at hf
    exact ⟨fun q => by rw [if_neg q] at hf; exact hf, fun q => by rw [if_pos q] at hf; exact hf⟩
  · rcases hL with ⟨-, rfl⟩ | ⟨h, -⟩
    · exact hQ mem qFr_rf
    · have := tx_lt h
      omega
theorem s_yDg {E : EN} (hE : Ep E) {k : Nat} {mem : Mm} {Q : Int → Mm → Prop} {y p Y : Int} {r : Rw} {L : LW} (hy : isYd y) (hR : yR mem y r) (hL : yL mem y L) (hY : Y ≤ 5000) (hok : rOk Y r) (hp : 0 ≤ p) (hp2 : p < 10) (hQ : ∀ m2 : Mm, qFr y mem m2 → Q (rDg L r p) m2) : CI E mX10_digsOf (k + 3) mem [aR y, aI p] Q := by
  obtain ⟨d1, d2, d3, d4⟩ := hR.2.2.1 p hp hp2
  have hb := hok.2.2.1 p hp hp2
  have go : 0 ≤ mem y 9 → ∀ u : Int, u = (if r (28 + p) = 1 then 2 else 4) → R32 p → R32 (mem (y + 5) p) → R32 (mem (y + 4) p) → CV E mX10_tell (k + 2) mem [aR y, aI p, aI (mem (y + 5) p), aI (mem (y + 4) p)] (fun m2 => (isTx (m2 y 9)) ∧ (CI E mX9_last (k + 2) m2 [aR (m2 y 9), aI 1, aR (y + 9)] (fun r5 m4 => ((¬ r5 = (-2147483648) → Q (max 1 (min 99 r5)) m4) ∧ (r5 = (-2147483648) → Q u m4))))) := by
    intro c u hu _ r5 _
    rcases hL with ⟨h, -⟩ | ⟨h, D, h2, rfl⟩
    · exact absurd h (by omega)
    rw [d1, d2] at *
    refine s_ytell hE hy hR (by omega) hp2 (by omega) hb.1 hb.2.1 fun m2 q1 q2 => ?_
    have e9 : m2 y 9 = mem y 9 := q2 _ _ (by omega)
    have hsep := yd_tx hy h
    rw [e9]
    refine ⟨h, ?_⟩
    refine s_tlast hE h (by decide) (by decide) (yd9 hy) (by decide) (by omega) (fun i a b => q1 i a (by omega)) (rWd_ok hY hok (by omega) hp2 hb.2.2.1 hb.2.2.2.1 hb.1 hb.2.1) (TxS_fr (fun o i a b => q2 o i (by omega)) h2) fun m3 q3 => ?_
    have hf := hQ m3 (qFr_tr (qFr_tell q2) (qFr_stk h q3))
    have e : rDg (lsOf D) r p = if ldLast D 1 (rWd r p (r (18 + p)) (r (8 + p))) D.1.toNat = bRK then (if r (28 + p) = 1 then 2 else 4) else max 1 (min 99 (ldLast D 1 (rWd r p (r (18 + p)) (r (8 + p))) D.1.toNat)) := rfl
    rw [e] at hf
    exact ⟨fun q => by rw [if_neg q] at hf; exact hf, fun q => by rw [if_pos q] at hf; rw [hu]; exact hf⟩
  have no : mem y 9 < 0 → ∀ u : Int, u = (if r (28 + p) = 1 then 2 else 4) → Q u mem := by
    intro c u hu
    rcases hL with ⟨-, rfl⟩ | ⟨h, -⟩
    · rw [hu]; exact hQ mem qFr_rf
    · have := tx_lt h
      omega
  refine eX10_digsOf ⟨by omega, by omega⟩ (rX10_digsOf_0 hE hy ⟨⟨hp, hp2⟩, fun c => ?_, fun c => ?_⟩)
  · rw [d3] at c
    exact ⟨fun d => go d 4 (by rw [if_neg c]), fun d => no d 4 (by rw [if_neg c])⟩
  · rw [d3] at c
    exact ⟨fun d => go d 2 (by rw [if_pos c]), fun d => no d 2 (by rw [if_pos c])⟩
theorem s_yGo {E : EN} (hE : Ep E) {k : Nat} {mem : Mm} {Q : Int → Mm → Prop} {y p c Y : Int} {r : Rw} {L : LW} (hy : isYd y) (hR : yR mem y r) (hL : yL mem y L) (hY : Y ≤ 5000) (hok : rOk Y r) (hp : 0 ≤ p) (hp2 : p < 10) (hc : 0 ≤ c) (hc2 : c < 32) (hQ : ∀ m2 : Mm, qFr y mem m2 → Q (if rGo L r p c then 1 else 0) m2) : CI E mX10_mayGo (k + 3) mem [aR y, aI p, aI c] Q := by
  obtain ⟨d1, d2, d3, d4⟩ := hR.2.2.1 p hp hp2
  obtain ⟨g1, g2, g3⟩ := hR.2.1 c hc hc2
  have hb := hok.2.2.1 p hp hp2
  have hg := hok.2.2.2.1 c hc hc2
  have plain : L.2 = false → ((¬ (mem (y + 1) c) = 1 → (((mem (y + 1) c) = 3 → Q 0 mem) ∧ (¬ (mem (y + 1) c) = 3 → Q 1 mem))) ∧ ((mem (y + 1) c) = 1 → ((¬ (mem (y + 3) c) = 1 → Q 0 mem) ∧ ((mem (y + 3) c) = 1 → Q 1 mem)))) := by
    intro h2
    have h := hQ mem qFr_rf
    rw [rGo_f h2] at h
    rw [g1, g3]
    refine ⟨fun a => ⟨fun b => ?_, fun b => ?_⟩, fun a => ⟨fun b => ?_, fun b => ?_⟩⟩
    · rw [if_neg a, b] at h; exact h
    · rw [if_neg a, show (!(r (80 + c) == 3)) = true by simp [b]] at h; exact h
    · rw [if_pos a, show (r (48 + c) == 1) = false by simp [b]] at h; exact h
    · rw [if_pos a, b] at h; exact h
  refine eX10_mayGo ⟨by omega, by omega⟩ ⟨by omega, by omega⟩ (rX10_mayGo_0 hE hy ⟨fun e => ⟨⟨hc, hc2⟩, plain ?_⟩, fun e => ?_⟩)
  · rcases hL with ⟨-, rfl⟩ | ⟨h, -⟩
    · rfl
    · have := tx_lt h
      omega
  · rcases hL with ⟨h, -⟩ | ⟨h, D, h2, rfl⟩
    · exact absurd h (by omega)
    have hsep := yd_tx hy h
    refine ⟨h, s_thas hE h h2 (by decide) ⟨fun z => ⟨⟨hc, hc2⟩, plain ?_⟩, fun z => ⟨⟨hp, hp2⟩, fun _ r5 _ => ?_⟩⟩⟩
    · show ldVb D 2 D.1.toNat = false
      cases q : ldVb D 2 D.1.toNat with
      | false => rfl
      | true => rw [q] at z; exact absurd z (by decide)
    · have hv : ldVb D 2 D.1.toNat = true := by
        cases q : ldVb D 2 D.1.toNat with
        | true => rfl
        | false => rw [q] at z; exact absurd rfl z
      rw [d2] at *
      refine s_ytell hE hy hR (by omega) hp2 r5 hc hc2 fun m2 q1 q2 => ?_
      have e9 : m2 y 9 = mem y 9 := q2 _ _ (by omega)
      rw [e9]
      refine ⟨h, ?_⟩
      refine s_tholds hE h (by decide) (yd9 hy) (by decide) (by omega) (fun i a b => q1 i a (by omega)) (rWd_ok hY hok (by omega) hp2 hb.2.2.1 hb.2.2.2.1 hc hc2) (TxS_fr (fun o i a b => q2 o i (by omega)) h2) fun m3 q3 => ?_
      have hf := hQ m3 (qFr_tr (qFr_tell q2) (qFr_stk h q3))
      have e : rGo (lsOf D) r p c = ldHas D 2 (rWd r p (r (18 + p)) c) D.1.toNat := (rGo_t hv).trans (lsOf_b (by decide))
      rw [e] at hf
      refine ⟨?_, hf⟩
      split
      · exact Or.inr rfl
      · exact Or.inl rfl
theorem s_yBr {E : EN} (hE : Ep E) {k : Nat} {mem : Mm} {Q : Int → Mm → Prop} {y f c Y : Int} {r : Rw} {L : LW} (hy : isYd y) (hR : yR mem y r) (hL : yL mem y L) (hY : Y ≤ 5000) (hok : rOk Y r) (hf : 0 ≤ f) (hf2 : f < 6) (hc : 0 ≤ c) (hc2 : c < 32) (hQ : ∀ m2 : Mm, qFr y mem m2 → Q (if rBr L r f c then 1 else 0) m2) : CI E mX10_isBarred (k + 3) mem [aR y, aI f, aI c] Q := by
  refine eX10_isBarred ⟨by omega, by omega⟩ ⟨by omega, by omega⟩ (rX10_isBarred_0 hE hy ⟨fun e r5 _ => ?_, fun e => ?_⟩)
  · rcases hL with ⟨h, -⟩ | ⟨h, D, h2, rfl⟩
    · exact absurd h (by omega)
    have hsep := yd_tx hy h
    refine s_ytell hE hy hR (by omega) (by omega) r5 hc hc2 fun m2 q1 q2 => ?_
    have e9 : m2 y 9 = mem y 9 := q2 _ _ (by omega)
    rw [e9]
    refine ⟨h, ?_⟩
    refine s_tholds hE h (by decide) (yd9 hy) (by decide) (by omega) (fun i a b => q1 i a (by omega)) (rWd_ok hY hok (by omega) (by omega) hf hf2 hc hc2) (TxS_fr (fun o i a b => q2 o i (by omega)) h2) fun m3 q3 => ?_
    have hf := hQ m3 (qFr_tr (qFr_tell q2) (qFr_stk h q3))
    have e : rBr (lsOf D) r f c = ldHas D 3 (rWd r (-1) f c) D.1.toNat := lsOf_b (by decide)
    rw [e] at hf
    refine ⟨?_, hf⟩
    split
    · exact Or.inr rfl
    · exact Or.inl rfl
  · rcases hL with ⟨-, rfl⟩ | ⟨h, -⟩
    · exact hQ mem qFr_rf
    · have := tx_lt h
      omega
