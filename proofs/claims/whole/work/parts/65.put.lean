-- undo, put
theorem aTel_pos {m : Mm} {r : Int} (h : 0 ≤ r) : aTel m r = aUp m 603 1 0 := if_neg (by omega)
theorem m_undo1 {E : EN} (hE : Ep E) {k : Nat} {mem : Mm} {Q : Mm → Prop} {P : PS} (h0 : 0 < P.1) (h16 : P.1 ≤ 16) (hP : pM mem P) (hQ : ∀ m2 : Mm, (∀ o i, o ≠ 605 → ¬ (o = 603 ∧ i = 8) → m2 o i = mem o i) → m2 605 = P.2.1 (P.1 - 1) → m2 603 8 = P.1 - 1 → Q m2) : CV E mX12_putBack k (aUp mem 603 8 (P.1 - 1)) [aR 603, aI (P.1 - 1)] Q := by
  obtain ⟨a1, a2⟩ := hP
  obtain ⟨b1, b2⟩ := a2 (P.1 - 1) (by omega) (by omega)
  refine m_putb hE (by omega) (by omega) (hQ _ (fun o i u v => ?_) (funext fun i => ?_) ?_)
  · rw [if_neg (fun q => u q.1), aUp_at, if_neg v]
  · rw [← b1]
    unfold snR
    by_cases y : 3 ≤ i ∧ i < 80
    · rw [if_pos ⟨rfl, y⟩, if_pos y, aUp_rn (by decide)]
    · rw [if_neg (fun q => y q.2), if_neg y, aUp_rn (by decide)]
  · rw [if_neg (by omega), aUp_re]
theorem s_takeBack {E : EN} (hE : Ep E) {k : Nat} {mem : Mm} {Q : Int → Mm → Prop} {P : PS} {r : Rw} {L : LW} (hV : cV mem r P L) (hP : pOk P) (hQ0 : P.1 = 0 → Q (-3) mem) (hQ : 0 < P.1 → ∀ m2 : Mm, aFr mem m2 → m2 2 9 = mem 2 9 → (∀ i, m2 1 i = mem 1 i) → cV m2 (P.2.1 (P.1 - 1)) (P.1 - 1, P.2.1, P.2.2) L → Q (P.2.2 (P.1 - 1)) m2) : CI E mX6_takeBack (k + 2) mem [aR 12, aR 2] Q := by
  obtain ⟨v1, v2, v3⟩ := hV
  obtain ⟨a1, a2, a3, a4⟩ := v2
  have h0 := hP.1
  have h16 := hP.2.1
  refine eX6_takeBack (rX6_takeBack_0 hE (Or.inl rfl) isYd2 ⟨fun c => hQ0 (by omega), fun c => ⟨fun d => ?_, fun d => absurd d (by omega)⟩⟩)
  rw [a1]
  obtain ⟨b1, b2⟩ := a4 (P.1 - 1) (by omega) (by omega)
  have hy := a2 (P.1 - 1) (by omega) (by omega)
  have hyb := hy
  unfold isPy at hyb
  rw [show (12 : Int) + 1 = 13 from rfl]
  refine ⟨⟨by omega, by omega⟩, ⟨by omega, by omega⟩, s_ycopy hE isYd2 (py_yd hy) (by omega) (yR_fr b1 (aUp_rn (by omega)) fun o i u w => aUp_rn (by omega)) fun m3 c1 c2 c3 => ?_⟩
  have e12 : m3 12 2 = P.1 - 1 := (c1 12 2 (by omega)).trans aUp_re
  rw [e12, show (12 : Int) + 2 = 14 from rfl]
  have e14 : ∀ j, m3 14 j = mem 14 j := fun j => (c1 14 j (by omega)).trans (aUp_rn (by decide))
  have e13 : ∀ j, m3 13 j = mem 13 j := fun j => (c1 13 j (by omega)).trans (aUp_rn (by decide))
  have e9 : m3 2 9 = mem 2 9 := (c2 9 (by decide)).trans (aUp_rn (by decide))
  have ha : aFr mem m3 := fun o i u w x => (c1 o i (by omega)).trans (aUp_rn (by omega))
  rw [e14, b2]
  refine ⟨⟨by omega, by omega⟩, hQ (by omega) m3 ha e9 (fun i => (c1 1 i (by omega)).trans (aUp_rn (by decide))) ⟨c3, ⟨e12, fun j u w => by rw [e13]; exact a2 j u w, fun i j u w x y z => by rw [e13, e13] at z; exact a3 i j u w x y z, fun j u w => ?_⟩, yL_a ha e9 v3⟩⟩
  dsimp only at w
  obtain ⟨d1, d2⟩ := a4 j u (by omega)
  have hj := a2 j u (by omega)
  unfold isPy at hj
  rw [e13, e14]
  exact ⟨yR_fr d1 ((c1 _ _ (by omega)).trans (aUp_rn (by omega))) (fun o i x y => (c1 _ _ (by omega)).trans (aUp_rn (by omega))), d2⟩
theorem st_undo {E : EN} (hE : Ep E) : stI E 1199 (iAll jC) mX11_undo mX12_undo 0 := by
  intro t mem av ht hl hr hI
  obtain rfl := no_args hl
  obtain ⟨L, P, hV, hP, hok, hst, hrc, hrm⟩ := act_start hI ht
  have hb0 := hI.2.2.1.2.2.2.2.2.2.2.1
  have hb1 := hI.2.2.1.2.2.2.2.2.2.2.2
  refine eX11_undo (k := 1198) (rX11_undo_0 hE (s_takeBack (k := 1196) hE hV hP (fun h0 rr => s_ans (k := 1197) hE rr (by decide) (hrc mem _ (by decide) aFr_rf) ?_) (fun h0 mc ha h9 h1 hV2 rr => ?_)))
  · obtain ⟨hW, e43⟩ := hst mem (-3) aFr_rf
    have e8 : (aAns mem (-3)) 603 8 = 0 := by
      have := hW.2.1.1
      rw [aUp_ri (by decide), h0] at this
      exact this
    refine eX12_undo (k := 1198) (rX12_undo_0 hE ⟨fun c => absurd e8 c, fun _ => m_tel hE (by decide) (by decide) (hrm _ mem (-3) aFr_rf bFr_rf (by decide)) ⟨rfl, ?_⟩⟩)
    exact fin_act hI (by decide) aFr_rf rfl hV bFr_rf hW hok hP (fun _ _ => rfl) e43.symm hb0 hb1
  · obtain ⟨k1, k2, k3⟩ := hP.2.2 (P.1 - 1) (by omega) (by omega)
    have h16 := hP.2.1
    refine s_ans (k := 1197) hE rr (by omega) (hrc mc _ (by omega) ha) ?_
    obtain ⟨hW, e43⟩ := hst mc (P.2.2 (P.1 - 1)) ha
    have e8 : (aAns mc (P.2.2 (P.1 - 1))) 603 8 = P.1 := by
      have := hW.2.1.1
      rw [aUp_ri (by decide)] at this
      exact this
    refine eX12_undo (k := 1198) (rX12_undo_0 hE ⟨fun _ => ?_, fun c => absurd c (by rw [e8]; omega)⟩)
    rw [e8]
    refine ⟨⟨by omega, by omega⟩, fun _ => m_undo1 hE h0 h16 hW.2.1 fun mm d1 d2 d3 => ?_⟩
    have e9 : mm 609 (P.1 - 1) = P.2.2 (P.1 - 1) := (d1 609 _ (by decide) (by omega)).trans (hW.2.1.2 (P.1 - 1) (by omega) (by omega)).2
    have ho : ∀ i, i < 3 ∨ 80 ≤ i → P.2.1 (P.1 - 1) i = mem 605 i := fun i u => by
      have := congrFun (hW.2.1.2 (P.1 - 1) (by omega) (by omega)).1 i
      rw [← this]
      unfold snR
      rw [if_neg (by omega)]
      exact congrFun hW.1 i
    rw [d3, e9]
    have hb : bFr (aUp (aAns mc (P.2.2 (P.1 - 1))) 603 0 0) mm := fun o i a b c d e f g => d1 o i a (fun q => g ⟨q.1, Or.inl q.2⟩)
    refine ⟨⟨by omega, by omega⟩, fun rr2 => m_tel hE rr2 (by omega) (hrm mm mc _ ha hb (by omega)) ⟨rfl, ?_⟩⟩
    refine fin_act hI (by omega) ha h9 hV2 hb ⟨d2, ⟨d3, fun j u w => ?_⟩, mL_fr ?_ (fun i u => ?_) hW.2.2.1, (d1 603 20 (by decide) (by decide)).trans hW.2.2.2⟩ k1 ⟨by dsimp only; omega, by dsimp only; omega, fun j u w => hP.2.2 j u (by dsimp only at w; omega)⟩ (fun i u => ho i (by omega)) (by rw [h1, d1 603 43 (by decide) (by decide), e43]) (by rw [h1]; exact hb0) (by rw [h1]; exact hb1)
    · dsimp only at w ⊢
      obtain ⟨x1, x2⟩ := hW.2.1.2 j u (by omega)
      refine ⟨?_, (d1 609 j (by decide) (by omega)).trans x2⟩
      rw [← x1]
      funext i
      unfold snR
      by_cases y : 3 ≤ i ∧ i < 80
      · rw [if_pos y, if_pos y]; exact d1 608 _ (by decide) (by omega)
      · rw [if_neg y, if_neg y, d2, ho i (by omega)]; exact (congrFun hW.1 i).symm
    · rw [d2, ho 2 (by omega)]; exact (congrFun hW.1 2).symm
    · rw [d2, ho i (by omega)]; exact (congrFun hW.1 i).symm
/-- one fact of the ground -/
def rSet (r : Rw) (w c v : Int) : Rw := if w = 0 then rUp (rUp r (80 + c) v) (48 + c) (if v = 1 then r (48 + c) else 0) else if w = 1 then rUp r (112 + c) v else rUp r (48 + c) v
def rFac (r : Rw) (w c : Int) : Int := if w = 0 then r (80 + c) else if w = 1 then r (112 + c) else r (48 + c)
theorem rOk_gr {r r2 : Rw} (h : rOk 999 r) (ho : ∀ i, i < 48 → r2 i = r i) (hg : ∀ c, 0 ≤ c → c < 32 → 0 ≤ r2 (80 + c) ∧ r2 (80 + c) ≤ 3 ∧ 0 ≤ r2 (112 + c) ∧ r2 (112 + c) ≤ 99 ∧ 0 ≤ r2 (48 + c) ∧ r2 (48 + c) ≤ 1) : rOk 999 r2 := by
  obtain ⟨a1, a2, a3, a4, a5, a6, a7, a8, a9, a10, a11, a12, a13⟩ := h
  refine ⟨by rw [ho _ (by omega)]; exact a1, by rw [ho _ (by omega)]; exact a2, fun q a b => ?_, hg, by rw [ho _ (by omega)]; exact a5, by rw [ho _ (by omega)]; exact a6, by rw [ho _ (by omega)]; exact a7, by rw [ho _ (by omega)]; exact a8, by rw [ho _ (by omega)]; exact a9, by rw [ho _ (by omega)]; exact a10, by rw [ho _ (by omega)]; exact a11, by rw [ho _ (by omega)]; exact a12, fun q s a b d e f => ?_⟩
  · rw [ho (8 + q) (by omega), ho (18 + q) (by omega), ho (28 + q) (by omega), ho (38 + q) (by omega)]
    exact a3 q a b
  · rw [ho 7 (by omega)] at b e
    rw [ho (8 + q) (by omega), ho (8 + s) (by omega)] at f
    exact a13 q s a b d e f
theorem rSet_ok {r : Rw} {w c v : Int} (h : rOk 999 r) (hf : isFt w v) (h0 : 0 ≤ c) (h1 : c < 32) : rOk 999 (rSet r w c v) ∧ (∀ i, i < 48 ∨ 144 ≤ i → rSet r w c v i = r i) := by
  have g := h.2.2.2.1
  have hc := g c h0 h1
  unfold isFt at hf
  unfold rSet
  by_cases w0 : w = 0
  · rw [if_pos w0]
    refine ⟨rOk_gr h (fun i u => by rw [rUp_n (by omega), rUp_n (by omega)]) (fun d u z => ?_), fun i u => by rw [rUp_n (by omega), rUp_n (by omega)]⟩
    have gd := g d u z
    rw [rUp_n (i := 80 + d) (by omega), rUp_n (i := 112 + d) (by omega), rUp_n (i := 112 + d) (by omega)]
    by_cases e : d = c
    · rw [e, rUp_e, rUp_e]
      rw [e] at gd
      split <;> omega
    · rw [rUp_n (by omega), rUp_n (by omega), rUp_n (by omega)]; exact gd
  · rw [if_neg w0]
    by_cases w1 : w = 1
    · rw [if_pos w1]
      refine ⟨rOk_gr h (fun i u => by rw [rUp_n (by omega)]) (fun d u z => ?_), fun i u => by rw [rUp_n (by omega)]⟩
      have gd := g d u z
      rw [rUp_n (i := 80 + d) (by omega), rUp_n (i := 48 + d) (by omega)]
      by_cases e : d = c
      · rw [e, rUp_e]
        rw [e] at gd
        omega
      · rw [rUp_n (by omega)]; exact gd
    · rw [if_neg w1]
      refine ⟨rOk_gr h (fun i u => by rw [rUp_n (by omega)]) (fun d u z => ?_), fun i u => by rw [rUp_n (by omega)]⟩
      have gd := g d u z
      rw [rUp_n (i := 80 + d) (by omega), rUp_n (i := 112 + d) (by omega)]
      by_cases e : d = c
      · rw [e, rUp_e]
        rw [e] at gd
        omega
      · rw [rUp_n (by omega)]; exact gd
theorem s_fact2 {E : EN} (hE : Ep E) {k : Nat} {mem : Mm} {Q : Int → Mm → Prop} {r : Rw} {w c v : Int} (hR : yR mem 2 r) (hc : 0 ≤ c) (hc2 : c < 32) (hw : R32 w) (hf : isFt w v) (hQ : Q (rFac r w c) mem) : CI E mX10_fact k mem [aR 2, aI c, aI w] Q := by
  obtain ⟨g1, g2, g3⟩ := hR.2.1 c hc hc2
  unfold rFac at hQ
  unfold isFt at hf
  refine eX10_fact ⟨by omega, by omega⟩ hw (rX10_fact_0 hE isYd2 ⟨fun a => ⟨⟨hc, hc2⟩, ?_⟩, fun a => ⟨⟨hc, hc2⟩, ?_⟩, fun a => ⟨⟨hc, hc2⟩, ?_⟩, fun a => absurd a (by omega)⟩)
  · rw [if_pos a] at hQ; rw [g1]; exact hQ
  · rw [if_neg (by omega), if_pos a] at hQ; rw [g2]; exact hQ
  · rw [if_neg (by omega), if_neg (by omega)] at hQ; rw [g3]; exact hQ
theorem s_write2 {E : EN} (hE : Ep E) {k : Nat} {mem : Mm} {Q : Mm → Prop} {r : Rw} {w c v : Int} (hR : yR mem 2 r) (hc : 0 ≤ c) (hc2 : c < 32) (hw : R32 w) (hv : R32 v) (hf : isFt w v) (hQ : ∀ m2 : Mm, (∀ o i, o ≠ 3 → o ≠ 4 → o ≠ 5 → m2 o i = mem o i) → yR m2 2 (rSet r w c v) → Q m2) : CV E mX10_write k mem [aR 2, aI c, aI w, aI v] Q := by
  obtain ⟨a, b, d, e⟩ := hR
  obtain ⟨g1, g2, g3⟩ := b c hc hc2
  unfold rSet at hQ
  unfold isFt at hf
  refine eX10_write ⟨by omega, by omega⟩ hw hv (rX10_write_0 hE isYd2 ⟨fun w0 => ⟨fun w1 => ⟨⟨hc, hc2⟩, ?_⟩, fun w1 => ⟨⟨hc, hc2⟩, ?_⟩⟩, fun w0 => ⟨⟨hc, hc2⟩, fun v1 => ?_, fun v1 => ?_⟩⟩)
  · rw [if_neg w0, if_neg w1] at hQ
    refine hQ _ (fun o i u1 u2 u3 => aUp_rn (show o ≠ 2 + 3 from u3)) ⟨by rw [aUp_rn (by decide), rUp_n (by omega)]; exact a, fun i u z => ?_, fun i u z => ?_, fun i u z => ?_⟩
    · rw [aUp_rn (by decide), aUp_rn (by decide), rUp_n (i := 80 + i) (by omega), rUp_n (i := 112 + i) (by omega)]
      refine ⟨(b i u z).1, (b i u z).2.1, ?_⟩
      by_cases y : i = c
      · rw [y, aUp_re, rUp_e]
      · rw [aUp_ri y, rUp_n (by omega)]; exact (b i u z).2.2
    · rw [aUp_rn (by decide), aUp_rn (by decide), aUp_rn (by decide), aUp_rn (by decide), rUp_n (by omega), rUp_n (by omega), rUp_n (by omega), rUp_n (by omega)]; exact d i u z
    · rw [aUp_rn (by decide), rUp_n (by omega)]; exact e i u z
  · rw [if_neg w0, if_pos w1] at hQ
    refine hQ _ (fun o i u1 u2 u3 => aUp_rn (show o ≠ 2 + 2 from u2)) ⟨by rw [aUp_rn (by decide), rUp_n (by omega)]; exact a, fun i u z => ?_, fun i u z => ?_, fun i u z => ?_⟩
    · rw [aUp_rn (b := 2 + 1) (by decide), aUp_rn (b := 2 + 3) (by decide), rUp_n (i := 80 + i) (by omega), rUp_n (i := 48 + i) (by omega)]
      refine ⟨(b i u z).1, ?_, (b i u z).2.2⟩
      by_cases y : i = c
      · rw [y, aUp_re, rUp_e]
      · rw [aUp_ri y, rUp_n (by omega)]; exact (b i u z).2.1
    · rw [aUp_rn (by decide), aUp_rn (by decide), aUp_rn (by decide), aUp_rn (by decide), rUp_n (by omega), rUp_n (by omega), rUp_n (by omega), rUp_n (by omega)]; exact d i u z
    · rw [aUp_rn (by decide), rUp_n (by omega)]; exact e i u z
  all_goals
    rw [if_pos w0] at hQ
    first | rw [if_neg v1] at hQ | rw [if_pos v1, ← g3] at hQ
    refine hQ _ (fun o i u1 u2 u3 => by rw [aUp_rn (show o ≠ 2 + 3 from u3), aUp_rn (show o ≠ 2 + 1 from u1)]) ⟨by rw [aUp_rn (by decide), aUp_rn (by decide), rUp_n (by omega), rUp_n (by omega)]; exact a, fun i u z => ?_, fun i u z => ?_, fun i u z => ?_⟩
    · rw [aUp_rn (b := 2 + 1) (by decide), aUp_rn (b := 2 + 2) (by decide), aUp_rn (b := 2 + 2) (by decide), rUp_n (i := 80 + i) (by omega), rUp_n (i := 112 + i) (by omega), rUp_n (i := 112 + i) (by omega)]
      by_cases y : i = c
      · rw [y, aUp_re, rUp_e, aUp_re, rUp_e]
        exact ⟨rfl, g2, rfl⟩
      · rw [aUp_ri y, rUp_n (by omega), aUp_ri y, aUp_rn (by decide), rUp_n (by omega), rUp_n (by omega)]; exact b i u z
    · rw [aUp_rn (by decide), aUp_rn (by decide), aUp_rn (by decide), aUp_rn (by decide), aUp_rn (by decide), aUp_rn (by decide), aUp_rn (by decide), aUp_rn (by decide), rUp_n (by omega), rUp_n (by omega), rUp_n (by omega), rUp_n (by omega), rUp_n (by omega), rUp_n (by omega), rUp_n (by omega), rUp_n (by omega)]; exact d i u z
    · rw [aUp_rn (by decide), aUp_rn (by decide), rUp_n (by omega), rUp_n (by omega)]; exact e i u z
/-- may it be put -/
def rMay (r : Rw) (w c v : Int) : Prop := (w = 0 → v = 0 ∨ v = 2 ∨ rOc r c = false) ∧ (w = 2 → v = 0 ∨ r (80 + c) = 1)
theorem s_mayW {E : EN} (hE : Ep E) {k : Nat} {mem : Mm} {Q : Int → Mm → Prop} {r : Rw} {w c v : Int} (hR : yR mem 2 r) (h10 : r 7 ≤ 10) (hc : 0 ≤ c) (hc2 : c < 32) (hw : R32 w) (hv : R32 v) (h1 : rMay r w c v → Q 1 mem) (h0 : ¬ rMay r w c v → Q 0 mem) : CI E mX10_mayWrite (k + 1) mem [aR 2, aI c, aI w, aI v] Q := by
  have g1 : mem (2 + 1) c = r (80 + c) := (hR.2.1 c hc hc2).1
  unfold rMay at h1 h0
  refine eX10_mayWrite ⟨by omega, by omega⟩ hw hv (rX10_mayWrite_0 hE isYd2 ⟨fun w0 => ⟨fun w2 => h1 ⟨fun q => absurd q w0, fun q => absurd q w2⟩, fun w2 => ⟨fun v0 => h1 ⟨fun q => absurd q w0, fun _ => Or.inl v0⟩, fun v0 => ⟨⟨hc, hc2⟩, fun d => ?_, fun d => ?_⟩⟩⟩, fun w0 => ⟨fun v0 => h1 ⟨fun _ => Or.inl v0, fun q => absurd q (by omega)⟩, fun v0 => ⟨fun v2 => h1 ⟨fun _ => Or.inr (Or.inl v2), fun q => absurd q (by omega)⟩, fun v2 r2 => s_yIn hE isYd2 hR h10 r2 fun x hx => ⟨fun d => ?_, fun d => ?_⟩⟩⟩⟩)
  · rw [g1] at d
    exact h0 fun q => (q.2 w2).elim v0 d
  · rw [g1] at d
    exact h1 ⟨fun q => absurd q w0, fun _ => Or.inr d⟩
  · rcases hx with ⟨x1, -⟩ | ⟨-, -, x3⟩
    · exact absurd x1 d
    · refine h0 fun q => ?_
      rcases q.1 w0 with z | z | z
      · exact v0 z
      · exact v2 z
      · rw [z] at x3; cases x3
  · rcases hx with ⟨-, x2⟩ | ⟨x1, -, -⟩
    · exact h1 ⟨fun _ => Or.inr (Or.inr x2), fun q => absurd q (by omega)⟩
    · omega
