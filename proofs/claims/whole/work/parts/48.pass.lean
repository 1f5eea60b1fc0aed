-- a year on the model's side
theorem m_within {E : EN} (hE : Ep E) {k : Nat} {mem : Mm} {Q : Int → Mm → Prop} {v a b : Int} (hv : R64 v) (ha : R32 a) (hb : R32 b) (hab : a ≤ b) (hQ : Q (max a (min b v)) mem) : CI E mX12_within k mem [aL v, aI a, aI b] Q := by
  refine eX12_within hv ha hb (rX12_within_0 hE ⟨fun c => ⟨fun d => ?_, fun d => ?_⟩, fun c => ?_⟩)
  · rw [show max a (min b v) = v by omega] at hQ
    exact ⟨⟨by omega, by omega⟩, hQ⟩
  · rw [show max a (min b v) = b by omega] at hQ
    exact hQ
  · rw [show max a (min b v) = a by omega] at hQ
    exact hQ
theorem lsOf_le {D : LD} (hD : ldOk D) {h : Int} {w : Rw} (hw : wOk w) : (lsOf D).1 h w = bRK ∨ (-1000000000 ≤ (lsOf D).1 h w ∧ (lsOf D).1 h w ≤ 1000000000) := by
  unfold lsOf
  dsimp only
  split
  · have : ∀ n : Nat, (n : Int) ≤ D.1 → ldLast D h w n = bRK ∨ (-1000000000 ≤ ldLast D h w n ∧ ldLast D h w n ≤ 1000000000) := by
      intro n
      induction n with
      | zero => intro _; exact Or.inl rfl
      | succ n ih =>
        intro q
        unfold ldLast
        split
        · rename_i z
          exact ((hD.2.2 n (by omega) (by omega) w hw).2)
        · exact ih (by omega)
    exact this _ (by have := hD.1; omega)
  · split
    · exact Or.inr (by omega)
    · exact Or.inr (by omega)
theorem mL_le {m : Mm} {L : LW} (hL : mL m L) {h : Int} {w : Rw} (hw : wOk w) : L.1 h w = bRK ∨ (-1000000000 ≤ L.1 h w ∧ L.1 h w ≤ 1000000000) := by
  rcases hL with ⟨-, rfl⟩ | ⟨-, -, D, q, rfl⟩
  · unfold noLW
    dsimp only
    split
    · exact Or.inl rfl
    · exact Or.inr (by omega)
  · exact lsOf_le q.2.1 hw
theorem m_movesOf {E : EN} (hE : Ep E) {k : Nat} {mem : Mm} {Q : Int → Mm → Prop} {p Y : Int} {L : LW} (hb : mem 603 20 = 0) (hL : mL mem L) (hY : Y ≤ 5000) (hok : rOk Y (mem 605)) (hp : 0 ≤ p) (hp2 : p < 10) (hQ : ∀ m2 : Mm, gFr mem m2 → Q (rMv L (mem 605) p) m2) : CI E mX12_movesOf (k + 5) mem [aR 603, aI p] Q := by
  have hb2 := hok.2.2.1 p hp hp2
  have hwd := rWd_ok hY hok (by omega) hp2 hb2.2.2.1 hb2.2.2.2.1 hb2.1 hb2.2.1
  refine eX12_movesOf ⟨by omega, by omega⟩ (rX12_movesOf_0 hE ⟨⟨by omega, by omega⟩, ⟨by omega, by omega⟩, ⟨by omega, by omega⟩, ⟨by omega, by omega⟩, fun _ _ _ => ?_⟩)
  refine m_tells hE hb hL hY hok (by decide) (by decide) (by omega) hp2 hb2.2.2.1 hb2.2.2.2.1 hb2.1 hb2.2.1 (by decide) (fun q => absurd q (by decide)) fun m2 a r6 => m_within hE r6 (by decide) (by decide) (by decide) ?_
  have := hQ m2 a
  have e : max 0 (min 9 (tlS L 0 (rWd (mem 605) p (mem 605 (18 + p)) (mem 605 (8 + p))) 1)) = rMv L (mem 605) p := by
    unfold rMv tlS
    rw [if_pos (by decide)]
    split
    · decide
    · rfl
  rw [e]
  exact this
theorem m_digsOf {E : EN} (hE : Ep E) {k : Nat} {mem : Mm} {Q : Int → Mm → Prop} {p Y : Int} {L : LW} (hb : mem 603 20 = 0) (hL : mL mem L) (hY : Y ≤ 5000) (hok : rOk Y (mem 605)) (hp : 0 ≤ p) (hp2 : p < 10) (hQ : ∀ m2 : Mm, gFr mem m2 → Q (rDg L (mem 605) p) m2) : CI E mX12_digsOf (k + 5) mem [aR 603, aI p] Q := by
  have hb2 := hok.2.2.1 p hp hp2
  have hwd := rWd_ok hY hok (by omega) hp2 hb2.2.2.1 hb2.2.2.2.1 hb2.1 hb2.2.1
  have e : ∀ u, u = (if mem 605 (28 + p) = 1 then 2 else 4) → max 1 (min 99 (tlS L 1 (rWd (mem 605) p (mem 605 (18 + p)) (mem 605 (8 + p))) u)) = rDg L (mem 605) p := by
    intro u hu
    unfold rDg tlS
    rw [if_pos (by decide)]
    split
    · rw [hu]
      split <;> decide
    · rfl
  refine eX12_digsOf ⟨by omega, by omega⟩ (rX12_digsOf_0 hE ⟨⟨by omega, by omega⟩, ⟨by omega, by omega⟩, ⟨by omega, by omega⟩, ⟨by omega, by omega⟩, ⟨by omega, by omega⟩, ⟨by omega, by omega⟩, fun c _ _ _ => ?_, fun c _ _ _ => ?_⟩)
  · refine m_tells hE hb hL hY hok (by decide) (by decide) (by omega) hp2 hb2.2.2.1 hb2.2.2.2.1 hb2.1 hb2.2.1 (by decide) (fun q => absurd q (by decide)) fun m2 a r6 => m_within hE r6 (by decide) (by decide) (by decide) ?_
    rw [e 4 (by rw [if_neg c])]
    exact hQ m2 a
  · refine m_tells hE hb hL hY hok (by decide) (by decide) (by omega) hp2 hb2.2.2.1 hb2.2.2.2.1 hb2.1 hb2.2.1 (by decide) (fun q => absurd q (by decide)) fun m2 a r6 => m_within hE r6 (by decide) (by decide) (by decide) ?_
    rw [e 2 (by rw [if_pos c])]
    exact hQ m2 a
theorem m_tG_l {E : EN} (hE : Ep E) {k : Nat} {mem : Mm} {Q : Int → Mm → Prop} {f : Int} {D : LD} (h2 : mem 605 2 = f) (hf : 0 ≤ f) (hf2 : f < 6) (hS : slotS (mem 605) (170 + 900 * f) D) (hQ : Q (if ldVb D 2 D.1.toNat then 1 else 0) mem) : ∀ (d j : Nat) (x : Int), (j : Int) ≤ D.1 → D.1.toNat = j + d → x = (if ldVb D 2 j then 1 else 0) → VM E mX12_tellsGoing k mem 4 [(0, aR 603), (1, aI x), (2, aI j)] [] (retI Q) := by
  have hn := hS.2.1.2.1
  have e1 : mem 605 (170 + 900 * f + 1) = D.1 := hS.1
  intro d
  induction d with
  | zero =>
    intro j x q1 q2 q3
    have e : D.1.toNat = j := by omega
    rw [e, ← q3] at hQ
    refine rX12_tellsGoing_4 hE ⟨fun c => absurd c (by omega), fun _ => ?_⟩
    rw [h2]
    refine ⟨⟨by omega, by omega⟩, ⟨by omega, by omega⟩, ⟨by omega, by omega⟩, ⟨by omega, by omega⟩, fun _ => ⟨by rw [q3]; split; exact Or.inr rfl; exact Or.inl rfl, hQ⟩, fun c => absurd c (by omega)⟩
  | succ d ih =>
    intro j x q1 q2 q3
    obtain ⟨s1, -, -⟩ := hS.2.2 j (by omega) (by omega)
    have ev : ldVb D 2 (j + 1) = (ldVb D 2 j || D.2.1 j == 2) := rfl
    refine rX12_tellsGoing_4 hE ⟨fun c => absurd c (by omega), fun _ => ?_⟩
    rw [h2]
    refine ⟨⟨by omega, by omega⟩, ⟨by omega, by omega⟩, ⟨by omega, by omega⟩, ⟨by omega, by omega⟩, fun c => absurd c (by omega), fun _ => ⟨fun c => ⟨⟨by omega, by omega⟩, ih (j + 1) _ (by omega) (by omega) ?_⟩, fun c => ⟨⟨by omega, by omega⟩, ⟨by omega, by omega⟩, ⟨by omega, by omega⟩, ⟨by omega, by omega⟩, fun d2 => ⟨⟨by omega, by omega⟩, ih (j + 1) _ (by omega) (by omega) ?_⟩, fun d2 => ⟨⟨by omega, by omega⟩, ih (j + 1) _ (by omega) (by omega) ?_⟩⟩⟩⟩
    · rw [ev]
      cases z : ldVb D 2 j with
      | true => rfl
      | false => rw [z] at q3; exact absurd q3 c
    · rw [s1] at d2
      rw [ev]
      cases z : ldVb D 2 j with
      | true => rw [z] at q3; rw [q3] at c; exact absurd c (by decide)
      | false => simp [d2]
    · rw [s1] at d2
      rw [ev]
      simp [d2]
theorem m_tG {E : EN} (hE : Ep E) {k : Nat} {mem : Mm} {Q : Int → Mm → Prop} {L : LW} (hL : mL mem L) (hQ : Q (if L.2 then 1 else 0) mem) : CI E mX12_tellsGoing k mem [aR 603] Q := by
  refine eX12_tellsGoing (rX12_tellsGoing_0 hE ?_)
  rcases hL with ⟨q, rfl⟩ | ⟨q1, q2, D, q3, rfl⟩
  · exact rX12_tellsGoing_4 hE ⟨fun _ => ⟨Or.inl rfl, hQ⟩, fun c => absurd q c⟩
  · exact m_tG_l hE rfl q1 q2 q3 hQ D.1.toNat 0 0 (by have := q3.2.1.1; omega) (by omega) rfl
theorem m_canGo {E : EN} (hE : Ep E) {k : Nat} {mem : Mm} {Q : Int → Mm → Prop} {p c Y : Int} {L : LW} (hb : mem 603 20 = 0) (hL : mL mem L) (hY : Y ≤ 5000) (hok : rOk Y (mem 605)) (hp : 0 ≤ p) (hp2 : p < 10) (hc : 0 ≤ c) (hc2 : c < 32) (hQ : ∀ m2 : Mm, gFr mem m2 → Q (if rGo L (mem 605) p c then 1 else 0) m2) : CI E mX12_canGo (k + 5) mem [aR 603, aI p, aI c] Q := by
  have hb2 := hok.2.2.1 p hp hp2
  have hg := hok.2.2.2.1 c hc hc2
  refine eX12_canGo ⟨by omega, by omega⟩ ⟨by omega, by omega⟩ (rX12_canGo_0 hE (m_tG hE hL ⟨fun z => ?_, fun z => ?_⟩))
  · have hv : L.2 = false := by
      cases q : L.2 with
      | false => rfl
      | true => rw [q] at z; exact absurd z (by decide)
    have h := hQ mem gFr_rf
    rw [rGo_f hv] at h
    refine ⟨⟨by omega, by omega⟩, ⟨by omega, by omega⟩, fun a => ?_, fun a => ⟨fun b => ?_, fun b => ⟨fun d => ?_, fun d => ⟨⟨by omega, by omega⟩, ⟨by omega, by omega⟩, fun e => ?_, fun e => ?_⟩⟩⟩⟩
    · rw [a] at h; exact h
    · rw [b] at h; exact h
    · rw [show mem 605 (80 + c) = 3 by omega] at h; exact h
    · rw [d, if_pos rfl, show (mem 605 (48 + c) == 1) = false by simp [e]] at h; exact h
    · rw [d, if_pos rfl, e] at h; exact h
  · have hv : L.2 = true := by
      cases q : L.2 with
      | true => rfl
      | false => rw [q] at z; exact absurd rfl z
    refine ⟨⟨by omega, by omega⟩, ⟨by omega, by omega⟩, fun _ _ _ => m_tells hE hb hL hY hok (by decide) (by decide) (by omega) hp2 hb2.2.2.1 hb2.2.2.2.1 hc hc2 (by decide) (fun _ => rfl) fun m2 a => ?_⟩
    have h := hQ m2 a
    rw [rGo_t hv] at h
    have e : tlS L 2 (rWd (mem 605) p (mem 605 (18 + p)) c) 0 = if L.1 2 (rWd (mem 605) p (mem 605 (18 + p)) c) = 1 then 1 else 0 := by
      unfold tlS
      rw [if_neg (by decide)]
    rw [e]
    by_cases q : L.1 2 (rWd (mem 605) p (mem 605 (18 + p)) c) = 1
    · rw [if_pos q]
      rw [q] at h
      exact ⟨fun u => absurd rfl u, fun _ => h⟩
    · rw [if_neg q]
      rw [show (L.1 2 (rWd (mem 605) p (mem 605 (18 + p)) c) == 1) = false by simp [q]] at h
      exact ⟨fun _ => h, fun u => absurd u (by decide)⟩
theorem m_isBarred {E : EN} (hE : Ep E) {k : Nat} {mem : Mm} {Q : Int → Mm → Prop} {f c Y : Int} {L : LW} (hb : mem 603 20 = 0) (hL : mL mem L) (hY : Y ≤ 5000) (hok : rOk Y (mem 605)) (hf : 0 ≤ f) (hf2 : f < 6) (hc : 0 ≤ c) (hc2 : c < 32) (hQ : ∀ m2 : Mm, gFr mem m2 → Q (if rBr L (mem 605) f c then 1 else 0) m2) : CI E mX12_isBarred (k + 5) mem [aR 603, aI f, aI c] Q := by
  refine eX12_isBarred ⟨by omega, by omega⟩ ⟨by omega, by omega⟩ (rX12_isBarred_0 hE fun _ _ => m_tells hE hb hL hY hok (by decide) (by decide) (by decide) (by decide) hf hf2 hc hc2 (by decide) (fun _ => rfl) fun m2 a => ?_)
  have h := hQ m2 a
  unfold rBr at h
  have e : tlS L 3 (rWd (mem 605) (-1) f c) 0 = if L.1 3 (rWd (mem 605) (-1) f c) = 1 then 1 else 0 := by
    unfold tlS
    rw [if_neg (by decide)]
  rw [e]
  by_cases q : L.1 3 (rWd (mem 605) (-1) f c) = 1
  · rw [if_pos q]
    rw [q] at h
    exact ⟨fun u => absurd rfl u, fun _ => h⟩
  · rw [if_neg q]
    rw [show (L.1 3 (rWd (mem 605) (-1) f c) == 1) = false by simp [q]] at h
    exact ⟨fun _ => h, fun u => absurd u (by decide)⟩
theorem m_yIn {E : EN} (hE : Ep E) {k : Nat} {mem : Mm} {Q : Int → Mm → Prop} {c : Int} (h0 : 0 ≤ mem 605 7) (h10 : mem 605 7 ≤ 10) (hc : R32 c) (hQ : ∀ x, (x = -1 ∧ rOc (mem 605) c = false) ∨ (0 ≤ x ∧ x < mem 605 7 ∧ rOc (mem 605) c = true) → Q x mem) : CI E mX12_plotIn k mem [aR 603, aI c] Q :=
  m_plotIn hE hc h0 h10 fun x hx => hQ x (isPl_oc rfl (fun _ _ _ => rfl) hx)
theorem m_canLie {E : EN} (hE : Ep E) {k : Nat} {mem : Mm} {Q : Int → Mm → Prop} {f c Y : Int} {L : LW} (hb : mem 603 20 = 0) (hL : mL mem L) (hY : Y ≤ 5000) (hok : rOk Y (mem 605)) (hf : 0 ≤ f) (hf2 : f < 6) (hc : 0 ≤ c) (hc2 : c < 32) (hQ : ∀ m2 : Mm, gFr mem m2 → Q (if rLi L (mem 605) f c then 1 else 0) m2) : CI E mX12_canLie (k + 6) mem [aR 603, aI f, aI c] Q := by
  have hr : R32 c := ⟨by omega, by omega⟩
  unfold rLi rFr at hQ
  refine eX12_canLie ⟨by omega, by omega⟩ hr (rX12_canLie_0 hE ⟨⟨by omega, by omega⟩, ⟨by omega, by omega⟩, fun a => ?_, fun a _ => m_yIn hE hok.1 hok.2.1 hr fun x hx => ⟨fun b => ?_, fun b _ _ => m_isBarred hE hb hL hY hok hf hf2 hc hc2 fun m2 q => ?_⟩⟩)
  · have h := hQ mem gFr_rf
    simp [a] at h
    exact h
  · have h := hQ mem gFr_rf
    rcases hx with ⟨h1, h2⟩ | ⟨h1, h2, h3⟩
    · exact absurd h1 b
    · simp [h3] at h
      exact h
  · have h := hQ m2 q
    rcases hx with ⟨h1, h2⟩ | ⟨h1, h2, h3⟩
    · rw [a, h2] at h
      cases z : rBr L (mem 605) f c with
      | false => rw [z] at h; exact ⟨fun u => absurd rfl u, fun _ => h⟩
      | true => rw [z] at h; exact ⟨fun _ => h, fun u => absurd u (by decide)⟩
    · omega
def pFr (m m2 : Mm) : Prop := ∀ o i, o ≠ 605 → o ≠ 621 → o ≠ 623 → o ≠ 624 → ¬ (o = 603 ∧ (i = 34 ∨ i = 38 ∨ i = 39 ∨ i = 40 ∨ i = 42)) → m2 o i = m o i
theorem pFr_rf {m : Mm} : pFr m m := fun _ _ _ _ _ _ _ => rfl
theorem pFr_tr {m m2 m3 : Mm} (h : pFr m m2) (h2 : pFr m2 m3) : pFr m m3 := fun o i a b c d e => (h2 o i a b c d e).trans (h o i a b c d e)
theorem pFr_g {m m2 : Mm} (h : gFr m m2) : pFr m m2 := fun o i _ b c _ e => h o i b c fun q => e ⟨q.1, by omega⟩
theorem pFr_605 {m : Mm} {j v : Int} : pFr m (aUp m 605 j v) := fun _ _ a _ _ _ _ => aUp_rn a
theorem pFr_624 {m : Mm} {j v : Int} : pFr m (aUp m 624 j v) := fun _ _ _ _ _ a _ => aUp_rn a
theorem pFr_42 {m : Mm} {v : Int} : pFr m (aUp m 603 42 v) := fun o i _ _ _ _ e => if_neg fun q => e ⟨q.1, by omega⟩
theorem gFr_605 {m m2 : Mm} (h : gFr m m2) : m2 605 = m 605 := funext fun i => h 605 i (by decide) (by decide) (fun q => absurd q.1 (by decide))
/-- a row that a year's steps have changed: law and its slots as ever -/
theorem mL_cl {m m2 : Mm} {L : LW} (hL : mL m L) (h : rCl (m 605) (m2 605)) : mL m2 L := mL_fr (h 2 (by omega)) (fun i a => h i (by omega)) hL
theorem m_move_l {E : EN} (hE : Ep E) {k : Nat} {m0 : Mm} {Q : Mm → Prop} {p M Y g0 : Int} {L : LW} (hb : m0 603 20 = 0) (hL : mL m0 L) (hY : Y ≤ 5000) (hp : 0 ≤ p) (hp2 : p < 10) (hM : M ≤ 9) : ∀ (n : Nat) (mem : Mm) (s : R3), pFr m0 mem → rCl (m0 605) (mem 605) → (∀ i, i ≠ p → mem 624 i = m0 624 i) → mem 605 = s.1 → mem 603 42 = s.2.2 → rOk Y s.1 → mem 624 p = s.2.1 - g0 → 0 ≤ s.2.1 - g0 → M - (s.2.1 - g0) = n → 0 ≤ s.2.2 → s.2.2 ≤ 1000 →
    (∀ m2 : Mm, pFr m0 m2 → rCl (m0 605) (m2 605) → (∀ i, i ≠ p → m2 624 i = m0 624 i) → m2 605 = (rWk L p n s).1 → m2 603 42 = (rWk L p n s).2.2 → m2 624 p = (rWk L p n s).2.1 - g0 → Q m2) → VM E mX12_move (k + 6) mem 15 [(0, aR 603), (1, aI p), (2, aI M), (3, aI 1)] [] (retV Q) := by
  intro n
  induction n with
  | zero =>
    intro mem s q1 q2 q3 q4 q5 q6 q7 q8 q9 w0 w1 hQ
    have hend : (R32 ((mem 603 42) + 0)) ∧ Q (aUp mem 603 42 ((mem 603 42) + 0)) := by
      refine ⟨by rw [q5]; exact ⟨by omega, by omega⟩, hQ _ (pFr_tr q1 pFr_42) (fun i a => (aUp_rn (by decide)).trans (q2 i a)) (fun i a => (aUp_rn (by decide)).trans (q3 i a)) ?_ ?_ ?_⟩
      · rw [aUp_ne (by decide)]; exact q4
      · rw [aUp_re, q5]; exact Int.add_zero _
      · rw [aUp_rn (by decide)]; exact q7
    refine rX12_move_15 hE ⟨fun c => absurd c (by decide), fun _ => ⟨⟨hp, hp2⟩, fun _ => ⟨fun _ => hend, fun c => absurd c (by omega)⟩, fun c => absurd c (by omega)⟩⟩
  | succ n ih =>
    intro mem s q1 q2 q3 q4 q5 q6 q7 q8 q9 w0 w1 hQ
    have hbd := q6.2.2.1 p hp hp2
    obtain ⟨t0, t1, -⟩ := tmod32 hbd.1 hbd.2.1
    have hL2 : mL mem L := mL_cl hL q2
    have hb2 : mem 603 20 = 0 := (q1 603 20 (by decide) (by decide) (by decide) (by decide) (by decide)).trans hb
    have hok2 : rOk Y (mem 605) := by rw [q4]; exact q6
    rw [show rWk L p (n + 1) s = (if rOc s.1 ((s.1 (8 + p) + 1).tmod 32) || !rGo L s.1 p ((s.1 (8 + p) + 1).tmod 32) then (s.1, s.2.1, s.2.2 + 1) else rWk L p n (rUp s.1 (8 + p) ((s.1 (8 + p) + 1).tmod 32), s.2.1 + 1, s.2.2)) from rfl] at hQ
    have blk : ∀ m4 : Mm, gFr mem m4 → (rOc s.1 ((s.1 (8 + p) + 1).tmod 32) || !rGo L s.1 p ((s.1 (8 + p) + 1).tmod 32)) = true → VM E mX12_move (k + 6) m4 15 [(0, aR 603), (1, aI p), (2, aI M), (3, aI 0)] [] (retV Q) := by
      intro m4 z1 z2
      rw [if_pos z2] at hQ
      have e42 : m4 603 42 = s.2.2 := (z1 603 42 (by decide) (by decide) (by decide)).trans q5
      have e624 : ∀ i, m4 624 i = mem 624 i := fun i => z1 624 i (by decide) (by decide) (fun q => absurd q.1 (by decide))
      have e605 := gFr_605 z1
      refine rX12_move_15 hE ⟨fun _ => ⟨⟨hp, hp2⟩, fun c => ?_, fun _ => ⟨by rw [e42]; exact ⟨by omega, by omega⟩, hQ _ (pFr_tr q1 (pFr_tr (pFr_g z1) pFr_42)) (fun i a => (aUp_rn (by decide)).trans (by rw [e605]; exact q2 i a)) (fun i a => (aUp_rn (by decide)).trans ((e624 i).trans (q3 i a))) ?_ ?_ ?_⟩⟩, fun c => absurd rfl c⟩
      · rw [e624, q7] at c
        omega
      · rw [aUp_ne (by decide), e605]; exact q4
      · rw [aUp_re, e42]
      · rw [aUp_rn (by decide), e624]; exact q7
    refine rX12_move_15 hE ⟨fun c => absurd c (by decide), fun _ => ⟨⟨hp, hp2⟩, fun c => absurd c (by omega), fun _ => ⟨⟨by omega, by omega⟩, ⟨by omega, by omega⟩, ?_, ?_⟩⟩⟩
    · rw [q4]; exact ⟨by omega, by omega⟩
    · intro hr
      refine m_yIn hE hok2.1 hok2.2.1 hr fun x hx => ?_
      rw [q4] at hx ⊢
      refine ⟨fun c => ?_, fun c _ _ => ?_⟩
      · rcases hx with ⟨a, b⟩ | ⟨a, b, d⟩
        · exact absurd a c
        · exact blk mem gFr_rf (by rw [d]; rfl)
      · rcases hx with ⟨-, b⟩ | ⟨a, -, -⟩
        · refine m_canGo hE hb2 hL2 hY hok2 hp hp2 t0 t1 fun m4 z1 => ?_
          rw [q4]
          have e605 := gFr_605 z1
          have e624 : ∀ i, m4 624 i = mem 624 i := fun i => z1 624 i (by decide) (by decide) (fun q => absurd q.1 (by decide))
          refine ⟨fun g => ?_, fun g => ?_⟩
          · have hg : rGo L s.1 p ((s.1 (8 + p) + 1).tmod 32) = false := by
              revert g
              cases rGo L s.1 p ((s.1 (8 + p) + 1).tmod 32) <;> simp
            exact blk m4 z1 (by rw [hg, b]; rfl)
          · have hg : rGo L s.1 p ((s.1 (8 + p) + 1).tmod 32) = true := by
              revert g
              cases rGo L s.1 p ((s.1 (8 + p) + 1).tmod 32) <;> simp
            rw [b, hg] at hQ
            simp only [Bool.not_true, Bool.or_false] at hQ
            rw [if_neg (by decide)] at hQ
            rw [e624, q7]
            refine ⟨⟨by omega, by omega⟩, ih _ (rUp s.1 (8 + p) ((s.1 (8 + p) + 1).tmod 32), s.2.1 + 1, s.2.2) ?_ ?_ ?_ ?_ ?_ (rOk_step q6 hp hp2 t0 t1 b) ?_ (by dsimp only; omega) (by dsimp only; omega) w0 w1 hQ⟩
            · exact pFr_tr q1 (pFr_tr (pFr_g z1) (pFr_tr pFr_605 pFr_624))
            · intro i a
              rw [aUp_rn (by decide), aUp_ri (by omega), e605]
              exact q2 i a
            · intro i a
              rw [aUp_ri a, aUp_rn (by decide), e624]
              exact q3 i a
            · rw [aUp_ne (by decide), aUp_rUp, e605, q4]
            · rw [aUp_rn (by decide), aUp_rn (by decide)]
              exact (z1 603 42 (by decide) (by decide) (by decide)).trans q5
            · rw [aUp_re]
              dsimp only
              omega
        · omega
/-- how far each plot went -/
def gnR (r r2 : Rw) (g : Int → Int) (n : Int) : Prop := ∀ p, 0 ≤ p → p < n → (r2 (8 + p) - r (8 + p)) % 32 = g p ∧ 0 ≤ g p ∧ g p ≤ 9
theorem rWk_gn {Y : Int} {L : LW} {p : Int} (hp : 0 ≤ p) (hp2 : p < 10) : ∀ (n : Nat) (s : R3), rOk Y s.1 → ((rWk L p n s).1 (8 + p) - s.1 (8 + p)) % 32 = ((rWk L p n s).2.1 - s.2.1) % 32 := by
  intro n
  induction n with
  | zero => intro s _; unfold rWk; omega
  | succ n ih =>
    intro s h
    obtain ⟨a, b, c⟩ := tmod32 (h.2.2.1 p hp hp2).1 (h.2.2.1 p hp hp2).2.1
    unfold rWk
    split
    · dsimp only; omega
    · rename_i q
      have hf : rOc s.1 ((s.1 (8 + p) + 1).tmod 32) = false := by
        revert q
        cases rOc s.1 ((s.1 (8 + p) + 1).tmod 32) <;> simp
      have := ih (rUp s.1 (8 + p) ((s.1 (8 + p) + 1).tmod 32), s.2.1 + 1, s.2.2) (rOk_step h hp hp2 a b hf)
      dsimp only at this
      rw [rUp_e] at this
      omega
theorem rWk_oth {L : LW} {p q : Int} (hq : q ≠ p) : ∀ (n : Nat) (s : R3), (rWk L p n s).1 (8 + q) = s.1 (8 + q) := by
  intro n
  induction n with
  | zero => intro s; rfl
  | succ n ih =>
    intro s
    unfold rWk
    split
    · rfl
    · rw [ih]; exact rUp_n (by omega)
theorem rPs_oth {L : LW} {q : Int} : ∀ (n : Nat) (p : Int) (s : R3), q < p → (rPs L n p s).1 (8 + q) = s.1 (8 + q) := by
  intro n
  induction n with
  | zero => intro p s _; rfl
  | succ n ih =>
    intro p s h
    show (rPs L n (p + 1) _).1 (8 + q) = _
    rw [ih _ _ (by omega), rWk_oth (by omega)]
theorem m_age_l {E : EN} (hE : Ep E) {k : Nat} {m0 : Mm} {Q : Mm → Prop} {Y : Int} (hY : Y ≤ 5000) (hok : rOk Y (m0 605)) (hQ : Q (fun o i => if o = 605 then rAg (m0 605) i else m0 o i)) : ∀ (n : Nat) (mem : Mm) (x : Int), 0 ≤ x → x + n = m0 605 7 → (mem = fun o i => if o = 605 ∧ 38 ≤ i ∧ i < 38 + x then min 999 (m0 605 i + 1) else m0 o i) → VM E mX12_age (k + 1) mem 2 [(0, aR 603), (1, aI x)] [] (retV Q) := by
  obtain ⟨o1, o2, o3, o4, o5, o6, -⟩ := hok
  intro n
  induction n with
  | zero =>
    intro mem x h0 h1 h2
    have e7 : mem 605 7 = m0 605 7 := by rw [h2]; exact if_neg (by omega)
    have e3 : mem 605 3 = m0 605 3 := by rw [h2]; exact if_neg (by omega)
    refine rX12_age_2 hE ⟨fun _ => ⟨by rw [e3]; exact ⟨by omega, by omega⟩, ?_⟩, fun c => absurd c (by omega)⟩
    have e : aUp mem 605 3 (mem 605 3 + 1) = fun o i => if o = 605 then rAg (m0 605) i else m0 o i := by
      funext o i
      rw [aUp_at, e3, h2]
      dsimp only
      unfold rAg
      by_cases a : o = 605
      · subst a
        simp only [true_and, if_true]
        by_cases b : i = 3
        · rw [if_pos b, if_neg (by omega), if_pos b]
        · rw [if_neg b, if_neg b]
          by_cases c : 38 ≤ i ∧ i < 38 + x
          · rw [if_pos c, if_pos (by omega)]
          · rw [if_neg c, if_neg (by omega)]
      · rw [if_neg (fun q => a q.1), if_neg (fun q => a q.1), if_neg a]
    rw [e]
    exact hQ
  | succ n ih =>
    intro mem x h0 h1 h2
    have e7 : mem 605 7 = m0 605 7 := by rw [h2]; exact if_neg (by omega)
    have ex : mem 605 (38 + x) = m0 605 (38 + x) := by rw [h2]; exact if_neg (by omega)
    have g := o3 x h0 (by omega)
    refine rX12_age_2 hE ⟨fun c => absurd c (by omega), fun _ => ⟨⟨by omega, by omega⟩, ⟨by omega, by omega⟩, by rw [ex]; exact ⟨by omega, by omega⟩, fun r => m_within hE r (by decide) (by decide) (by decide) ⟨⟨by omega, by omega⟩, ih _ (x + 1) (by omega) (by omega) ?_⟩⟩⟩
    funext o i
    rw [aUp_at, ex, h2]
    dsimp only
    by_cases a : o = 605
    · subst a
      simp only [true_and]
      by_cases b : i = 38 + x
      · rw [if_pos b, if_pos (by omega), b]
        omega
      · rw [if_neg b]
        by_cases c : 38 ≤ i ∧ i < 38 + x
        · rw [if_pos c, if_pos (by omega)]
        · rw [if_neg c, if_neg (by omega)]
    · rw [if_neg (fun q => a q.1), if_neg (fun q => a q.1), if_neg (fun q => a q.1)]
theorem m_age {E : EN} (hE : Ep E) {k : Nat} {mem : Mm} {Q : Mm → Prop} {Y : Int} (hY : Y ≤ 5000) (hok : rOk Y (mem 605)) (hQ : Q (fun o i => if o = 605 then rAg (mem 605) i else mem o i)) : CV E mX12_age (k + 1) mem [aR 603] Q :=
  eX12_age (rX12_age_0 hE (m_age_l hE hY hok hQ (mem 605 7).toNat mem 0 (by omega) (by have := hok.1; omega) (by funext o i; rw [if_neg (by omega)])))
theorem m_pass_l {E : EN} (hE : Ep E) {k : Nat} {m0 : Mm} {Q : Int → Mm → Prop} {Y : Int} {L : LW} (hb : m0 603 20 = 0) (hL : mL m0 L) (hY : Y ≤ 5000) : ∀ (n : Nat) (mem : Mm) (s : R3) (p : Int), pFr m0 mem → rCl (m0 605) (mem 605) → mem 605 = s.1 → mem 603 42 = s.2.2 → rOk Y s.1 → 0 ≤ p → p + n = s.1 7 → 0 ≤ s.2.1 → s.2.1 ≤ 10 * p → 0 ≤ s.2.2 → s.2.2 ≤ 10 * p → gnR (m0 605) (mem 605) (mem 624) p → (∀ q, p ≤ q → mem 605 (8 + q) = m0 605 (8 + q)) →
    (∀ m2 : Mm, pFr m0 m2 → m2 605 = rAg (rPs L n p s).1 → m2 603 42 = (rPs L n p s).2.2 → gnR (m0 605) (rPs L n p s).1 (m2 624) (s.1 7) → Q (rPs L n p s).2.1 m2) → VM E mX12_passIt (k + 7) mem 9 [(0, aR 603), (1, aI s.2.1), (2, aI p)] [] (retI Q) := by
  intro n
  induction n with
  | zero =>
    intro mem s p q1 q2 q3 q4 q5 hp h v0 v1 w0 w1 hg ho hQ
    have hok2 : rOk Y (mem 605) := by rw [q3]; exact q5
    refine rX12_passIt_9 hE ⟨fun _ => m_age hE hY hok2 (hQ _ (pFr_tr q1 fun o i a _ _ _ _ => if_neg a) ?_ ?_ ?_), fun c => ?_⟩
    · funext i
      rw [if_pos rfl, q3]
      rfl
    · rw [if_neg (by decide)]; exact q4
    · have e : p = s.1 7 := by omega
      rw [← e]
      rw [q3] at hg
      intro q a b
      obtain ⟨c, d⟩ := hg q a b
      exact ⟨c.trans (if_neg (by decide)).symm, by dsimp only; rw [if_neg (by decide)]; exact d⟩
    · rw [q3] at c
      omega
  | succ n ih =>
    intro mem s p q1 q2 q3 q4 q5 hp h v0 v1 w0 w1 hg ho hQ
    have hok2 : rOk Y (mem 605) := by rw [q3]; exact q5
    have h10 := q5.2.1
    have hL2 : mL mem L := mL_cl hL q2
    have hb2 : mem 603 20 = 0 := (q1 603 20 (by decide) (by decide) (by decide) (by decide) (by decide)).trans hb
    have hm := rMv_le (L := L) (r := s.1) (p := p)
    have hw := rWk_mv (L := L) (p := p) (rMv L s.1 p).toNat s
    have hwk := rWk_gn (Y := Y) (L := L) hp (by omega) (rMv L s.1 p).toNat s q5
    have hcl := rWk_cl (L := L) hp (show p < 10 by omega) (rMv L s.1 p).toNat s
    refine rX12_passIt_9 hE ⟨fun c => absurd c (by rw [q3]; omega), fun _ r2 => eX12_move r2 (rX12_move_0 hE fun _ => m_movesOf hE hb2 hL2 hY hok2 hp (by omega) fun m1 z1 => ⟨⟨hp, by omega⟩, ?_⟩)⟩
    rw [q3]
    have e605 := gFr_605 z1
    have e624 : ∀ i, m1 624 i = mem 624 i := fun i => z1 624 i (by decide) (by decide) (fun q => absurd q.1 (by decide))
    refine m_move_l hE (m0 := aUp m1 624 p 0) (g0 := s.2.1) (Y := Y) (L := L) ?_ ?_ hY hp (by omega) hm.2 (rMv L s.1 p).toNat _ s pFr_rf (fun _ _ => rfl) (fun _ _ => rfl) ?_ ?_ q5 ?_ (by omega) (by omega) w0 (by omega) fun m2 y1 y2 y3 y4 y5 y6 => ?_
    · rw [aUp_rn (by decide)]; exact (z1 603 20 (by decide) (by decide) (by decide)).trans hb2
    · exact mL_cl hL2 fun i a => by rw [aUp_rn (by decide), e605]
    · rw [aUp_ne (by decide), e605]; exact q3
    · rw [aUp_rn (by decide)]; exact (z1 603 42 (by decide) (by decide) (by decide)).trans q4
    · rw [aUp_re]; omega
    · rw [y6]
      have hq1 : pFr m0 m2 := pFr_tr q1 (pFr_tr (pFr_g z1) (pFr_tr pFr_624 y1))
      have e7 : (rWk L p (rMv L s.1 p).toNat s).1 7 = s.1 7 := hcl 7 (by omega)
      have hz := ih m2 (rWk L p (rMv L s.1 p).toNat s) (p + 1) hq1 (fun i a => ?_) y4 y5 (rWk_ok hp (by omega) _ s q5) (by omega) (by rw [e7]; omega) (by omega) (by omega) (by omega) (by omega) (fun q a b => ?_) (fun q a => ?_) (fun m3 a b c d => hQ m3 a b c (by rw [e7] at d; exact d))
      · rw [show s.2.1 + ((rWk L p (rMv L s.1 p).toNat s).2.1 - s.2.1) = (rWk L p (rMv L s.1 p).toNat s).2.1 by omega]
        exact ⟨⟨hp, by omega⟩, ⟨by omega, by omega⟩, ⟨by omega, by omega⟩, hz⟩
      · rw [y4, hcl i a, ← q3]; exact q2 i a
      · by_cases e : q = p
        · subst e
          rw [y6, y4]
          have := ho q (by omega)
          rw [← this, q3]
          omega
        · rw [y3 q e, aUp_ri e, e624, y4, rWk_oth e, ← q3]
          exact hg q a (by omega)
      · rw [y4, rWk_oth (by omega), ← q3]
        exact ho q (by omega)
theorem m_turn {E : EN} (hE : Ep E) {k : Nat} {mem : Mm} {Q : Int → Mm → Prop} {Y : Int} {L : LW} (hb : mem 603 20 = 0) (hL : mL mem L) (hY : Y ≤ 5000) (hok : rOk Y (mem 605)) (hQ : ∀ m2 : Mm, pFr mem m2 → m2 605 = (rTn L (mem 605)).1 → m2 603 42 = (rTn L (mem 605)).2.2 → gnR (mem 605) (m2 605) (m2 624) (mem 605 7) → Q (rTn L (mem 605)).2.1 m2) : CI E mX12_passIt (k + 7) mem [aR 603] Q := by
  have h0 := hok.1
  have h1 := hok.2.1
  refine eX12_passIt (rX12_passIt_0 hE ?_)
  refine m_pass_l hE (m0 := aUp mem 603 42 0) (Y := Y) (L := L) ((aUp_ri (by decide)).trans hb) (mL_cl hL fun i _ => aUp_rn (by decide)) hY (mem 605 7).toNat _ (mem 605, 0, 0) 0 pFr_rf (fun _ _ => rfl) (aUp_ne (by decide)) aUp_re hok (by decide) (by dsimp only; omega) (Int.le_refl 0) (Int.le_refl 0) (Int.le_refl 0) (Int.le_refl 0) (fun q a b => absurd b (by omega)) (fun _ _ => rfl) fun m2 a b c d => ?_
  refine hQ m2 (pFr_tr pFr_42 a) b c fun p u v => ?_
  obtain ⟨d1, d2⟩ := d p u v
  refine ⟨?_, d2⟩
  rw [← d1, b, aUp_rn (by decide)]
  unfold rAg
  rw [if_neg (by omega), if_neg (by omega)]
