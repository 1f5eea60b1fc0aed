-- what a text's code comes to: the class's own steps over a list as its stack (none: what never is)
def vOp (o a b : Int) : Int :=
  if (o = 23 ∨ o = 24) ∧ b = 0 then bRK else
  (fun v : Int => if -1000000000 ≤ v ∧ v ≤ 1000000000 then v else bRK)
    (if o = 20 then a + b else if o = 21 then a - b else if o = 22 then a * b else if o = 23 then a.tdiv b else if o = 24 then a.tmod b
      else if o = 25 then (if a < b then 1 else 0) else if o = 26 then (if b < a then 1 else 0) else (if a = b then 1 else 0))
def sgO (s : Int) : Int := if s = 43 then 20 else if s = 45 then 21 else if s = 42 then 22 else if s = 47 then 23 else if s = 37 then 24 else if s = 60 then 25 else if s = 62 then 26 else 27
def cGo (S : Int) (st op : Int → Int) (N : Int) (w : Rw) : Nat → Int → List Int → Option Int
  | 0, _, _ => none
  | n + 1, a, s =>
    if ¬ (0 ≤ a ∧ a < S ∧ a < 400 ∧ s.length < 40) then none
    else if st a = 0 then cGo S st op N w n (a + 1) (op a :: s)
    else if st a = 1 then (if 0 ≤ op a ∧ op a < N then cGo S st op N w n (a + 1) (w (op a) :: s) else none)
    else match s with
    | [] => none
    | b :: s1 =>
      if ¬ (-2000000000 ≤ b ∧ b ≤ 2000000000) then none
      else if st a = 5 then some b
      else if st a = 2 then cGo S st op N w n (a + 1) ((1 - b) :: s1)
      else if st a = 3 then (if b = 0 then cGo S st op N w n (op a) (b :: s1) else cGo S st op N w n (a + 1) s1)
      else if st a = 4 then (if b = 1 then cGo S st op N w n (op a) (b :: s1) else cGo S st op N w n (a + 1) s1)
      else match s1 with
      | [] => none
      | c :: s2 =>
        if ¬ (-2000000000 ≤ c ∧ c ≤ 2000000000) then none
        else if vOp (sgO (st a)) c b = bRK then some bRK else cGo S st op N w n (a + 1) (vOp (sgO (st a)) c b :: s2)
/-- a stack in its row -/
def stk (f : Int → Int) : List Int → Prop
  | [] => True
  | b :: s => f (s.length : Int) = b ∧ stk f s
theorem stk_fr {f g : Int → Int} : ∀ s : List Int, (∀ j : Int, 0 ≤ j → j < (s.length : Int) → g j = f j) → stk f s → stk g s := by
  intro s
  induction s with
  | nil => intro _ _; trivial
  | cons b s ih =>
    intro h1 h2
    have e : ((b :: s).length : Int) = (s.length : Int) + 1 := by simp
    exact ⟨(h1 _ (by omega) (by omega)).trans h2.1, ih (fun j a c => h1 j a (by omega)) h2.2⟩
theorem stk_c {f : Int → Int} {b : Int} {s : List Int} (h1 : f (s.length : Int) = b) (h2 : stk f s) : stk f (b :: s) := ⟨h1, h2⟩
theorem bRK_v : bRK = -2147483648 := rfl
theorem len_cons (b : Int) (s : List Int) : ((b :: s).length : Int) = (s.length : Int) + 1 := by simp
theorem tdiv_le {a b : Int} (ha : -2000000000 ≤ a ∧ a ≤ 2000000000) : -2000000000 ≤ a.tdiv b ∧ a.tdiv b ≤ 2000000000 := by
  have h := Int.natAbs_tdiv_le_natAbs a b
  omega
theorem tmod_le {a b : Int} (ha : -2000000000 ≤ a ∧ a ≤ 2000000000) : -2000000000 ≤ a.tmod b ∧ a.tmod b ≤ 2000000000 := by
  have h : (a.tmod b).natAbs ≤ a.natAbs := by rw [Int.natAbs_tmod]; exact Nat.mod_le _ _
  omega
theorem mul_le64 {a b : Int} (ha : -2000000000 ≤ a ∧ a ≤ 2000000000) (hb : -2000000000 ≤ b ∧ b ≤ 2000000000) : R64 (a * b) := by
  have h : (a * b).natAbs ≤ 2000000000 * 2000000000 := by
    rw [Int.natAbs_mul]
    exact Nat.mul_le_mul (by omega) (by omega)
  constructor <;> omega
/-- what combine puts: v is the number ahead of the test for BROKEN -/
theorem s_comb {E : EN} (hE : Ep E) {k : Nat} {mem : Mm} {Q : Int → Mm → Prop} {t o p a b : Int} (hy : isTx t) (ho : R32 o) (h0 : 0 ≤ p) (h1 : p + 1 < 40) (ha : mem (t + 8) p = a) (hb : mem (t + 8) (p + 1) = b) (ra : -2000000000 ≤ a ∧ a ≤ 2000000000) (rb : -2000000000 ≤ b ∧ b ≤ 2000000000)
    (hQ0 : vOp (sgO o) a b = bRK → ∀ m2 : Mm, (∀ o i, o ≠ t + 8 → m2 o i = mem o i) → Q 0 m2) (hQ1 : vOp (sgO o) a b ≠ bRK → Q 1 (aUp mem (t + 8) p (vOp (sgO o) a b))) : CI E mX9_combine k mem [aR t, aI o, aI p] Q := by
  have hend : ∀ v : Int, ((if -1000000000 ≤ v ∧ v ≤ 1000000000 then v else bRK) = vOp (sgO o) a b) → VM E mX9_combine k mem 213 [(0, aR t), (2, aI p), (7, aL v)] [] (retI Q) := by
    intro v hv
    refine rX9_combine_213 (p0 := 0) hE hy ⟨⟨h0, by omega⟩, fun c => ?_, fun c => ⟨fun d => ?_, fun d => ?_⟩⟩
    · rw [if_neg (by omega)] at hv
      exact rX9_combine_243 (p0 := 0) (p1 := 0) hE hy (hQ0 hv.symm _ fun o i q => aUp_rn q)
    · rw [if_neg (by omega)] at hv
      exact rX9_combine_243 (p0 := 0) (p1 := 0) hE hy (hQ0 hv.symm _ fun o i q => aUp_rn q)
    · rw [if_pos (by omega)] at hv
      have := hQ1 (by rw [← hv]; intro q; have := bRK_v; omega)
      rw [← hv] at this
      exact this
  have h52 : ¬ (b = 0 ∧ (o = 47 ∨ o = 37)) → VM E mX9_combine k mem 52 [(0, aR t), (1, aI o), (2, aI p), (3, aL a), (5, aL b)] [] (retI Q) := by
    intro hz
    have hm := mul_le64 ra rb
    have hd := tdiv_le (b := b) ra
    refine rX9_combine_52 hE hy ⟨fun c => ?_, fun c => ?_, fun c => ?_, fun c => ?_, fun c => ?_, fun c => ⟨fun d => ?_, fun d => ?_⟩, fun c => ⟨fun d => ?_, fun d => ?_⟩, fun c => ⟨fun d => ?_, fun d => ?_⟩⟩
    · exact ⟨fun q => hz ⟨q, Or.inr c⟩, hend _ (by subst c; unfold vOp sgO; simp; intro q; omega)⟩
    · exact ⟨hm, hend _ (by subst c; unfold vOp sgO; simp)⟩
    · exact ⟨⟨by omega, by omega⟩, hend _ (by subst c; unfold vOp sgO; simp)⟩
    · exact ⟨⟨by omega, by omega⟩, hend _ (by subst c; unfold vOp sgO; simp)⟩
    · refine ⟨fun q => hz ⟨q, Or.inl c⟩, hend _ ?_⟩
      rw [w64_id (by omega) (by omega)]
      subst c; unfold vOp sgO; simp; intro q; omega
    · exact hend _ (by subst c; unfold vOp sgO; simp; omega)
    · exact hend _ (by subst c; unfold vOp sgO; simp; omega)
    · exact hend _ (by subst c; unfold vOp sgO; simp; omega)
    · exact hend _ (by subst c; unfold vOp sgO; simp; omega)
    · refine hend _ ?_
      have e : sgO o = 27 := by unfold sgO; simp [c]
      rw [e]; unfold vOp; simp [d]
    · refine hend _ ?_
      have e : sgO o = 27 := by unfold sgO; simp [c]
      rw [e]; unfold vOp; simp [d]
  have h50 : b = 0 → (o = 47 ∨ o = 37) → VM E mX9_combine k mem 50 [] [] (retI Q) := by
    intro e hz
    refine rX9_combine_50 (p0 := 0) (p1 := 0) hE hy (hQ0 ?_ _ fun _ _ _ => rfl)
    rcases hz with rfl | rfl <;> (unfold vOp sgO; simp [e])
  refine eX9_combine ho ⟨by omega, by omega⟩ (rX9_combine_0 hE hy ⟨fun c => absurd c (by omega), fun _ => ⟨⟨by omega, by omega⟩, fun c => ⟨⟨by omega, by omega⟩, ⟨by omega, by omega⟩, ?_⟩, fun c => absurd c (by omega)⟩⟩)
  rw [ha, hb]
  exact ⟨fun c => h52 fun q => c q.1, fun c => ⟨fun d => h50 c (Or.inl d), fun d => ⟨fun e => h52 fun q => q.2.elim d e, fun e => h50 c (Or.inr e)⟩⟩⟩
/-- a text's code, its words alike: the loop of value answers as cGo -/
theorem s_value_l {E : EN} (hE : Ep E) {k : Nat} {m0 : Mm} {Q : Int → Mm → Prop} {t p1 : Int} {N : Nat} {w : Rw} {v : Int} (hy : isTx t) (hp : aSh SH p1 13 N) (hN : N < 1000) (hpt : p1 ≠ t + 8) (hw : ∀ i : Int, 0 ≤ i → i < N → m0 p1 i = w i) (hS : m0 t 8 ≤ 400) (hst : ∀ i, R32 (m0 (t + 6) i)) (hop : ∀ i, R32 (m0 (t + 7) i))
    (hQ : ∀ m2 : Mm, (∀ o i, o ≠ t + 8 → m2 o i = m0 o i) → Q v m2) : ∀ (n : Nat) (mem : Mm) (a x : Int) (s : List Int), (∀ o i, o ≠ t + 8 → mem o i = m0 o i) → 0 ≤ x → x + n = m0 t 8 → R32 a → stk (mem (t + 8)) s → cGo (m0 t 8) (m0 (t + 6)) (m0 (t + 7)) N w n a s = some v →
      VM E mX9_value (k + 1) mem 15 [(0, aR t), (2, aR p1), (3, aI a), (4, aI s.length), (5, aI x)] [] (retI Q) := by
  intro n
  induction n with
  | zero => intro mem a x s _ _ _ _ _ h; cases h
  | succ n ih =>
    intro mem a x s hm hx hn hra hs h
    have e8 : mem t 8 = m0 t 8 := hm t 8 (by omega)
    have e6 : mem (t + 6) a = m0 (t + 6) a := hm _ _ (by omega)
    have e7 : mem (t + 7) a = m0 (t + 7) a := hm _ _ (by omega)
    unfold cGo at h
    split at h
    · cases h
    rename_i hg
    have hg := Classical.not_not.mp hg
    obtain ⟨g1, g2, g3, g4⟩ := hg
    have r6 := hst a
    have r7 := hop a
    -- from 284 on
    have go : ∀ {m2 : Mm} {a2 : Int} {s2 : List Int} {z : Int}, (∀ o i, o ≠ t + 8 → m2 o i = m0 o i) → R32 a2 → stk (m2 (t + 8)) s2 → cGo (m0 t 8) (m0 (t + 6)) (m0 (t + 7)) N w n a2 s2 = some v → z = s2.length → VM E mX9_value (k + 1) m2 284 [(0, aR t), (2, aR p1), (3, aI a2), (4, aI z), (5, aI x)] [] (retI Q) := by
      intro m2 a2 s2 z q1 q2 q3 q4 hz
      subst hz
      exact rX9_value_284 (p0 := 0) hE hy hp ⟨⟨by omega, by omega⟩, ih m2 a2 (x + 1) s2 q1 (by omega) (by omega) q2 q3 q4⟩
    have ra1 : R32 (a + 1) := ⟨by omega, by omega⟩
    refine rX9_value_15 (p0 := 0) hE hy hp ⟨fun c => absurd c (by omega), fun _ => ⟨fun c => absurd c (by omega), fun _ => ⟨fun c => absurd c (by omega), fun _ => ⟨fun c => absurd c (by omega), fun _ => ⟨fun c => absurd c (by omega), fun _ => ⟨⟨g1, g3⟩, ra1, ?_⟩⟩⟩⟩⟩⟩
    rw [e6, e7]
    by_cases k0 : m0 (t + 6) a = 0
    · refine ⟨fun _ => ?_, fun c => absurd k0 c⟩
      rw [if_pos k0] at h
      refine rX9_value_92 (p0 := 0) hE hy hp ⟨fun c => absurd k0 c, fun _ => ⟨⟨by omega, by omega⟩, ⟨by omega, by omega⟩, go (fun o i q => (aUp_rn q).trans (hm o i q)) ra1 (stk_c aUp_re (stk_fr s (fun j _ d => aUp_ri (by omega)) hs)) h (len_cons _ _).symm⟩⟩
    · refine ⟨fun c => absurd c k0, fun _ => ?_⟩
      rw [if_neg k0] at h
      have g121 : ¬ m0 (t + 6) a = 1 → VM E mX9_value (k + 1) mem 121 [(0, aR t), (2, aR p1), (3, aI (a + 1)), (4, aI s.length), (5, aI x), (6, aI (m0 (t + 6) a)), (7, aI (m0 (t + 7) a))] [] (retI Q) := by
        intro k1
        rw [if_neg k1] at h
        cases s with
        | nil => cases h
        | cons b s1 =>
          have hl := len_cons b s1
          dsimp only at h
          split at h
          · cases h
          rename_i hb
          have hb := Classical.not_not.mp hb
          have eb : mem (t + 8) ((s1.length : Int) + 1 - 1) = b := by rw [show (s1.length : Int) + 1 - 1 = s1.length by omega]; exact hs.1
          rw [hl]
          have hl40 : (s1.length : Int) + 1 < 40 := by omega
          refine rX9_value_121 (p0 := 0) hE hy hp ⟨fun c => absurd c (by omega), fun _ => ⟨fun k5 => ⟨fun k2 => ⟨fun k3 => ?_, fun k3 => ⟨fun k4 => ⟨⟨by omega, by omega⟩, fun c => ?_, fun c => ⟨⟨by omega, by omega⟩, fun _ _ => ?_⟩⟩, fun k4 => ?_⟩⟩, fun k2 => ?_⟩, fun k5 => ?_⟩⟩
          · rw [if_neg k5, if_neg k2, if_pos k3] at h
            refine rX9_value_196 (p0 := 0) hE hy hp ⟨⟨by omega, by omega⟩, ⟨by omega, by omega⟩, fun _ => ⟨fun c => ?_, fun c => ?_⟩, fun c => absurd c (by omega)⟩
            · rw [eb] at c
              rw [if_neg c] at h
              exact go hm ra1 hs.2 h (by omega)
            · rw [eb] at c
              rw [if_pos c] at h
              exact go hm r7 hs h hl.symm
          · exfalso
            rw [if_neg k5, if_neg k2, if_neg k3, if_neg k4] at h
            cases s1 with
            | nil => cases h
            | cons c2 s2 =>
              have := len_cons c2 s2
              omega
          · rw [if_neg k5, if_neg k2, if_neg k3, if_neg k4] at h
            cases s1 with
            | nil => cases h
            | cons c2 s2 =>
              have hl2 := len_cons c2 s2
              dsimp only at h
              split at h
              · cases h
              rename_i hc
              have hc := Classical.not_not.mp hc
              have ep : ((c2 :: s2).length : Int) + 1 + -1 - 1 = s2.length := by omega
              rw [ep]
              refine s_comb hE hy r6 (by omega) (by omega) hs.2.1 (by rw [← hl2]; exact hs.1) hc hb (fun q m2 hm2 => ?_) (fun q => ?_)
              · refine ⟨fun c => absurd rfl c, fun _ => rX9_value_281 (p0 := 0) (p1 := p1) hE hy hp ?_⟩
                rw [if_pos q] at h
                cases h
                exact hQ m2 fun o i d => (hm2 o i d).trans (hm o i d)
              · refine ⟨fun _ => ?_, fun c => absurd c (by decide)⟩
                rw [if_neg q] at h
                exact go (fun o i d => (aUp_rn d).trans (hm o i d)) ra1 (stk_c aUp_re (stk_fr s2 (fun j _ d => aUp_ri (by omega)) hs.2.2)) h (by simp only [List.length_cons]; omega)
          · rw [if_neg k5, if_neg k2, if_neg k3, if_pos k4] at h
            refine rX9_value_196 (p0 := 0) hE hy hp ⟨⟨by omega, by omega⟩, ⟨by omega, by omega⟩, fun c => absurd k4 c, fun _ => ⟨fun c => ?_, fun c => ?_⟩⟩
            · rw [eb] at c
              rw [if_neg c] at h
              exact go hm ra1 hs.2 h (by omega)
            · rw [eb] at c
              rw [if_pos c] at h
              exact go hm r7 hs h hl.symm
          · rw [if_neg k5, if_pos k2] at h
            refine ⟨⟨by omega, by omega⟩, ⟨by omega, by omega⟩, by rw [eb]; exact ⟨by omega, by omega⟩, ?_⟩
            rw [eb, show (s1.length : Int) + 1 - 1 = s1.length by omega]
            exact go (fun o i d => (aUp_rn d).trans (hm o i d)) ra1 (stk_c aUp_re (stk_fr s1 (fun j _ d => aUp_ri (by omega)) hs.2)) h (by simp only [List.length_cons]; omega)
          · rw [if_pos k5] at h
            cases h
            refine rX9_value_133 (p0 := 0) (p1 := p1) hE hy hp ⟨fun _ => ⟨⟨by omega, by omega⟩, ⟨by omega, by omega⟩, by rw [eb]; exact ⟨by omega, by omega⟩, ?_⟩, fun c => absurd c (by omega)⟩
            rw [eb]
            exact hQ mem hm
      by_cases k1 : m0 (t + 6) a = 1
      · rw [if_pos k1] at h
        split at h
        · rename_i hk
          have ew : mem p1 (m0 (t + 7) a) = w (m0 (t + 7) a) := (hm _ _ hpt).trans (hw _ hk.1 hk.2)
          refine ⟨fun c => absurd k1 c, fun _ => ⟨fun c => absurd c (by omega), fun _ => ⟨by omega, fun c => absurd c (by omega), fun _ => ?_⟩⟩⟩
          refine rX9_value_92 (p0 := 0) hE hy hp ⟨fun _ => ⟨hk, ⟨by omega, by omega⟩, ⟨by omega, by omega⟩, ?_⟩, fun c => absurd c k0⟩
          rw [ew]
          exact go (fun o i q => (aUp_rn q).trans (hm o i q)) ra1 (stk_c aUp_re (stk_fr s (fun j _ d => aUp_ri (by omega)) hs)) h (len_cons _ _).symm
        · cases h
      · exact ⟨fun _ => g121 k1, fun c => absurd c k1⟩
theorem r32_sh {mem : Mm} {a : Int} {n : Nat} (h : aNm SH mem) (hs : aSh SH a 13 n) (i : Int) : R32 (mem a i) := by
  obtain ⟨j, rfl, hj⟩ := hs
  exact (h j 13 n i hj).1 rfl
/-- the text's code from fr on comes to F of its words (N of them); what is not there is 1 -/
def vS (m : Mm) (t N fr : Int) (F : Rw → Int) : Prop := (fr = -1 ∧ ∀ w, F w = 1) ∨ (fr ≠ -1 ∧ ∀ w, wOk w → cGo (m t 8) (m (t + 6)) (m (t + 7)) N w (m t 8).toNat fr [] = some (F w))
theorem s_value {E : EN} (hE : Ep E) {k : Nat} {mem : Mm} {Q : Int → Mm → Prop} {t p1 fr : Int} {N : Nat} {w : Rw} {F : Rw → Int} (hy : isTx t) (hr : R32 fr) (hp : aSh SH p1 13 N) (hN : N < 1000) (hpt : p1 ≠ t + 8) (hw : ∀ i : Int, 0 ≤ i → i < N → mem p1 i = w i) (hok : wOk w) (hS : mem t 8 ≤ 400) (hv : vS mem t N fr F)
    (hQ : ∀ m2 : Mm, (∀ o i, o ≠ t + 8 → m2 o i = mem o i) → Q (F w) m2) : CI E mX9_value (k + 1) mem [aR t, aI fr, aR p1] Q := by
  refine eX9_value hr (VG_rng fun _ _ hnm _ => rX9_value_0 hE hy hp ⟨fun c => ?_, fun c => ?_⟩)
  · rcases hv with ⟨e, -⟩ | ⟨-, e⟩
    · exact absurd e c
    · have h := e w hok
      have h0 : (mem t 8).toNat ≠ 0 := by
        intro q
        rw [q] at h
        cases h
      exact s_value_l hE hy hp hN hpt hw hS (r32_sh hnm (tx6 hy)) (r32_sh hnm (tx7 hy)) hQ (mem t 8).toNat mem fr 0 [] (fun _ _ _ => rfl) (by omega) (by omega) hr trivial h
  · rcases hv with ⟨-, e⟩ | ⟨e, -⟩
    · have := hQ mem fun _ _ _ => rfl
      rw [e w] at this
      exact this
    · exact absurd c e
