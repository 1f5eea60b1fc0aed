-- the model's reckonAll over a list as its stack (none: what never is)
def mGo (op ag : Int → Int) (lf : Int → Int → Int) (last : Int) : Nat → Int → List Int → Option Int
  | 0, _, _ => none
  | n + 1, k, s =>
    if last ≤ k then (match s with
      | [v] => if -2000000000 ≤ v ∧ v ≤ 2000000000 then some v else none
      | _ => none)
    else if ¬ (0 ≤ k ∧ k < 400 ∧ s.length < 399 ∧ 0 ≤ op k ∧ op k ≤ 30 ∧ (op k < 11 ∨ 20 ≤ op k) ∧ 0 ≤ ag k ∧ ag k ≤ 2000 ∧ (op k = 5 → ag k < 10) ∧ (5 < op k ∧ op k < 11 → ag k < 32)) then none
    else if op k < 20 then mGo op ag lf last n (k + 1) (lf (op k) (ag k) :: s)
    else match s with
    | [] => none
    | b :: s1 =>
      if ¬ (-2000000000 ≤ b ∧ b ≤ 2000000000) then none
      else if op k < 28 then (match s1 with
        | [] => none
        | c :: s2 =>
          if ¬ (-2000000000 ≤ c ∧ c ≤ 2000000000) then none
          else if vOp (op k) c b = bRK then some bRK else mGo op ag lf last n (k + 1) (vOp (op k) c b :: s2))
      else if op k = 28 then mGo op ag lf last n (k + 1) ((1 - b) :: s1)
      else if op k = 29 then (if b = 0 then mGo op ag lf last n (ag k) (b :: s1) else mGo op ag lf last n (k + 1) s1)
      else (if b = 1 then mGo op ag lf last n (ag k) (b :: s1) else mGo op ag lf last n (k + 1) s1)
/-- a leaf's value: of laws (b = 0), of orders -/
def mLf (m : Mm) (b o a : Int) : Int :=
  if o = 0 then a else if b = 0 then m 621 o else if o < 5 then m 622 o else if o = 5 then (if 0 ≤ a ∧ a < m 605 7 then m 605 (8 + a) else -1) else if o = 6 then m 605 (80 + a) else m 605 (48 + a)
def eFr (m m2 : Mm) : Prop := ∀ o i, o ≠ 623 → ¬ (o = 603 ∧ (i = 38 ∨ i = 39)) → m2 o i = m o i
def eRs (m2 : Mm) (v : Int) : Prop := (v = bRK ∧ m2 603 38 = 1) ∨ (v ≠ bRK ∧ m2 603 38 = 0 ∧ m2 603 39 = v)
theorem eFr_rf {m : Mm} : eFr m m := fun _ _ _ _ => rfl
theorem eFr_tr {m m2 m3 : Mm} (h : eFr m m2) (h2 : eFr m2 m3) : eFr m m3 := fun o i a b => (h2 o i a b).trans (h o i a b)
theorem eFr_up {m : Mm} {j v : Int} : eFr m (aUp m 623 j v) := fun o i a _ => aUp_rn a
theorem eFr_38 {m : Mm} {v : Int} : eFr m (aUp m 603 38 v) := fun o i _ b => if_neg fun q => b ⟨q.1, Or.inl q.2⟩
theorem eFr_39 {m : Mm} {v : Int} : eFr m (aUp m 603 39 v) := fun o i _ b => if_neg fun q => b ⟨q.1, Or.inr q.2⟩
theorem m_reckon {E : EN} (hE : Ep E) {k : Nat} {mem : Mm} {Q : Int → Mm → Prop} {o a b : Int} (ho : 20 ≤ o) (ho2 : o ≤ 27) (ra : -2000000000 ≤ a ∧ a ≤ 2000000000) (rb : -2000000000 ≤ b ∧ b ≤ 2000000000)
    (h0 : vOp o a b = bRK → Q 0 (aUp mem 603 38 1)) (h1 : ∀ (v : Int) (m2 : Mm), (m2 = mem ∨ m2 = aUp mem 603 38 0) → R64 v → (if -1000000000 ≤ v ∧ v ≤ 1000000000 then v else bRK) = vOp o a b → Q v m2) : CL E mX12_reckon k mem [aR 603, aI o, aL a, aL b] Q := by
  have hm := mul_le64 ra rb
  have hd := tdiv_le (b := b) ra
  have ht := tmod_le (b := b) ra
  refine eX12_reckon ⟨by omega, by omega⟩ ⟨by omega, by omega⟩ ⟨by omega, by omega⟩ (rX12_reckon_0 hE ⟨fun c => ?_, fun c => ?_, fun c => ?_, fun c => ⟨fun d => ?_, fun d => ?_⟩, fun c => ⟨fun d => ?_, fun d => ?_⟩, fun c => ⟨fun d => ?_, fun d => ?_⟩, fun c => ⟨fun d => ?_, fun d => ?_⟩, fun c => ⟨fun d => ?_, fun d => ?_⟩⟩)
  · exact ⟨⟨by omega, by omega⟩, h1 _ _ (Or.inl rfl) ⟨by omega, by omega⟩ (by subst c; unfold vOp; simp)⟩
  · exact ⟨⟨by omega, by omega⟩, h1 _ _ (Or.inl rfl) ⟨by omega, by omega⟩ (by subst c; unfold vOp; simp)⟩
  · exact ⟨hm, h1 _ _ (Or.inl rfl) hm (by subst c; unfold vOp; simp)⟩
  · refine ⟨d, ?_⟩
    rw [w64_id (by omega) (by omega)]
    exact h1 _ _ (Or.inr rfl) ⟨by omega, by omega⟩ (by subst c; unfold vOp; simp [d])
  · exact h0 (by subst c; unfold vOp; simp [d])
  · exact ⟨d, h1 _ _ (Or.inr rfl) ⟨by omega, by omega⟩ (by subst c; unfold vOp; simp [d])⟩
  · exact h0 (by subst c; unfold vOp; simp [d])
  · exact h1 _ _ (Or.inl rfl) (by decide) (by subst c; unfold vOp; simp; omega)
  · exact h1 _ _ (Or.inl rfl) (by decide) (by subst c; unfold vOp; simp; omega)
  · exact h1 _ _ (Or.inl rfl) (by decide) (by subst c; unfold vOp; simp; omega)
  · exact h1 _ _ (Or.inl rfl) (by decide) (by subst c; unfold vOp; simp; omega)
  · obtain rfl : o = 27 := by omega
    exact h1 _ _ (Or.inl rfl) (by decide) (by unfold vOp; simp [d])
  · obtain rfl : o = 27 := by omega
    exact h1 _ _ (Or.inl rfl) (by decide) (by unfold vOp; simp [d])
theorem m_rec_l {E : EN} (hE : Ep E) {k : Nat} {m0 : Mm} {Q : Mm → Prop} {last b la v : Int} {op ag : Int → Int} (hb : m0 603 20 = b) (hla : m0 603 34 = la) (hb0 : b = 0 → 0 ≤ la ∧ la ≤ 4670) (h7 : 0 ≤ m0 605 7) (h72 : m0 605 7 ≤ 10)
    (hop : ∀ j, 0 ≤ j → j < 400 → op j = if b = 0 then m0 605 (la + 98 + 2 * j) else m0 614 j) (hag : ∀ j, 0 ≤ j → j < 400 → ag j = if b = 0 then m0 605 (la + 98 + 2 * j + 1) else m0 615 j)
    (hQ : ∀ m2 : Mm, eFr m0 m2 → eRs m2 v → Q m2) : ∀ (n : Nat) (mem : Mm) (x : Int) (s : List Int), eFr m0 mem → mem 603 38 = 0 → stk (mem 623) s → mGo op ag (mLf m0 b) last n x s = some v →
      VM E mX12_reckonAll (k + 2) mem 10 [(0, aR 603), (2, aI last), (3, aI s.length), (4, aI x)] [] (retV Q) := by
  -- the end by BROKEN
  have hbrk : v = bRK → ∀ (m2 : Mm) (x z : Int), eFr m0 m2 → m2 603 38 = 1 → VM E mX12_reckonAll (k + 2) m2 367 [(0, aR 603), (2, aI last), (3, aI z), (4, aI x)] [] (retV Q) := by
    intro hv m2 x z q1 q2
    have h370 : VM E mX12_reckonAll (k + 2) m2 370 [(0, aR 603), (3, aI z)] [] (retV Q) := by
      refine rjX12_reckonAll_370 (p0 := 0) (p1 := 0) hE ⟨fun _ => hQ _ (eFr_tr q1 eFr_39) (Or.inl ⟨hv, ?_⟩), fun _ => hQ _ (eFr_tr q1 eFr_39) (Or.inl ⟨hv, ?_⟩)⟩
      · exact (aUp_ri (by decide)).trans q2
      · exact (aUp_ri (by decide)).trans q2
    refine rjX12_reckonAll_367 (p0 := 0) hE (rjX12_reckonAll_10 (p0 := 0) hE ⟨fun _ => h370, fun _ => ⟨fun _ => h370, fun c => absurd (q2.symm.trans c) (by decide)⟩⟩)
  intro n
  induction n with
  | zero => intro mem x s _ _ _ h; cases h
  | succ n ih =>
    intro mem x s q1 q2 q3 h
    have go : ∀ {m2 : Mm} {x2 : Int} {s2 : List Int} {z : Int}, eFr m0 m2 → m2 603 38 = 0 → stk (m2 623) s2 → mGo op ag (mLf m0 b) last n x2 s2 = some v → z = s2.length → VM E mX12_reckonAll (k + 2) m2 367 [(0, aR 603), (2, aI last), (3, aI z), (4, aI x2)] [] (retV Q) := by
      intro m2 x2 s2 z a1 a2 a3 a4 hz
      subst hz
      exact rjX12_reckonAll_367 (p0 := 0) hE (ih m2 x2 s2 a1 a2 a3 a4)
    unfold mGo at h
    by_cases hl : last ≤ x
    · rw [if_pos hl] at h
      match s, h, q3 with
      | [u], h, q3 =>
        dsimp only at h
        by_cases hu : -2000000000 ≤ u ∧ u ≤ 2000000000
        · rw [if_pos hu] at h
          obtain rfl := Option.some.inj h
          refine rjX12_reckonAll_10 (p0 := 0) hE ⟨fun _ => rjX12_reckonAll_370 (p0 := 0) (p1 := 0) hE ⟨fun c => absurd c (by simp), fun _ => hQ _ (eFr_tr q1 eFr_39) (Or.inr ⟨by intro c; have := bRK_v; omega, (aUp_ri (by decide)).trans q2, aUp_re.trans q3.1⟩)⟩, fun c => absurd c (by omega)⟩
        · rw [if_neg hu] at h
          cases h
    · rw [if_neg hl] at h
      split at h
      · cases h
      rename_i hg
      obtain ⟨g1, g2, g3, g4, g5, g6, g7, g8⟩ := Classical.not_not.mp hg
      have e20 : mem 603 20 = b := (q1 603 20 (by decide) (by decide)).trans hb
      have e34 : mem 603 34 = la := (q1 603 34 (by decide) (by decide)).trans hla
      have e605 : ∀ i, mem 605 i = m0 605 i := fun i => q1 605 i (by decide) (fun q => absurd q.1 (by decide))
      have e621 : ∀ i, mem 621 i = m0 621 i := fun i => q1 621 i (by decide) (fun q => absurd q.1 (by decide))
      have e622 : ∀ i, mem 622 i = m0 622 i := fun i => q1 622 i (by decide) (fun q => absurd q.1 (by decide))
      have e614 : ∀ i, mem 614 i = m0 614 i := fun i => q1 614 i (by decide) (fun q => absurd q.1 (by decide))
      have e615 : ∀ i, mem 615 i = m0 615 i := fun i => q1 615 i (by decide) (fun q => absurd q.1 (by decide))
      have hop := hop x g1 g2
      have hag := hag x g1 g2
      -- from 97 on
      have h97 : VM E mX12_reckonAll (k + 2) mem 97 [(0, aR 603), (2, aI last), (3, aI s.length), (4, aI x), (5, aI (op x)), (6, aI (ag x))] [] (retV Q) := by
        have hlen : (s.length : Int) < 399 := by omega
        have r3 : R32 ((s.length : Int) + 1) := ⟨by omega, by omega⟩
        -- a leaf
        have leaf : ∀ (m2 : Mm) (u : Int), m2 = mem → op x < 20 → u = mLf m0 b (op x) (ag x) → (0 ≤ (s.length : Int) ∧ (s.length : Int) < 400) ∧ (R32 ((s.length : Int) + 1)) ∧ VM E mX12_reckonAll (k + 2) (aUp m2 623 s.length u) 367 [(0, aR 603), (2, aI last), (3, aI (s.length + 1)), (4, aI (x + 1))] [] (retV Q) := by
          intro m2 u hm2 c hu
          subst hm2
          rw [if_pos c] at h
          exact ⟨⟨by omega, by omega⟩, r3, go (eFr_tr q1 eFr_up) ((aUp_rn (by decide)).trans q2) (stk_c (aUp_re.trans hu) (stk_fr s (fun j _ d => aUp_ri (by omega)) q3)) h (len_cons _ _).symm⟩
        refine rjX12_reckonAll_97 (p0 := 0) hE ⟨⟨by omega, by omega⟩, fun c20 => ?_, fun c20 => ?_⟩
        · rw [if_neg (by omega)] at h
          cases s with
          | nil => cases h
          | cons t s1 =>
            have hl1 := len_cons t s1
            dsimp only at h
            split at h
            · cases h
            rename_i ht
            have ht := Classical.not_not.mp ht
            have et : mem 623 ((s1.length : Int) + 1 - 1) = t := by rw [show (s1.length : Int) + 1 - 1 = s1.length by omega]; exact q3.1
            rw [hl1]
            refine ⟨fun c28 => ⟨fun d28 => ?_, fun d28 => ?_⟩, fun c28 => ?_⟩
            · rw [if_neg (by omega), if_neg d28] at h
              refine ⟨⟨by omega, by omega⟩, ⟨by omega, by omega⟩, fun d29 => ?_, fun d29 => ?_⟩
              · rw [if_neg d29] at h
                rw [et]
                refine ⟨fun c => ?_, fun c => ?_⟩
                · rw [if_neg c] at h
                  exact ⟨⟨by omega, by omega⟩, go q1 q2 q3.2 h (by omega)⟩
                · rw [if_pos c] at h
                  exact go q1 q2 q3 h hl1.symm
              · rw [if_pos d29] at h
                rw [et]
                refine ⟨fun c => ?_, fun c => ?_⟩
                · rw [if_neg c] at h
                  exact ⟨⟨by omega, by omega⟩, go q1 q2 q3.2 h (by omega)⟩
                · rw [if_pos c] at h
                  exact go q1 q2 q3 h hl1.symm
            · rw [if_neg (by omega), if_pos d28] at h
              refine ⟨⟨by omega, by omega⟩, ⟨by omega, by omega⟩, by rw [et]; exact ⟨by omega, by omega⟩, ?_⟩
              rw [et, show (s1.length : Int) + 1 - 1 = s1.length by omega]
              exact go (eFr_tr q1 eFr_up) ((aUp_rn (by decide)).trans q2) (stk_c aUp_re (stk_fr s1 (fun j _ d => aUp_ri (by omega)) q3.2)) h (by simp only [List.length_cons] <;> omega)
            · rw [if_pos c28] at h
              cases s1 with
              | nil => cases h
              | cons c2 s2 =>
                have hl2 := len_cons c2 s2
                dsimp only at h
                split at h
                · cases h
                rename_i hc
                have hc := Classical.not_not.mp hc
                have ep : ((c2 :: s2).length : Int) + 1 + -1 - 1 = s2.length := by omega
                have ep1 : ((c2 :: s2).length : Int) + 1 + -1 = (c2 :: s2).length := by omega
                have e1 : mem 623 (s2.length : Int) = c2 := q3.2.1
                have e2 : mem 623 ((c2 :: s2).length : Int) = t := q3.1
                rw [ep, ep1, e1, e2]
                refine ⟨⟨by omega, by omega⟩, ⟨by omega, by omega⟩, ⟨by omega, by omega⟩, ⟨by omega, by omega⟩, fun _ _ _ => ?_⟩
                refine m_reckon hE c20 (by omega) hc ht (fun z => ?_) (fun w m2 z1 z2 z3 => ?_)
                · rw [if_pos z] at h
                  cases h
                  have e38 : aUp mem 603 38 1 603 38 = 1 := aUp_re
                  refine ⟨fun _ => hbrk rfl _ _ _ (eFr_tr q1 (eFr_tr eFr_38 (eFr_tr eFr_up eFr_38))) aUp_re, fun c => absurd (e38.symm.trans c) (by decide)⟩
                · have em : eFr m0 m2 := by
                    rcases z1 with rfl | rfl
                    · exact q1
                    · exact eFr_tr q1 eFr_38
                  have e38 : m2 603 38 = 0 := by
                    rcases z1 with rfl | rfl
                    · exact q2
                    · exact aUp_re
                  have es : stk (m2 623) s2 := by
                    rcases z1 with rfl | rfl
                    · exact q3.2.2
                    · exact stk_fr s2 (fun j _ _ => aUp_rn (by decide)) q3.2.2
                  refine ⟨fun c => absurd e38 c, fun _ _ => s_in hE z2 (by decide) (by decide) (fun i1 i2 => ?_) (fun i1 => ?_)⟩
                  · rw [if_pos ⟨i1, i2⟩] at z3
                    rw [← z3, if_neg (by have := bRK_v; omega)] at h
                    refine ⟨fun _ => go (eFr_tr em (eFr_tr eFr_up eFr_38)) aUp_re (stk_c ?_ (stk_fr s2 (fun j _ d => ?_) es)) h (by simp only [List.length_cons] <;> omega), fun c => absurd c (by decide)⟩
                    · exact (aUp_rn (by decide)).trans aUp_re
                    · exact (aUp_rn (by decide)).trans (aUp_ri (by omega))
                  · rw [if_neg (by omega)] at z3
                    rw [← z3, if_pos rfl] at h
                    cases h
                    exact ⟨fun c => absurd rfl c, fun _ => hbrk rfl _ _ _ (eFr_tr em (eFr_tr eFr_up eFr_38)) aUp_re⟩
        · refine ⟨fun c0 => ⟨fun cb => ⟨fun c5 => ⟨fun d5 => ⟨fun d6 => ?_, fun d6 => ?_⟩, fun d5 r6 => ?_⟩, fun c5 => ?_⟩, fun cb => ?_⟩, fun c0 => ?_⟩
          · rw [e20] at cb
            exact ⟨⟨by omega, by omega⟩, ⟨by omega, by omega⟩, leaf mem _ rfl c20 (by unfold mLf; rw [if_neg c0, if_neg cb, if_neg (by omega), if_neg d5, if_neg d6]; exact e605 _)⟩
          · rw [e20] at cb
            exact ⟨⟨by omega, by omega⟩, ⟨by omega, by omega⟩, leaf mem _ rfl c20 (by unfold mLf; rw [if_neg c0, if_neg cb, if_neg (by omega), if_neg d5, if_pos d6]; exact e605 _)⟩
          · rw [e20] at cb
            refine m_isPlot hE r6 (by rw [e605]; exact h7) (by rw [e605]; exact h72) (fun u1 u2 => ⟨fun c => absurd c (by decide), fun _ => ⟨⟨by omega, by omega⟩, ⟨by omega, by omega⟩, leaf mem _ rfl c20 ?_⟩⟩) (fun u => ⟨fun _ => leaf mem _ rfl c20 ?_, fun c => absurd rfl c⟩)
            · rw [e605] at u2
              unfold mLf
              rw [if_neg c0, if_neg cb, if_neg (by omega), if_pos d5, if_pos ⟨u1, u2⟩]
              exact e605 _
            · rw [e605] at u
              unfold mLf
              rw [if_neg c0, if_neg cb, if_neg (by omega), if_pos d5, if_neg (by omega)]
          · rw [e20] at cb
            exact ⟨⟨by omega, by omega⟩, leaf mem _ rfl c20 (by unfold mLf; rw [if_neg c0, if_neg cb, if_pos c5]; exact e622 _)⟩
          · rw [e20] at cb
            exact ⟨⟨by omega, by omega⟩, leaf mem _ rfl c20 (by unfold mLf; rw [if_neg c0, if_pos cb]; exact e621 _)⟩
          · exact leaf mem _ rfl c20 (by unfold mLf; rw [if_pos c0])
      refine rjX12_reckonAll_10 (p0 := 0) hE ⟨fun c => absurd c hl, fun _ => ⟨fun c => absurd q2 c, fun _ => ⟨fun cb => ?_, fun cb => ?_⟩⟩⟩
      · rw [e20] at cb
        have hz := hb0 cb
        rw [if_pos cb] at hop hag
        rw [e34]
        refine ⟨⟨by omega, by omega⟩, ⟨by omega, by omega⟩, ⟨by omega, by omega⟩, ⟨by omega, by omega⟩, ?_⟩
        refine rjX12_reckonAll_59 (p0 := 0) hE ⟨fun _ => ?_, fun c => absurd (e20.trans cb) c⟩
        rw [e34]
        refine ⟨⟨by omega, by omega⟩, ⟨by omega, by omega⟩, ⟨by omega, by omega⟩, ⟨by omega, by omega⟩, ⟨by omega, by omega⟩, ?_⟩
        rw [e605, e605, ← hop, ← hag]
        exact h97
      · rw [e20] at cb
        rw [if_neg cb] at hop hag
        refine ⟨⟨g1, g2⟩, ?_⟩
        refine rjX12_reckonAll_59 (p0 := 0) hE ⟨fun c => absurd (e20.symm.trans c) cb, fun _ => ⟨⟨g1, g2⟩, ?_⟩⟩
        rw [e614, e615, ← hop, ← hag]
        exact h97
theorem m_reckonAll {E : EN} (hE : Ep E) {k : Nat} {mem : Mm} {Q : Mm → Prop} {first last b la v : Int} {op ag : Int → Int} {n : Nat} (r1 : R32 first) (r2 : R32 last) (hb : mem 603 20 = b) (hla : mem 603 34 = la) (hb0 : b = 0 → 0 ≤ la ∧ la ≤ 4670) (h7 : 0 ≤ mem 605 7) (h72 : mem 605 7 ≤ 10)
    (hop : ∀ j, 0 ≤ j → j < 400 → op j = if b = 0 then mem 605 (la + 98 + 2 * j) else mem 614 j) (hag : ∀ j, 0 ≤ j → j < 400 → ag j = if b = 0 then mem 605 (la + 98 + 2 * j + 1) else mem 615 j) (hv : mGo op ag (mLf mem b) last n first [] = some v)
    (hQ : ∀ m2 : Mm, eFr mem m2 → eRs m2 v → Q m2) : CV E mX12_reckonAll (k + 2) mem [aR 603, aI first, aI last] Q := by
  have e : mLf (aUp mem 603 38 0) b = mLf mem b := by
    funext o a
    unfold mLf
    rw [aUp_rn (by decide), aUp_rn (by decide), aUp_rn (by decide), aUp_rn (by decide), aUp_rn (by decide), aUp_rn (by decide)]
  refine eX12_reckonAll r1 r2 (rjX12_reckonAll_0 hE (m_rec_l hE (m0 := aUp mem 603 38 0) (op := op) (ag := ag) ((aUp_ri (by decide)).trans hb) ((aUp_ri (by decide)).trans hla) hb0 (by rw [aUp_rn (by decide)]; exact h7) (by rw [aUp_rn (by decide)]; exact h72) (fun j a c => ?_) (fun j a c => ?_) (fun m2 a c => hQ m2 (eFr_tr eFr_38 a) c) n _ first [] eFr_rf aUp_re trivial (by rw [e]; exact hv)))
  · rw [hop j a c, aUp_rn (by decide), aUp_rn (by decide)]
  · rw [hag j a c, aUp_rn (by decide), aUp_rn (by decide)]
