-- packed: one search over the days
def pkI (d : Int → Int) (light days : Int) (rc : (Int → Int) → Int → Option (Int → Int)) (k : Int) (a : Int → Int) (u : Int) : Nat → Int → Option (Int → Int)
  | 0, _ => none
  | n + 1, i => if days ≤ i ∨ u < i then none else if a i + d k ≤ light then (match rc (rUp a i (a i + d k)) (if i = u then u + 1 else u) with
    | some f => some (rUp f k i)
    | none => pkI d light days rc k a u n (i + 1)) else pkI d light days rc k a u n (i + 1)
def pk (d : Int → Int) (light days : Int) : Nat → Int → (Int → Int) → Int → Option (Int → Int)
  | 0, _, _, _ => some (fun _ => 0)
  | m + 1, k, a, u => pkI d light days (fun a2 u2 => pk d light days m (k + 1) a2 u2) k a u 12 0
def pW (a : Int → Int) (u : Int) : Prop := 0 ≤ u ∧ u ≤ 10 ∧ ∀ j, 0 ≤ j → j < 10 → 0 ≤ a j ∧ a j ≤ 99 ∧ (j < u → 1 ≤ a j) ∧ (u ≤ j → a j = 0)
theorem pW_up {a : Int → Int} {u i v light : Int} (h : pW a u) (h0 : 0 ≤ i) (h1 : i ≤ u) (h2 : i < 10) (hv : 1 ≤ v) (hl : a i + v ≤ light) (h9 : light ≤ 99) : pW (rUp a i (a i + v)) (if i = u then u + 1 else u) := by
  obtain ⟨w1, w2, w3⟩ := h
  have wi := w3 i h0 h2
  refine ⟨by split <;> omega, by split <;> omega, fun j a0 a1 => ?_⟩
  have wj := w3 j a0 a1
  unfold rUp
  by_cases z : j = i
  · rw [if_pos z]
    refine ⟨by omega, by omega, fun _ => by omega, fun q => ?_⟩
    split at q <;> omega
  · rw [if_neg z]
    refine ⟨wj.1, wj.2.1, fun q => ?_, fun q => ?_⟩
    · split at q
      · exact wj.2.2.1 (by omega)
      · exact wj.2.2.1 q
    · split at q
      · exact wj.2.2.2 (by omega)
      · exact wj.2.2.2 q
theorem pkI_no {d : Int → Int} {light days : Int} {rc : (Int → Int) → Int → Option (Int → Int)} {k : Int} {a : Int → Int} {u : Int} {n : Nat} {i : Int} (h : days ≤ i ∨ u < i) : pkI d light days rc k a u n i = none := by
  cases n with
  | zero => rfl
  | succ n => exact if_pos h
theorem pkI_big {d : Int → Int} {light days : Int} {rc : (Int → Int) → Int → Option (Int → Int)} {k : Int} {a : Int → Int} {u : Int} {n : Nat} {i : Int} (h : ¬ (days ≤ i ∨ u < i)) (hb : light < a i + d k) : pkI d light days rc k a u (n + 1) i = pkI d light days rc k a u n (i + 1) :=
  (if_neg h).trans (if_neg (by omega))
theorem pkI_in {d : Int → Int} {light days : Int} {rc : (Int → Int) → Int → Option (Int → Int)} {k : Int} {a : Int → Int} {u : Int} {n : Nat} {i : Int} (h : ¬ (days ≤ i ∨ u < i)) (hb : a i + d k ≤ light) {f : Int → Int} (hr : rc (rUp a i (a i + d k)) (if i = u then u + 1 else u) = some f) : pkI d light days rc k a u (n + 1) i = some (rUp f k i) := by
  refine (if_neg h).trans ((if_pos hb).trans ?_)
  rw [hr]
theorem pkI_out {d : Int → Int} {light days : Int} {rc : (Int → Int) → Int → Option (Int → Int)} {k : Int} {a : Int → Int} {u : Int} {n : Nat} {i : Int} (h : ¬ (days ≤ i ∨ u < i)) (hb : a i + d k ≤ light) (hr : rc (rUp a i (a i + d k)) (if i = u then u + 1 else u) = none) : pkI d light days rc k a u (n + 1) i = pkI d light days rc k a u n (i + 1) := by
  refine (if_neg h).trans ((if_pos hb).trans ?_)
  rw [hr]
theorem s_fits {E : EN} (hE : Ep E) {d : Int → Int} {light days N : Int} {c : Nat} (hd : ∀ j, 0 ≤ j → j < N → 1 ≤ d j ∧ d j ≤ light) (hl : light ≤ 99) (hN : N ≤ 10) (hD : R32 days) : ∀ (m : Nat) (k : Int) (mem : Mm) (a : Int → Int) (u : Int) (Q : Int → Mm → Prop), k + m = N → 0 ≤ k → u ≤ k → pW a u → (∀ j, 0 ≤ j → j < 10 → mem 578 j = a j) → (∀ j, 0 ≤ j → j < N → mem 577 j = d j) → mem 576 3 = N → mem 576 4 = light →
    (∀ (m2 : Mm) (f : Int → Int), pk d light days m k a u = some f → (∀ o j, o ≠ 578 → ¬ (o = 579 ∧ k ≤ j) → m2 o j = mem o j) → (∀ j, k ≤ j → j < N → m2 579 j = f j) → Q 1 m2) →
    (∀ m2 : Mm, pk d light days m k a u = none → (∀ o j, o ≠ 578 → ¬ (o = 579 ∧ k ≤ j) → m2 o j = mem o j) → (∀ j, 0 ≤ j → j < 10 → m2 578 j = a j) → Q 0 m2) → CI E mX4_fits (c + m + 1) mem [aR 576, aI k, aI days] Q := by
  intro m
  induction m with
  | zero =>
    intro k mem a u Q hk h0 hu hW g8 g7 g3 g4 q1 q0
    exact eX4_fits ⟨by omega, by omega⟩ hD (rX4_fits_0 hE ⟨fun x => absurd x (by omega), fun _ => ⟨fun _ => q1 mem _ rfl (fun _ _ _ _ => rfl) fun j x y => absurd y (by omega), fun x => absurd x (by omega)⟩⟩)
  | succ m ih =>
    intro k mem a u Q hk h0 hu hW g8 g7 g3 g4 q1 q0
    have lp : ∀ (n : Nat) (i : Int) (m1 : Mm), i + n = 12 → 0 ≤ i → i ≤ u → (∀ o j, o ≠ 578 → ¬ (o = 579 ∧ k ≤ j) → m1 o j = mem o j) → (∀ j, 0 ≤ j → j < 10 → m1 578 j = a j) →
        (∀ (m2 : Mm) (f : Int → Int), pkI d light days (fun a2 u2 => pk d light days m (k + 1) a2 u2) k a u n i = some f → (∀ o j, o ≠ 578 → ¬ (o = 579 ∧ k ≤ j) → m2 o j = mem o j) → (∀ j, k ≤ j → j < N → m2 579 j = f j) → Q 1 m2) →
        (∀ m2 : Mm, pkI d light days (fun a2 u2 => pk d light days m (k + 1) a2 u2) k a u n i = none → (∀ o j, o ≠ 578 → ¬ (o = 579 ∧ k ≤ j) → m2 o j = mem o j) → (∀ j, 0 ≤ j → j < 10 → m2 578 j = a j) → Q 0 m2) → VM E mX4_fits (c + m + 1 + 1) m1 22 [(0, aR 576), (1, aI k), (2, aI days), (3, aI i)] [] (retI Q) := by
      intro n
      induction n with
      | zero => intro i m1 hn hi hi2; omega
      | succ n ihn =>
        intro i m1 hn hi hi2 f1 f8 r1 r0
        have e8 : m1 578 i = a i := f8 i hi (by omega)
        have e7 : m1 577 k = d k := (f1 577 k (by decide) (by omega)).trans (g7 k h0 (by omega))
        have e4 : m1 576 4 = light := (f1 576 4 (by decide) (by omega)).trans g4
        have dk := hd k h0 (by omega)
        have wi := hW.2.2 i hi (by omega)
        refine rX4_fits_22 hE ?_
        rw [e8, e7, e4]
        refine ⟨fun x => r0 m1 (pkI_no (Or.inl x)) f1 f8, fun x => ⟨fun y => absurd y (by omega), fun _ => ?_⟩⟩
        have nb : ¬ (days ≤ i ∨ u < i) := by omega
        -- one level on
        have rc : ∀ (Q2 : Int → Mm → Prop), (a i + d k ≤ light) → (∀ (m2 : Mm) (f : Int → Int), pk d light days m (k + 1) (rUp a i (a i + d k)) (if i = u then u + 1 else u) = some f → (∀ o j, o ≠ 578 → ¬ (o = 579 ∧ k ≤ j) → m2 o j = mem o j) → (∀ j, k ≤ j → j < N → m2 579 j = rUp f k i j) → Q2 1 m2) → (∀ m2 : Mm, pk d light days m (k + 1) (rUp a i (a i + d k)) (if i = u then u + 1 else u) = none → (∀ o j, o ≠ 578 → ¬ (o = 579 ∧ k ≤ j) → m2 o j = mem o j) → (∀ j, 0 ≤ j → j < 10 → m2 578 j = rUp a i (a i + d k) j) → Q2 0 m2) → CI E mX4_fits (c + m + 1) (aUp (aUp m1 578 i (a i + d k)) 579 k i) [aR 576, aI (k + 1), aI days] Q2 := by
          intro Q2 le s1 s0
          have fr : ∀ m2 : Mm, (∀ o j, o ≠ 578 → ¬ (o = 579 ∧ k + 1 ≤ j) → m2 o j = (aUp (aUp m1 578 i (a i + d k)) 579 k i) o j) → ∀ o j, o ≠ 578 → ¬ (o = 579 ∧ k ≤ j) → m2 o j = mem o j := fun m2 h o j x y => by
            rw [h o j x (by omega), aUp_nn (by omega), aUp_nn (by omega), f1 o j x y]
          refine ih (k + 1) _ (rUp a i (a i + d k)) (if i = u then u + 1 else u) Q2 (by omega) (by omega) (by split <;> omega) (pW_up hW hi hi2 (by omega) dk.1 le hl) (fun j x y => ?_) (fun j x y => ?_) ?_ ?_ (fun m2 f w1 w2 w3 => s1 m2 f w1 (fr m2 w2) fun j x y => ?_) (fun m2 w1 w2 w3 => s0 m2 w1 (fr m2 w2) w3)
          · rw [aUp_nn (by omega), aUp_at]
            unfold rUp
            by_cases z : j = i
            · rw [if_pos ⟨rfl, z⟩, if_pos z]
            · rw [if_neg (fun q => z q.2), if_neg z]; exact f8 j x y
          · rw [aUp_nn (by omega), aUp_nn (by omega), f1 577 j (by decide) (by omega)]; exact g7 j x y
          · rw [aUp_nn (by omega), aUp_nn (by omega), f1 576 3 (by decide) (by omega)]; exact g3
          · rw [aUp_nn (by omega), aUp_nn (by omega), e4]
          · by_cases z : j = k
            · unfold rUp
              rw [if_pos z, z, w2 579 k (by decide) (by omega), aUp_re]
            · unfold rUp
              rw [if_neg z]
              exact w3 j (by omega) y
        have back : ∀ m2 : Mm, (∀ o j, o ≠ 578 → ¬ (o = 579 ∧ k ≤ j) → m2 o j = mem o j) → (∀ j, 0 ≤ j → j < 10 → m2 578 j = rUp a i (a i + d k) j) → m2 578 i = a i + d k ∧ m2 577 k = d k ∧ (∀ o j, o ≠ 578 → ¬ (o = 579 ∧ k ≤ j) → (aUp m2 578 i (a i + d k - d k)) o j = mem o j) ∧ (∀ j, 0 ≤ j → j < 10 → (aUp m2 578 i (a i + d k - d k)) 578 j = a j) := by
          intro m2 w2 w3
          refine ⟨?_, (w2 577 k (by decide) (by omega)).trans (g7 k h0 (by omega)), fun o j x y => (aUp_nn (by omega)).trans (w2 o j x y), fun j x y => ?_⟩
          · rw [w3 i hi (by omega)]; unfold rUp; rw [if_pos rfl]
          · rw [aUp_at]
            by_cases z : j = i
            · rw [if_pos ⟨rfl, z⟩, z]; omega
            · rw [if_neg (fun q => z q.2), w3 j x y]; unfold rUp; rw [if_neg z]
        refine ⟨⟨hi, by omega⟩, fun nz => ⟨⟨h0, by omega⟩, ⟨by omega, by omega⟩, fun big => ⟨⟨by omega, by omega⟩, ?_⟩, fun le => ⟨⟨by omega, by omega⟩, fun _ _ => rc _ le (fun m2 f w1 w2 w3 => ⟨fun q => absurd q (by decide), fun _ => r1 m2 _ (pkI_in nb le w1) w2 w3⟩) fun m2 w1 w2 w3 => ⟨fun _ => ?_, fun q => absurd rfl q⟩⟩⟩, fun z => ⟨⟨h0, by omega⟩, ⟨by omega, by omega⟩, fun big => absurd big (by omega), fun le => ⟨⟨by omega, by omega⟩, fun _ _ => rc _ le (fun m2 f w1 w2 w3 => ⟨fun q => absurd q (by decide), fun _ => r1 m2 _ (pkI_in nb le w1) w2 w3⟩) fun m2 w1 w2 w3 => ⟨fun _ => ?_, fun q => absurd rfl q⟩⟩⟩⟩
        · have iu : i < u := Classical.byContradiction fun q => nz (wi.2.2.2 (by omega))
          exact ihn (i + 1) m1 (by omega) (by omega) (by omega) f1 f8 (fun m2 f w => r1 m2 f ((pkI_big nb big).trans w)) fun m2 w => r0 m2 ((pkI_big nb big).trans w)
        · have iu : i < u := Classical.byContradiction fun q => nz (wi.2.2.2 (by omega))
          obtain ⟨b1, b2, b3, b4⟩ := back m2 w2 w3
          rw [b1, b2]
          exact ⟨⟨by omega, by omega⟩, ⟨by omega, by omega⟩, ihn (i + 1) _ (by omega) (by omega) (by omega) b3 b4 (fun m3 f w => r1 m3 f ((pkI_out nb le w1).trans w)) fun m3 w => r0 m3 ((pkI_out nb le w1).trans w)⟩
        · have iu : i = u := Classical.byContradiction fun q => by
            have := wi.2.2.1 (by omega)
            omega
          obtain ⟨b1, b2, b3, b4⟩ := back m2 w2 w3
          rw [b1, b2]
          exact ⟨⟨by omega, by omega⟩, r0 _ ((pkI_out nb le w1).trans (pkI_no (Or.inr (by omega)))) b3 b4⟩
    exact eX4_fits ⟨by omega, by omega⟩ hD (rX4_fits_0 hE ⟨fun x => absurd x (by omega), fun _ => ⟨fun x => absurd x (by omega), fun _ => ⟨fun _ => lp 12 0 mem (by decide) (by decide) hW.1 (fun _ _ _ _ => rfl) g8 q1 q0, fun x => absurd x (by omega)⟩⟩⟩)
