theorem pk_first {d : Int → Int} {light N : Int} (hd : ∀ j, 0 ≤ j → j < N → 1 ≤ d j ∧ d j ≤ light) (hl : light ≤ 99) (h0 : 0 ≤ N) (hN : N ≤ 10) : ∃ X f, 0 ≤ X ∧ X ≤ N ∧ pk d light X N.toNat 0 (fun _ => 0) 0 = some f ∧ ∀ y, 0 ≤ y → y < X → pk d light y N.toNat 0 (fun _ => 0) 0 = none := by
  have zz : pW (fun _ => 0) 0 := ⟨by decide, by decide, fun j _ _ => ⟨Int.le_refl 0, show (0 : Int) ≤ 99 by decide, fun q => absurd q (by omega), fun _ => rfl⟩⟩
  have st : ∀ n : Nat, (∀ y : Int, 0 ≤ y → y < n → pk d light y N.toNat 0 (fun _ => 0) 0 = none) ∨ ∃ X f, 0 ≤ X ∧ X < (n : Int) ∧ pk d light X N.toNat 0 (fun _ => 0) 0 = some f ∧ ∀ y, 0 ≤ y → y < X → pk d light y N.toNat 0 (fun _ => 0) 0 = none := by
    intro n
    induction n with
    | zero => exact Or.inl fun y a b => absurd b (by omega)
    | succ n ih =>
      rcases ih with h | ⟨X, f, a, b, c⟩
      · cases e : pk d light n N.toNat 0 (fun _ => 0) 0 with
        | some f => exact Or.inr ⟨n, f, by omega, by omega, e, h⟩
        | none =>
          refine Or.inl fun y a b => ?_
          by_cases z : y = n
          · rw [z]; exact e
          · exact h y a (by omega)
      · exact Or.inr ⟨X, f, a, by omega, c⟩
  rcases st (N.toNat + 1) with h | ⟨X, f, a, b, c⟩
  · exact absurd (h N h0 (by omega)) (pk_some hd hl hN N.toNat 0 _ 0 (by omega) (by decide) (by decide) zz (by omega))
  · exact ⟨X, f, a, by omega, c⟩
def pF1 (m0 m : Mm) : Prop := ∀ o i, ¬ (576 ≤ o ∧ o ≤ 579) → o ≠ 11 → ¬ isTx (o - 8) → m o i = m0 o i
theorem pF1_rEq {m0 m : Mm} (h : pF1 m0 m) : rEq m0 m := fun o i q => h o i (fun z => q (by unfold scr; omega)) (fun z => q (by unfold scr; omega)) fun z => q (Or.inl z)
theorem pF1_R {m0 m : Mm} {r : Rw} (h : pF1 m0 m) (hR : yR m0 2 r) : yR m 2 r := yR_fr hR (h 2 10 (by decide) (by decide) (by unfold isTx; omega)) fun o i a b => h o i (by omega) (by omega) (by unfold isTx; omega)
theorem pF1_L {m0 m : Mm} {L : LW} (h : pF1 m0 m) (hL : yL m0 2 L) : yL m 2 L := by
  unfold yL
  rw [h 2 9 (by decide) (by decide) (by unfold isTx; omega)]
  rcases hL with q | ⟨q, D, h2, h3⟩
  · exact Or.inl q
  · exact Or.inr ⟨q, D, TxS_fr (fun o i u v => h o i (by unfold isTx at q; omega) (by unfold isTx at q; omega) (tx_stk q u v)) h2, h3⟩
theorem s_fd_l {E : EN} (hE : Ep E) {m0 : Mm} {Q : Int → Mm → Prop} {L : LW} {r : Rw} {N light : Int} (hR : yR m0 2 r) (hL : yL m0 2 L) (hok : rOk 999 r) (hN : N ≤ 10) (good : ∀ m2 : Mm, pF1 m0 m2 → m2 576 3 = N → m2 576 4 = light → (∀ j, 0 ≤ j → j < N → m2 577 j = rDg L r j ∧ rDg L r j ≤ light) → VM E mX4_fewestDays (1197 + 1) m2 67 [(0, aR 576), (2, aI 0)] [] (retI Q)) (bad : (∃ j, 0 ≤ j ∧ j < N ∧ light < rDg L r j) → ∀ m2 : Mm, pF1 m0 m2 → Q (-1) m2) : ∀ (n : Nat) (x : Int) (mem : Mm), 0 ≤ x → x + n = N → pF1 m0 mem → mem 576 3 = N → mem 576 4 = light → (∀ j, 0 ≤ j → j < x → mem 577 j = rDg L r j ∧ rDg L r j ≤ light) → VM E mX4_fewestDays (1197 + 1) mem 25 [(0, aR 576), (1, aR 2), (2, aI x)] [] (retI Q) := by
  intro n
  induction n with
  | zero =>
    intro x mem hx hn f g3 g4 g7
    exact rX4_fewestDays_25 hE isYd2 ⟨fun _ => good mem f g3 g4 fun j a b => g7 j a (by omega), fun q => absurd q (by omega)⟩
  | succ n ih =>
    intro x mem hx hn f g3 g4 g7
    refine rX4_fewestDays_25 hE isYd2 ⟨fun q => absurd q (by omega), fun _ _ => s_yDg (k := 1194) hE isYd2 (pF1_R f hR) (pF1_L f hL) (by decide) hok hx (by omega) fun m1 q1 => ⟨⟨hx, by omega⟩, ?_⟩⟩
    have k4 : m1 576 4 = light := (q1 576 4 (by decide) (by unfold isTx; omega)).trans g4
    have k3 : m1 576 3 = N := (q1 576 3 (by decide) (by unfold isTx; omega)).trans g3
    have f1 : pF1 m0 (aUp m1 577 x (rDg L r x)) := fun o i a b c => (aUp_nn (by omega)).trans ((q1 o i (by omega) c).trans (f o i a b c))
    rw [k4]
    refine ⟨fun le => ⟨⟨by omega, by omega⟩, ih (x + 1) _ (by omega) (by omega) f1 ((aUp_nn (by omega)).trans k3) ((aUp_nn (by omega)).trans k4) fun j a b => ?_⟩, fun gt => bad ⟨x, hx, by omega, gt⟩ _ f1⟩
    by_cases z : j = x
    · rw [z, aUp_re]; exact ⟨rfl, le⟩
    · rw [aUp_ri z, q1 577 j (by decide) (by unfold isTx; omega)]
      exact g7 j a (by omega)
theorem s_fd2 {E : EN} (hE : Ep E) {m0 : Mm} {Q : Int → Mm → Prop} {d f : Int → Int} {N light X : Int} (hd : ∀ j, 0 ≤ j → j < N → 1 ≤ d j ∧ d j ≤ light) (hl : light ≤ 99) (h0 : 0 ≤ N) (hN : N ≤ 10) (hX : X ≤ N) (hf : pk d light X N.toNat 0 (fun _ => 0) 0 = some f) (hno : ∀ y, 0 ≤ y → y < X → pk d light y N.toNat 0 (fun _ => 0) 0 = none) (hQ : ∀ m2 : Mm, pF1 m0 m2 → (∀ j, 0 ≤ j → j < N → m2 579 j = f j) → Q X m2) : ∀ (n : Nat) (x : Int) (mem : Mm), 0 ≤ x → x + n = X → pF1 m0 mem → mem 576 3 = N → mem 576 4 = light → (∀ j, 0 ≤ j → j < N → mem 577 j = d j) → VM E mX4_fewestDays (1197 + 1) mem 67 [(0, aR 576), (2, aI x)] [] (retI Q) := by
  have zz : pW (fun _ => 0) 0 := ⟨by decide, by decide, fun j _ _ => ⟨Int.le_refl 0, show (0 : Int) ≤ 99 by decide, fun q => absurd q (by omega), fun _ => rfl⟩⟩
  -- the loads are cleared, then the search
  have clr : ∀ (x : Int), 0 ≤ x → x ≤ X → (∀ m2 : Mm, pF1 m0 m2 → m2 576 3 = N → m2 576 4 = light → (∀ j, 0 ≤ j → j < N → m2 577 j = d j) → x < X → VM E mX4_fewestDays (1197 + 1) m2 67 [(0, aR 576), (2, aI (x + 1))] [] (retI Q)) → ∀ (c : Nat) (y : Int) (m1 : Mm), 0 ≤ y → y + c = 10 → pF1 m0 m1 → m1 576 3 = N → m1 576 4 = light → (∀ j, 0 ≤ j → j < N → m1 577 j = d j) → (∀ j, 0 ≤ j → j < y → m1 578 j = 0) → VM E mX4_fewestDays (1197 + 1) m1 77 [(0, aR 576), (2, aI x), (3, aI y)] [] (retI Q) := by
    intro x hx hxX nx c
    induction c with
    | zero =>
      intro y m1 hy hc g1 g3 g4 g7 g8
      refine rX4_fewestDays_77 (p0 := 2) hE isYd2 ⟨fun _ rx => ?_, fun q => absurd q (by omega)⟩
      have fit := s_fits (c := 1196 - N.toNat) (days := x) (Q := fun r2 m1 => ((r2 = 0 → (R32 (x + 1)) ∧ VM E mX4_fewestDays (1197 + 1) m1 67 [(0, aR 576), (2, aI (x + 1))] [] (retI Q)) ∧ (¬ r2 = 0 → Q x m1))) hE hd hl hN rx N.toNat 0 m1 (fun _ => 0) 0 (by omega) (by decide) (by decide) zz (fun j a b => g8 j a (by omega)) g7 g3 g4 (fun m2 f2 w1 w2 w3 => ⟨fun q => absurd q (by decide), fun _ => ?_⟩) (fun m2 w1 w2 w3 => ⟨fun _ => ⟨⟨by omega, by omega⟩, ?_⟩, fun q => absurd rfl q⟩)
      · rw [show 1196 - N.toNat + N.toNat + 1 = 1197 by omega] at fit
        exact fit
      · have e : x = X := Classical.byContradiction fun q => by
          have := hno x hx (by omega)
          rw [w1] at this; cases this
        subst e
        rw [w1] at hf
        injection hf with hf
        subst hf
        exact hQ m2 (fun o i a b c => (w2 o i (by omega) (by omega)).trans (g1 o i a b c)) w3
      · have ne : x ≠ X := fun e => by rw [e, hf] at w1; cases w1
        exact nx m2 (fun o i a b c => (w2 o i (by omega) (by omega)).trans (g1 o i a b c)) ((w2 576 3 (by decide) (by omega)).trans g3) ((w2 576 4 (by decide) (by omega)).trans g4) (fun j a b => (w2 577 j (by decide) (by omega)).trans (g7 j a b)) (by omega)
    | succ c ih =>
      intro y m1 hy hc g1 g3 g4 g7 g8
      refine rX4_fewestDays_77 (p0 := 2) hE isYd2 ⟨fun q => absurd q (by omega), fun _ => ⟨⟨hy, by omega⟩, ⟨by omega, by omega⟩, ih (y + 1) _ (by omega) (by omega) (fun o i a b c => (aUp_nn (by omega)).trans (g1 o i a b c)) ((aUp_nn (by omega)).trans g3) ((aUp_nn (by omega)).trans g4) (fun j a b => (aUp_nn (by omega)).trans (g7 j a b)) fun j a b => ?_⟩⟩
      by_cases z : j = y
      · rw [z, aUp_re]
      · rw [aUp_ri z]; exact g8 j a (by omega)
  intro n
  induction n with
  | zero =>
    intro x mem hx hn f g3 g4 g7
    exact rX4_fewestDays_67 (p0 := 2) hE isYd2 ⟨fun q => absurd q (by omega), fun _ => clr x hx (by omega) (fun _ _ _ _ _ q => absurd q (by omega)) 10 0 mem (by decide) (by decide) f g3 g4 g7 fun j a b => absurd b (by omega)⟩
  | succ n ih =>
    intro x mem hx hn f g3 g4 g7
    exact rX4_fewestDays_67 (p0 := 2) hE isYd2 ⟨fun q => absurd q (by omega), fun _ => clr x hx (by omega) (fun m2 a b c e _ => ih (x + 1) m2 (by omega) (by omega) a b c e) 10 0 mem (by decide) (by decide) f g3 g4 g7 fun j a b => absurd b (by omega)⟩
