def pF2 (m0 m : Mm) : Prop := ∀ o i, ¬ (621 ≤ o ∧ o ≤ 632) → ¬ (o = 603 ∧ (i = 34 ∨ i = 38 ∨ i = 39 ∨ i = 40)) → m o i = m0 o i
theorem pF2_rEq {m0 m : Mm} (h : pF2 m0 m) : rEq m0 m := fun o i q => h o i (fun z => q (by unfold scr; omega)) fun z => q (by unfold scr; omega)
theorem m_fd2 {E : EN} (hE : Ep E) {m0 : Mm} {Q : Int → Mm → Prop} {d f : Int → Int} {N light X p : Int} (hd : ∀ j, 0 ≤ j → j < N → 1 ≤ d j ∧ d j ≤ light) (hl : light ≤ 99) (h0 : 0 ≤ N) (hN : N ≤ 10) (hX : X ≤ N) (hp : p = -1 ∨ (0 ≤ p ∧ p < N)) (g5 : m0 605 7 = N) (g4 : m0 605 4 = light) (hf : pk d light X N.toNat 0 (fun _ => 0) 0 = some f) (hno : ∀ y, 0 ≤ y → y < X → pk d light y N.toNat 0 (fun _ => 0) 0 = none) (hQ : ∀ m2 : Mm, pF2 m0 m2 → Q (if p = -1 then X else f p) m2) : ∀ (n : Nat) (x : Int) (mem : Mm), 0 ≤ x → x + n = X → pF2 m0 mem → (∀ j, 0 ≤ j → j < N → mem 627 j = d j) → VM E mX12_packed (1198 + 1) mem 70 [(0, aR 603), (1, aI p), (3, aI x)] [] (retI Q) := by
  have stp : ∀ (x : Int) (mem : Mm), 0 ≤ x → x ≤ X → pF2 m0 mem → (∀ j, 0 ≤ j → j < N → mem 627 j = d j) → (x < X → ∀ m2 : Mm, pF2 m0 m2 → (∀ j, 0 ≤ j → j < N → m2 627 j = d j) → VM E mX12_packed (1198 + 1) m2 70 [(0, aR 603), (1, aI p), (3, aI (x + 1))] [] (retI Q)) → VM E mX12_packed (1198 + 1) mem 70 [(0, aR 603), (1, aI p), (3, aI x)] [] (retI Q) := by
    intro x mem hx hxX g1 g7 nx
    refine rX12_packed_70 hE fun _ => m_isP (K := 1197) hE hd hl h0 hN hx (by omega) ((g1 605 7 (by decide) (by decide)).trans g5) g7 ((g1 605 4 (by decide) (by decide)).trans g4) (fun m2 f2 w1 w2 w3 => ⟨fun _ => ?_, fun q => absurd q (by decide)⟩) fun m2 w1 w2 => ⟨fun q => absurd rfl q, fun _ => ⟨⟨by omega, by omega⟩, ?_⟩⟩
    · have e : x = X := Classical.byContradiction fun q => by
        have := hno x hx (by omega)
        rw [w1] at this; cases this
      subst e
      rw [w1] at hf
      injection hf with hf
      subst hf
      have g2 : pF2 m0 m2 := fun o i a b => (w2 o i (by omega)).trans (g1 o i a b)
      have hq := hQ m2 g2
      refine ⟨fun q => ⟨⟨by omega, by omega⟩, ?_⟩, fun q => ?_⟩
      · rw [if_neg q] at hq
        rw [w3 p (by omega) (by omega)]
        exact hq
      · rw [if_pos q] at hq
        exact hq
    · have ne : x ≠ X := fun e => by rw [e, hf] at w1; cases w1
      exact nx (by omega) m2 (fun o i a b => (w2 o i (by omega)).trans (g1 o i a b)) fun j a b => (w2 627 j (by omega)).trans (g7 j a b)
  intro n
  induction n with
  | zero => intro x mem hx hn f g7; exact stp x mem hx (by omega) f g7 fun q => absurd q (by omega)
  | succ n ih => intro x mem hx hn f g7; exact stp x mem hx (by omega) f g7 fun _ m2 a b => ih (x + 1) m2 (by omega) (by omega) a b
theorem m_fd_l {E : EN} (hE : Ep E) {m0 : Mm} {Q : Int → Mm → Prop} {L : LW} {r : Rw} {N light p : Int} (h5 : m0 605 = r) (hL : mL m0 L) (h20 : m0 603 20 = 0) (hok : rOk 999 r) (hN : N ≤ 10) (g4 : r 4 = light) (good : ∀ m2 : Mm, pF2 m0 m2 → (∀ j, 0 ≤ j → j < N → m2 627 j = rDg L r j ∧ rDg L r j ≤ light) → VM E mX12_packed (1198 + 1) m2 70 [(0, aR 603), (1, aI p), (3, aI 0)] [] (retI Q)) (bad : (∃ j, 0 ≤ j ∧ j < N ∧ light < rDg L r j) → ∀ m2 : Mm, pF2 m0 m2 → Q (-1) m2) : ∀ (n : Nat) (x : Int) (mem : Mm), 0 ≤ x → x + n = N → pF2 m0 mem → (∀ j, 0 ≤ j → j < x → mem 627 j = rDg L r j ∧ rDg L r j ≤ light) → VM E mX12_packed (1198 + 1) mem 30 [(0, aR 603), (1, aI p), (2, aI N), (3, aI x)] [] (retI Q) := by
  intro n
  induction n with
  | zero =>
    intro x mem hx hn f g7
    exact rX12_packed_30 hE ⟨fun _ => good mem f fun j a b => g7 j a (by omega), fun q => absurd q (by omega)⟩
  | succ n ih =>
    intro x mem hx hn f g7
    have e5 : mem 605 = r := (funext fun i => f 605 i (by decide) (by omega)).trans h5
    have hm : mL mem L := mL_fr (by rw [e5, h5]) (fun i _ => by rw [e5, h5]) hL
    have h2 : mem 603 20 = 0 := (f 603 20 (by decide) (by decide)).trans h20
    refine rX12_packed_30 hE ⟨fun q => absurd q (by omega), fun _ _ => m_digsOf (k := 1193) (Y := 999) hE h2 hm (by decide) (by rw [e5]; exact hok) hx (by omega) fun m1 q1 => ⟨⟨hx, by omega⟩, eX12_term (by decide) (rX12_term_0 hE ⟨by decide, by decide, ?_⟩)⟩⟩
    have k4 : (aUp m1 627 x (rDg L (mem 605) x)) 605 (3 + 1) = light := by
      rw [aUp_nn (by omega), gFr_605 q1, e5]; exact g4
    have f1 : pF2 m0 (aUp m1 627 x (rDg L (mem 605) x)) := fun o i a b => (aUp_nn (by omega)).trans ((q1 o i (by omega) (by omega) b).trans (f o i a b))
    rw [k4]
    rw [e5] at f1 ⊢
    refine ⟨fun le => ⟨⟨by omega, by omega⟩, ih (x + 1) _ (by omega) (by omega) f1 fun j a b => ?_⟩, fun gt => bad ⟨x, hx, by omega, gt⟩ _ f1⟩
    by_cases z : j = x
    · rw [z, aUp_re]; exact ⟨rfl, le⟩
    · rw [aUp_ri z, q1 627 j (by decide) (by decide) (by omega)]
      exact g7 j a (by omega)
theorem st_packed {E : EN} (hE : Ep E) : stI E 1199 (iAll jC) mX11_packed mX12_packed 1 := by
  refine obs_pair fun mem av hl hr hC => ?_
  obtain ⟨p, rfl⟩ := one_arg hl
  have hp : R32 p := hr p (by simp)
  obtain ⟨L, hy, hm⟩ := jC_law hC
  have hok := hC.2.2.1.1
  have hR := hC.2.2.1.2.1
  have n0 := hok.1
  have n10 := hok.2.1
  have l99 : mem 605 4 ≤ 99 := hok.2.2.2.2.2.2.2.1
  have e10 : mem 2 10 = mem 605 7 := hR.1
  have e4 : mem (2 + 8) 1 = mem 605 4 := hR.2.2.2 1 (by decide) (by decide)
  by_cases hpl : p = -1 ∨ (0 ≤ p ∧ p < mem 605 7)
  · -- what fewestDays needs
    have F : ∀ (Q : Int → Mm → Prop), (∀ m2 : Mm, pF1 mem m2 → m2 576 3 = mem 605 7 → m2 576 4 = mem 605 4 → (∀ j, 0 ≤ j → j < mem 605 7 → m2 577 j = rDg L (mem 605) j ∧ rDg L (mem 605) j ≤ mem 605 4) → VM E mX4_fewestDays (1197 + 1) m2 67 [(0, aR 576), (2, aI 0)] [] (retI Q)) → ((∃ j, 0 ≤ j ∧ j < mem 605 7 ∧ mem 605 4 < rDg L (mem 605) j) → ∀ m2 : Mm, pF1 mem m2 → Q (-1) m2) → CI E mX4_fewestDays 1198 mem [aR 576, aR 2] Q := by
      intro Q good bad
      refine eX4_fewestDays (k := 1197) (rX4_fewestDays_0 hE isYd2 (s_fd_l hE hR hy hok n10 good bad (mem 605 7).toNat 0 _ (by decide) (by omega) (fun o i a b c => by rw [aUp_nn (by omega), aUp_nn (by omega)]) ?_ ?_ fun j a b => absurd b (by omega)))
      · rw [aUp_nn (by omega), aUp_re, e10]; omega
      · rw [aUp_re, aUp_nn (by omega)]; exact e4
    have A : ∀ (Q : Int → Mm → Prop), CI E mX4_fewestDays 1198 mem [aR 576, aR 2] (fun r2 m1 => ((p = (-1) → Q r2 m1) ∧ (¬ p = (-1) → ((¬ r2 = (-1) → (0 ≤ p ∧ p < 10) ∧ Q (m1 579 p) m1) ∧ (r2 = (-1) → Q r2 m1))))) → CI E mX11_packed 1199 mem [aR 0, aI p] Q := fun Q h =>
      eX11_packed (k := 1198) hp (rX11_packed_0 hE ⟨fun _ => h, fun c _ => s_has2 hE hC hp (fun _ _ => ⟨fun _ => h, fun d => absurd d (by decide)⟩) fun d => absurd d (by omega)⟩)
    have M : ∀ (m1 : Mm) (Q : Int → Mm → Prop), rEq mem m1 → jC m1 → (∀ m2 : Mm, m2 605 = mem 605 → mL m2 L → m2 603 20 = 0 → rEq m1 m2 → VM E mX12_packed (1198 + 1) m2 30 [(0, aR 603), (1, aI p), (2, aI (mem 605 7)), (3, aI 0)] [] (retI Q)) → CI E mX12_packed 1199 m1 [aR 603, aI p] Q := by
      intro m1 Q q1 hC1 h
      obtain ⟨hC2, e, hL, h20, hth⟩ := thr_all hm q1 hC1
      have g := h _ e hL h20 hth
      refine eX12_packed (k := 1198) hp (rX12_packed_0 hE ?_)
      rw [show m1 605 7 = mem 605 7 by rw [rEq_605 q1]]
      exact ⟨fun _ => g, fun c _ => m_isP2 (k := 1197) hE hC2 hp (fun _ _ => ⟨fun _ => g, fun d => absurd d (by decide)⟩) fun d => absurd d (by rw [e]; omega)⟩
    by_cases hb : ∃ j, 0 ≤ j ∧ j < mem 605 7 ∧ mem 605 4 < rDg L (mem 605) j
    · have no : ∀ m2 : Mm, (∀ j, 0 ≤ j → j < mem 605 7 → m2 577 j = rDg L (mem 605) j ∧ rDg L (mem 605) j ≤ mem 605 4) → False := fun m2 h => by
        obtain ⟨j, a, b, c⟩ := hb
        have := (h j a b).2
        omega
      have no2 : ∀ m2 : Mm, (∀ j, 0 ≤ j → j < mem 605 7 → m2 627 j = rDg L (mem 605) j ∧ rDg L (mem 605) j ≤ mem 605 4) → False := fun m2 h => by
        obtain ⟨j, a, b, c⟩ := hb
        have := (h j a b).2
        omega
      refine ⟨-1, fun Q hQ => A Q (F _ (fun m2 _ _ _ h => absurd (no m2 h) id) fun _ m2 g => ⟨fun _ => hQ m2 (pF1_rEq g), fun _ => ⟨fun q => absurd rfl q, fun _ => hQ m2 (pF1_rEq g)⟩⟩), fun m1 Q q1 hC1 hQ => M m1 Q q1 hC1 fun m2 e hL h20 hth => m_fd_l hE e hL h20 hok n10 rfl (fun m3 _ h => absurd (no2 m3 h) id) (fun _ m3 g => hQ m3 (rEq_tr hth (pF2_rEq g))) (mem 605 7).toNat 0 m2 (by decide) (by omega) (fun _ _ _ _ => rfl) fun j a b => absurd b (by omega)⟩
    · have hd : ∀ j, 0 ≤ j → j < mem 605 7 → 1 ≤ rDg L (mem 605) j ∧ rDg L (mem 605) j ≤ mem 605 4 := fun j a b => ⟨rDg_le.1, Classical.byContradiction fun q => hb ⟨j, a, b, by omega⟩⟩
      obtain ⟨X, f, x0, xN, hf, hno⟩ := pk_first hd l99 n0 n10
      refine ⟨if p = -1 then X else f p, fun Q hQ => A Q (F _ (fun m2 g g3 g4 h => s_fd2 hE hd l99 n0 n10 xN hf hno (fun m3 w1 w2 => ⟨fun c => ?_, fun c => ⟨fun _ => ⟨⟨by omega, by omega⟩, ?_⟩, fun q => absurd q (by omega)⟩⟩) X.toNat 0 m2 (by decide) (by omega) g g3 g4 fun j a b => (h j a b).1) fun q => absurd q hb), fun m1 Q q1 hC1 hQ => M m1 Q q1 hC1 fun m2 e hL h20 hth => m_fd_l hE e hL h20 hok n10 rfl (fun m3 g h => m_fd2 hE hd l99 n0 n10 xN hpl (by rw [e]) (by rw [e]) hf hno (fun m4 w => hQ m4 (rEq_tr hth (pF2_rEq w))) X.toNat 0 m3 (by decide) (by omega) g fun j a b => (h j a b).1) (fun q => absurd q hb) (mem 605 7).toNat 0 m2 (by decide) (by omega) (fun _ _ _ _ => rfl) fun j a b => absurd b (by omega)⟩
      · have := hQ m3 (pF1_rEq w1)
        rw [if_pos c] at this
        exact this
      · have := hQ m3 (pF1_rEq w1)
        rw [if_neg c] at this
        rw [w2 p (by omega) (by omega)]
        exact this
  · refine ⟨-1, fun Q hQ => ?_, fun m1 Q q1 hC1 hQ => ?_⟩
    · exact eX11_packed (k := 1198) hp (rX11_packed_0 hE ⟨fun c => absurd (Or.inl c) hpl, fun c _ => s_has2 hE hC hp (fun a b => absurd (Or.inr ⟨a, b⟩) hpl) fun _ => ⟨fun d => absurd rfl d, fun _ => hQ mem rEq_rf⟩⟩)
    · obtain ⟨hC2, e, hL, h20, hth⟩ := thr_all hm q1 hC1
      exact eX12_packed (k := 1198) hp (rX12_packed_0 hE ⟨fun c => absurd (Or.inl c) hpl, fun c _ => m_isP2 (k := 1197) hE hC2 hp (fun a b => absurd (Or.inr ⟨a, by rw [e] at b; exact b⟩) hpl) fun _ => ⟨fun d => absurd rfl d, fun _ => hQ _ hth⟩⟩)
