theorem pk_some {d : Int → Int} {light days N : Int} (hd : ∀ j, 0 ≤ j → j < N → 1 ≤ d j ∧ d j ≤ light) (hl : light ≤ 99) (hN : N ≤ 10) : ∀ (m : Nat) (k : Int) (a : Int → Int) (u : Int), k + m = N → 0 ≤ k → u ≤ k → pW a u → u + m ≤ days → pk d light days m k a u ≠ none := by
  intro m
  induction m with
  | zero => intro k a u _ _ _ _ _ h; cases h
  | succ m ih =>
    intro k a u hk h0 hu hW hD
    have dk := hd k h0 (by omega)
    have lp : ∀ (n : Nat) (i : Int), i + n = 12 → 0 ≤ i → i ≤ u → pkI d light days (fun a2 u2 => pk d light days m (k + 1) a2 u2) k a u n i ≠ none := by
      intro n
      induction n with
      | zero => intro i hn hi hi2; omega
      | succ n ihn =>
        intro i hn hi hi2
        have nb : ¬ (days ≤ i ∨ u < i) := by omega
        have wi := hW.2.2 i hi (by omega)
        by_cases le : a i + d k ≤ light
        · cases hr : pk d light days m (k + 1) (rUp a i (a i + d k)) (if i = u then u + 1 else u) with
          | some f => rw [pkI_in nb le hr]; intro h; cases h
          | none =>
            rw [pkI_out nb le hr]
            by_cases iu : i = u
            · rw [if_pos iu] at hr
              have w := pW_up hW hi hi2 (by omega) dk.1 le hl
              rw [if_pos iu] at w
              exact absurd hr (ih (k + 1) _ (u + 1) (by omega) (by omega) (by omega) w (by omega))
            · exact ihn (i + 1) (by omega) (by omega) (by omega)
        · rw [pkI_big nb (by omega)]
          refine ihn (i + 1) (by omega) (by omega) (Classical.byContradiction fun q => ?_)
          have := wi.2.2.2 (by omega)
          omega
    exact lp 12 0 (by decide) (by decide) hW.1
def pFm (k : Int) (m m2 : Mm) : Prop := ∀ o j, ¬ (o = 628 ∧ k ≤ j) → o ≠ 629 → ¬ (o = 630 ∧ k < j) → m2 o j = m o j
theorem m_pk_l {E : EN} (hE : Ep E) {K : Nat} {Q : Int → Mm → Prop} {d : Int → Int} {light days N : Int} (hd : ∀ j, 0 ≤ j → j < N → 1 ≤ d j ∧ d j ≤ light) (hl : light ≤ 99) (hN : N ≤ 10) (hD : 0 ≤ days) (hD2 : days ≤ 10) : ∀ (m : Nat) (k : Int) (mem : Mm) (a : Int → Int) (u : Int), k + m = N → 0 ≤ k → u ≤ k → pW a u → (∀ j, 0 ≤ j → j < days → mem 629 j = a j) → (∀ j, 0 ≤ j → j < N → mem 627 j = d j) → mem 605 4 = light → mem 628 k = -1 → mem 630 k = u →
    (∀ (m2 : Mm) (f : Int → Int), pk d light days m k a u = some f → pFm k mem m2 → (∀ j, k ≤ j → j < N → m2 628 j = f j) → Q 1 m2) →
    (∀ m2 : Mm, pk d light days m k a u = none → pFm k mem m2 → (∀ j, 0 ≤ j → j < days → m2 629 j = a j) → VM E mX12_isPacked (K + 1) m2 44 [(0, aR 603), (1, aI days), (2, aI N), (3, aI (k - 1))] [] (retI Q)) → VM E mX12_isPacked (K + 1) mem 44 [(0, aR 603), (1, aI days), (2, aI N), (3, aI k)] [] (retI Q) := by
  intro m
  induction m with
  | zero =>
    intro k mem a u hk h0 hu hW g9 g7 g4 g8 g3 q1 q0
    exact rX12_isPacked_44 hE ⟨fun x => absurd x (by omega), fun _ => ⟨fun _ => rX12_isPacked_222 (p0 := 0) hE ⟨fun x => absurd (show k = N by omega) x, fun _ => q1 mem _ rfl (fun _ _ _ _ _ => rfl) fun j x y => absurd y (by omega)⟩, fun x => absurd x (by omega)⟩⟩
  | succ m ih =>
    intro k mem a u hk h0 hu hW g9 g7 g4 g8 g3 q1 q0
    have dk := hd k h0 (by omega)
    have lp : ∀ (n : Nat) (i : Int) (m1 : Mm), i + n = 12 → 0 ≤ i → i ≤ u + 1 → i ≤ days → pFm k mem m1 → m1 628 k = i - 1 → (∀ j, 0 ≤ j → j < days → m1 629 j = if j = i - 1 then a j + d k else a j) →
        (∀ (m2 : Mm) (f : Int → Int), pkI d light days (fun a2 u2 => pk d light days m (k + 1) a2 u2) k a u n i = some f → pFm k mem m2 → (∀ j, k ≤ j → j < N → m2 628 j = f j) → Q 1 m2) →
        (∀ m2 : Mm, pkI d light days (fun a2 u2 => pk d light days m (k + 1) a2 u2) k a u n i = none → pFm k mem m2 → (∀ j, 0 ≤ j → j < days → m2 629 j = a j) → VM E mX12_isPacked (K + 1) m2 44 [(0, aR 603), (1, aI days), (2, aI N), (3, aI (k - 1))] [] (retI Q)) → VM E mX12_isPacked (K + 1) m1 44 [(0, aR 603), (1, aI days), (2, aI N), (3, aI k)] [] (retI Q) := by
      intro n
      induction n with
      | zero => intro i m1 hn hi hi2; omega
      | succ n ihn =>
        intro i m1 hn hi hi2 hi3 f1 f8 f9 r1 r0
        have h82 : ∀ m2 : Mm, pFm k mem m2 → m2 628 k = i - 1 → (∀ j, 0 ≤ j → j < days → m2 629 j = a j) → VM E mX12_isPacked (K + 1) m2 82 [(0, aR 603), (1, aI days), (2, aI N), (3, aI k)] [] (retI Q) := by
          intro m2 w1 w8 w9
          have t117 : (days ≤ i ∨ u < i) → VM E mX12_isPacked (K + 1) (aUp m2 628 k i) 117 [(0, aR 603), (1, aI days), (2, aI N), (3, aI k)] [] (retI Q) := fun hb => by
            refine rX12_isPacked_117 hE ⟨⟨h0, by omega⟩, ⟨by omega, by omega⟩, ?_⟩
            rw [show k + -1 = k - 1 by omega]
            refine r0 _ (pkI_no hb) (fun o j x y z => ?_) fun j x y => ?_
            · rw [aUp_nn (by omega), aUp_nn (by omega)]; exact w1 o j x y z
            · rw [aUp_nn (by omega), aUp_nn (by omega)]; exact w9 j x y
          have e7 : m2 627 k = d k := (w1 627 k (by omega) (by decide) (by omega)).trans (g7 k h0 (by omega))
          have e3 : m2 630 k = u := (w1 630 k (by omega) (by decide) (by omega)).trans g3
          refine rX12_isPacked_82 hE ?_
          rw [w8, e7, e3, show i - 1 + 1 = i by omega]
          refine ⟨⟨h0, by omega⟩, ⟨by omega, by omega⟩, fun c => t117 (Or.inl (by omega)), fun c => ⟨fun iu => ?_, fun iu => t117 (Or.inr iu)⟩⟩
          have nb : ¬ (days ≤ i ∨ u < i) := by omega
          have e9 : m2 629 i = a i := w9 i hi (by omega)
          have wi := hW.2.2 i hi (by omega)
          rw [e9]
          refine ⟨⟨hi, by omega⟩, ⟨h0, by omega⟩, ⟨by omega, by omega⟩, eX12_term (by decide) (rX12_term_0 hE ⟨by decide, by decide, ?_⟩)⟩
          have k4 : (aUp (aUp m2 628 k i) 629 i (a i + d k)) 605 (3 + 1) = light := by
            rw [aUp_nn (by omega), aUp_nn (by omega)]
            exact (w1 605 4 (by omega) (by decide) (by omega)).trans g4
          have k8 : (aUp (aUp m2 628 k i) 629 i (a i + d k)) 628 k = i := by rw [aUp_nn (by omega), aUp_re]
          have k3 : (aUp (aUp m2 628 k i) 629 i (a i + d k)) 630 k = u := by rw [aUp_nn (by omega), aUp_nn (by omega), e3]
          have k9 : ∀ j, 0 ≤ j → j < days → (aUp (aUp m2 628 k i) 629 i (a i + d k)) 629 j = rUp a i (a i + d k) j := fun j x y => by
            rw [aUp_at]
            unfold rUp
            by_cases z : j = i
            · rw [if_pos ⟨rfl, z⟩, if_pos z]
            · rw [if_neg (fun q => z q.2), if_neg z, aUp_nn (by omega)]; exact w9 j x y
          have kf : pFm k mem (aUp (aUp m2 628 k i) 629 i (a i + d k)) := fun o j x y z => by
            rw [aUp_nn (by omega), aUp_nn (by omega)]; exact w1 o j x y z
          generalize aUp (aUp m2 628 k i) 629 i (a i + d k) = m4 at k4 k8 k3 k9 kf
          rw [k4]
          have l9 : ∀ m5 : Mm, (∀ j, 0 ≤ j → j < days → m5 629 j = rUp a i (a i + d k) j) → ∀ j, 0 ≤ j → j < days → m5 629 j = if j = i + 1 - 1 then a j + d k else a j := fun m5 h j x y => by
            rw [h j x y]
            unfold rUp
            by_cases z : j = i
            · rw [if_pos z, if_pos (by omega), z]
            · rw [if_neg z, if_neg (by omega)]
          refine ⟨fun big => ihn (i + 1) m4 (by omega) (by omega) (by omega) (by omega) kf (by omega) (l9 m4 k9) (fun m5 f w => r1 m5 f ((pkI_big nb big).trans w)) fun m5 w => r0 m5 ((pkI_big nb big).trans w), fun le => ?_⟩
          have on : ∀ (m5 : Mm) (u2 : Int), u2 = (if i = u then u + 1 else u) → (∀ o j, ¬ (o = 630 ∧ j = k + 1) → ¬ (o = 628 ∧ j = k + 1) → m5 o j = m4 o j) → m5 630 (k + 1) = u2 → m5 628 (k + 1) = -1 → VM E mX12_isPacked (K + 1) m5 44 [(0, aR 603), (1, aI days), (2, aI N), (3, aI (k + 1))] [] (retI Q) := by
            intro m5 u2 hu2 v1 v3 v8
            subst hu2
            have v5 : pFm k mem m5 := fun o j x y z => (v1 o j (by omega) (by omega)).trans (kf o j x y z)
            have fr : ∀ m6 : Mm, pFm (k + 1) m5 m6 → pFm k mem m6 := fun m6 h o j x y z => (h o j (by omega) y (by omega)).trans (v5 o j x y z)
            refine ih (k + 1) m5 (rUp a i (a i + d k)) _ (by omega) (by omega) (by split <;> omega) (pW_up hW hi (by omega) (by omega) dk.1 le hl) (fun j x y => (v1 629 j (by omega) (by omega)).trans (k9 j x y)) (fun j x y => (v5 627 j (by omega) (by decide) (by omega)).trans (g7 j x y)) ((v5 605 4 (by omega) (by decide) (by omega)).trans g4) v8 v3 (fun m6 f w1 w2 w3 => r1 m6 _ (pkI_in nb le w1) (fr m6 w2) fun j x y => ?_) (fun m6 w1 w2 w3 => ?_)
            · unfold rUp
              by_cases z : j = k
              · rw [if_pos z, z, w2 628 k (by omega) (by decide) (by omega), v1 628 k (by omega) (by omega), k8]
              · rw [if_neg z]; exact w3 j (by omega) y
            · rw [show k + 1 - 1 = k by omega]
              exact ihn (i + 1) m6 (by omega) (by omega) (by omega) (by omega) (fr m6 w2) (by rw [w2 628 k (by omega) (by decide) (by omega), v1 628 k (by omega) (by omega), k8]; omega) (l9 m6 w3) (fun m7 f w => r1 m7 f ((pkI_out nb le w1).trans w)) fun m7 w => r0 m7 ((pkI_out nb le w1).trans w)
          rw [k8, k3]
          refine ⟨⟨by omega, by omega⟩, fun ne => ⟨⟨by omega, by omega⟩, on _ u (by rw [if_neg ne]) (fun o j x y => by rw [aUp_nn y, aUp_nn x]) (by rw [aUp_nn (by omega), aUp_re]) aUp_re⟩, fun eq => ⟨⟨by omega, by omega⟩, ⟨by omega, by omega⟩, on _ (u + 1) (by rw [if_pos eq]) (fun o j x y => by rw [aUp_nn y, aUp_nn x]) (by rw [aUp_nn (by omega), aUp_re]) aUp_re⟩⟩
        refine rX12_isPacked_44 hE ⟨fun x => absurd x (by omega), fun _ => ⟨fun x => absurd x (by omega), fun _ => ?_⟩⟩
        rw [f8]
        refine ⟨⟨h0, by omega⟩, fun x => h82 m1 f1 f8 fun j y z => by rw [f9 j y z, if_neg (by omega)], fun x => ⟨⟨x, by omega⟩, ⟨h0, by omega⟩, ?_, ?_⟩⟩
        · have wi := hW.2.2 (i - 1) x (by omega)
          rw [f9 (i - 1) x (by omega), if_pos rfl, (f1 627 k (by omega) (by decide) (by omega)).trans (g7 k h0 (by omega))]
          exact ⟨by omega, by omega⟩
        · rw [f9 (i - 1) x (by omega), if_pos rfl, (f1 627 k (by omega) (by decide) (by omega)).trans (g7 k h0 (by omega))]
          refine h82 _ (fun o j y z w => (aUp_nn (by omega)).trans (f1 o j y z w)) ((aUp_nn (by omega)).trans f8) fun j y z => ?_
          rw [aUp_at]
          by_cases q : j = i - 1
          · rw [if_pos ⟨rfl, q⟩, q]; omega
          · rw [if_neg (fun w => q w.2), f9 j y z, if_neg q]
    exact lp 12 0 mem (by decide) (by decide) (by have := hW.1; omega) hD (fun _ _ _ _ _ => rfl) g8 (fun j x y => by rw [g9 j x y, if_neg (by omega)]) q1 q0
theorem m_isP {E : EN} (hE : Ep E) {K : Nat} {mem : Mm} {Q : Int → Mm → Prop} {d : Int → Int} {light days N : Int} (hd : ∀ j, 0 ≤ j → j < N → 1 ≤ d j ∧ d j ≤ light) (hl : light ≤ 99) (h0 : 0 ≤ N) (hN : N ≤ 10) (hD : 0 ≤ days) (hD2 : days ≤ 10) (g5 : mem 605 7 = N) (g7 : ∀ j, 0 ≤ j → j < N → mem 627 j = d j) (g4 : mem 605 4 = light)
    (q1 : ∀ (m2 : Mm) (f : Int → Int), pk d light days N.toNat 0 (fun _ => 0) 0 = some f → (∀ o j, ¬ (628 ≤ o ∧ o ≤ 630) → m2 o j = mem o j) → (∀ j, 0 ≤ j → j < N → m2 628 j = f j) → Q 1 m2)
    (q0 : ∀ m2 : Mm, pk d light days N.toNat 0 (fun _ => 0) 0 = none → (∀ o j, ¬ (628 ≤ o ∧ o ≤ 630) → m2 o j = mem o j) → Q 0 m2) : CI E mX12_isPacked (K + 1) mem [aR 603, aI days] Q := by
  refine eX12_isPacked ⟨by omega, by omega⟩ (rX12_isPacked_0 hE ?_)
  rw [g5]
  have lp : ∀ (n : Nat) (x : Int) (m1 : Mm), 0 ≤ x → x + n = days → (∀ o j, ¬ (628 ≤ o ∧ o ≤ 630) → m1 o j = mem o j) → (∀ j, 0 ≤ j → j < x → m1 629 j = 0) → VM E mX12_isPacked (K + 1) m1 10 [(0, aR 603), (1, aI days), (2, aI N), (3, aI x)] [] (retI Q) := by
    intro n
    induction n with
    | zero =>
      intro x m1 hx hn f1 f9
      have e : ∀ o j, ¬ (628 ≤ o ∧ o ≤ 630) → (aUp (aUp m1 628 0 (-1)) 630 0 0) o j = mem o j := fun o j h => by rw [aUp_nn (by omega), aUp_nn (by omega)]; exact f1 o j h
      have zz : pW (fun _ => 0) 0 := ⟨by decide, by decide, fun j _ _ => ⟨Int.le_refl 0, show (0 : Int) ≤ 99 by decide, fun q => absurd q (by omega), fun _ => rfl⟩⟩
      refine rX12_isPacked_10 hE ⟨fun _ => m_pk_l hE hd hl hN hD hD2 N.toNat 0 _ (fun _ => 0) 0 (by omega) (by decide) (by decide) zz (fun j y z => ?_) (fun j y z => (e 627 j (by decide)).trans (g7 j y z)) ((e 605 4 (by decide)).trans g4) ?_ aUp_re (fun m2 f w1 w2 w3 => q1 m2 f w1 (fun o j h => (w2 o j (by omega) (by omega) (by omega)).trans (e o j h)) w3) fun m2 w1 w2 w3 => ?_, fun y => absurd y (by omega)⟩
      · rw [aUp_nn (by omega), aUp_nn (by omega)]; exact f9 j y (by omega)
      · rw [aUp_nn (by omega), aUp_re]
      · exact rX12_isPacked_44 hE ⟨fun _ => rX12_isPacked_222 (p0 := 0) hE ⟨fun _ => q0 m2 w1 fun o j h => (w2 o j (by omega) (by omega) (by omega)).trans (e o j h), fun z => absurd z (by omega)⟩, fun z => absurd z (by omega)⟩
    | succ n ihn =>
      intro x m1 hx hn f1 f9
      refine rX12_isPacked_10 hE ⟨fun y => absurd y (by omega), fun _ => ⟨⟨hx, by omega⟩, ⟨by omega, by omega⟩, ihn (x + 1) _ (by omega) (by omega) (fun o j h => (aUp_nn (by omega)).trans (f1 o j h)) fun j y z => ?_⟩⟩
      by_cases q : j = x
      · rw [q, aUp_re]
      · rw [aUp_ri q]; exact f9 j y (by omega)
  exact lp days.toNat 0 mem (by decide) (by omega) (fun _ _ _ => rfl) fun j y z => absurd z (by omega)
