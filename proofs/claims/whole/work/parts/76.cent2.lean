theorem rAg_out {r : Rw} (h : r 7 ≤ 10) {i : Int} (hi : i < 3 ∨ 80 ≤ i) : rAg r i = r i := by
  unfold rAg
  rw [if_neg (by omega), if_neg (by omega)]
def mD (m0 m : Mm) (L : LW) (r : Rw) (z : Int) : Prop := pMd m0 m L r ∧ m 603 58 = z
theorem mD_p {m0 m m2 : Mm} {L : LW} {r r2 : Rw} {z : Int} (h : mD m0 m L r z) (hf : pFr m m2) (h5 : m2 605 = r2) (ho : ∀ i, i < 3 ∨ 80 ≤ i → r2 i = r i) : mD m0 m2 L r2 z := by
  obtain ⟨⟨a, b, c, d⟩, e⟩ := h
  have k3 : ∀ i, i = 20 ∨ i = 58 → m2 603 i = m 603 i := fun i q => hf 603 i (by decide) (by decide) (by decide) (by decide) (by omega)
  exact ⟨⟨pap_fr a hf fun i q => by rw [h5, b]; exact ho i q, h5, mL_fr (by rw [h5, b]; exact ho 2 (by omega)) (fun i q => by rw [h5, b]; exact ho i (by omega)) c, (k3 20 (by omega)).trans d⟩, (k3 58 (by omega)).trans e⟩
theorem m_draw {E : EN} (hE : Ep E) {k : Nat} {m0 mem : Mm} {Q : Int → Mm → Prop} {L : LW} {r : Rw} {z p : Int} (hp : 0 < p) (hp2 : p < 1000) (hz : 0 ≤ z) (hz2 : z ≤ 1000003) (h : mD m0 mem L r z) (hQ : ∀ m2 : Mm, mD m0 m2 L r (rnd z) → Q ((rnd z).tmod p) m2) : CI E mX12_draw k mem [aR 603, aI p] Q := by
  obtain ⟨⟨⟨a1, a2, a3⟩, b, c, d⟩, h4⟩ := h
  have b1 := rnd_b hz
  have b2 := tmd_b b1.1 hp
  refine eX12_draw ⟨by omega, by omega⟩ (rX12_draw_0 hE ?_)
  rw [h4]
  refine ⟨⟨by omega, by omega⟩, ⟨by omega, by omega⟩, by omega, ⟨show (_ : Int) ≤ (rnd z).tmod p by omega, show (rnd z).tmod p < (_ : Int) by omega⟩, hQ _ ⟨⟨⟨fun o i x y => ?_, fun i x => ?_, fun i x y => ?_⟩, ?_, mL_fr ?_ (fun i x => ?_) c, ?_⟩, aUp_re⟩⟩
  · rw [aUp_nn (fun q => x (by unfold scr; omega))]; exact a1 o i x y
  · rw [aUp_nn (by omega)]; exact a2 i x
  · rw [aUp_nn (by omega)]; exact a3 i x y
  · rw [aUp_ne (by decide)]; exact b
  · rw [aUp_nn (by omega)]
  · rw [aUp_nn (by omega)]
  · rw [aUp_nn (by omega)]; exact d
theorem m_cen_t {E : EN} (hE : Ep E) {m0 mem : Mm} {Q : Int → Mm → Prop} {L : LW} {r : Rw} {z N x : Int} (hz : 0 ≤ z) (hz2 : z ≤ 1000003) (hok : rOk 999 r) (hx : 0 ≤ x) (hx2 : x < 1000) (h : mD m0 mem L r z) (nx : ∀ m2 : Mm, mD m0 m2 L (cAdd L r (rnd z) (rnd (rnd z))) (rnd (rnd z)) → VM E mX12_centuries (1198 + 1) m2 49 [(0, aR 603), (2, aI N), (3, aI (x + 1))] [] (retI Q)) : VM E mX12_centuries (1198 + 1) mem 91 [(0, aR 603), (2, aI N), (3, aI x)] [] (retI Q) := by
  have b1 := rnd_b hz
  have b2 := rnd_b b1.1
  have g1 := tmd_b b1.1 (show (0 : Int) < 32 by decide)
  have g2 := tmd_b b2.1 (show (0 : Int) < 6 by decide)
  have t139 : ∀ m2 : Mm, mD m0 m2 L (cAdd L r (rnd z) (rnd (rnd z))) (rnd (rnd z)) → VM E mX12_centuries (1198 + 1) m2 139 [(0, aR 603), (2, aI N), (3, aI x)] [] (retI Q) := fun m2 h2 =>
    rX12_centuries_139 (p0 := 0) hE ⟨⟨by omega, by omega⟩, nx m2 h2⟩
  refine rX12_centuries_91 (p0 := 0) hE (m_draw hE (by decide) (by decide) hz hz2 h fun m1 h1 => m_draw hE (by decide) (by decide) b1.1 (by omega) h1 fun m2 h2 => ?_)
  have e5 : m2 605 = r := h2.1.2.1
  have e7 : m2 605 7 = r 7 := by rw [e5]
  rw [e7]
  refine ⟨fun c7 => t139 m2 ?_, fun c7 rf rc => m_canLie (k := 1192) hE h2.1.2.2.2 h2.1.2.2.1 (Y := 999) (by decide) (by rw [e5]; exact hok) g2.1 g2.2 g1.1 g1.2 fun m3 q3 => ?_⟩
  · have e : cAdd L r (rnd z) (rnd (rnd z)) = r := if_neg fun q => by omega
    rw [e]; exact h2
  · have h3 : mD m0 m3 L r (rnd (rnd z)) := mD_p h2 (pFr_g q3) ((gFr_605 q3).trans e5) fun _ _ => rfl
    rw [e5]
    by_cases c : rLi L r ((rnd (rnd z)).tmod 6) ((rnd z).tmod 32) = true
    · rw [if_pos c]
      refine ⟨fun q => absurd q (by decide), fun _ _ _ => pMd_lay hE h3.1 hok c7 rf rc fun m4 p4 f4 => t139 m4 ?_⟩
      have e : cAdd L r (rnd z) (rnd (rnd z)) = rAd r ((rnd (rnd z)).tmod 6) ((rnd z).tmod 32) 0 := if_pos ⟨c, c7⟩
      rw [e]
      exact ⟨p4, (f4 603 58 (by decide)).trans h3.2⟩
    · rw [if_neg c]
      have e : cAdd L r (rnd z) (rnd (rnd z)) = r := if_neg fun q => c q.1
      rw [e] at t139
      exact ⟨fun _ => t139 m3 h3, fun q => absurd rfl q⟩
theorem m_cen_l {E : EN} (hE : Ep E) {m0 : Mm} {Q : Int → Mm → Prop} {L : LW} {N : Int} (hN : N ≤ 100) : ∀ (n : Nat) (mem : Mm) (r : Rw) (z x : Int), mD m0 mem L r z → rOk 999 r → 0 ≤ z → z ≤ 1000003 → 0 ≤ x → x + n = N → (∀ m2 z2, mD m0 m2 L (cLp L n r z) z2 → VM E mX12_centuries (1198 + 1) m2 145 [(0, aR 603)] [] (retI Q)) → VM E mX12_centuries (1198 + 1) mem 49 [(0, aR 603), (2, aI N), (3, aI x)] [] (retI Q) := by
  intro n
  induction n with
  | zero =>
    intro mem r z x h hok hz hz2 hx hn hQ
    exact rX12_centuries_49 (p0 := 0) hE ⟨fun _ => hQ mem z h, fun u => absurd u (by omega)⟩
  | succ n ih =>
    intro mem r z x h hok hz hz2 hx hn hQ
    have e3 : mem 605 (3 + 0) = r 3 := by rw [h.1.2.1]; rfl
    refine rX12_centuries_49 (p0 := 0) hE ⟨fun u => absurd u (by omega), fun u => eX12_term (by decide) (rX12_term_0 hE ⟨by decide, by decide, ?_⟩)⟩
    rw [e3]
    refine ⟨fun c => ?_, fun c => ?_⟩
    · have e : cLp L (n + 1) r z = r := if_pos c
      rw [e] at hQ
      exact hQ mem z h
    · have e : cLp L (n + 1) r z = cLp L n (cAdd L (cBeg L r z) (rnd (rnd z)) (rnd (rnd (rnd z)))) (rnd (rnd (rnd z))) := if_neg (by omega)
      rw [e] at hQ
      have b1 := rnd_b hz
      have b2 := rnd_b b1.1
      have b3 := rnd_b b2.1
      have nx : ∀ m2 : Mm, mD m0 m2 L (cAdd L (cBeg L r z) (rnd (rnd z)) (rnd (rnd (rnd z)))) (rnd (rnd (rnd z))) → VM E mX12_centuries (1198 + 1) m2 49 [(0, aR 603), (2, aI N), (3, aI (x + 1))] [] (retI Q) := fun m2 h2 =>
        ih m2 _ _ (x + 1) h2 (cAdd_ok (cBeg_ok hok c) b2.1 b3.1) b3.1 (by omega) (by omega) (by omega) hQ
      refine m_draw hE (by decide) (by decide) hz hz2 h fun m1 h1 => eX12_term (by decide) (rX12_term_0 hE ⟨by decide, by decide, ?_⟩)
      have e5 : m1 605 (3 + 2) = r 5 := by rw [h1.1.2.1]; rfl
      have e6 : m1 605 = r := h1.1.2.1
      rw [e5]
      refine ⟨fun d => ?_, fun d => ?_⟩
      · have eb : cBeg L r z = (rTn L r).1 := if_neg (by omega)
        rw [eb] at nx
        refine pMd_turn hE h1.1 (by decide) hok fun m2 p2 _ f2 => m_cen_t hE b1.1 (by omega) (by rw [← eb]; exact cBeg_ok hok c) hx (by omega) ⟨p2, (f2 603 58 (by decide) (by decide) (by decide) (by decide) (by omega)).trans h1.2⟩ nx
      · have eb : cBeg L r z = rAg r := if_pos d
        rw [eb] at nx
        refine m_age (k := 1197) hE (Y := 999) (by decide) (by rw [e6]; exact hok) (m_cen_t hE b1.1 (by omega) (by rw [← eb]; exact cBeg_ok hok c) hx (by omega) (mD_p h1 (fun o i a _ _ _ _ => if_neg a) ?_ fun i q => rAg_out hok.2.1 q) nx)
        funext i
        rw [← e6]
        exact if_pos rfl
theorem m_cen_w {E : EN} (hE : Ep E) {m0 : Mm} {Q : Int → Mm → Prop} {c : Int} (hc : 0 ≤ c) (hc2 : c ≤ 10) (e60 : m0 603 60 = c) (hQ : ∀ m2 : Mm, (∀ o i, o ≠ 635 → m2 o i = m0 o i) → (∀ p, 0 ≤ p → p < c → m2 635 (3 * p) = m0 605 (8 + p) ∧ m2 635 (3 * p + 1) = m0 605 (18 + p) ∧ m2 635 (3 * p + 2) = m0 605 (38 + p)) → CV E mX12_putBack 1198 m2 [aR 603, aI 16] (fun m1 => (R32 (m1 603 60) → CI E mX12_tell 1198 m1 [aR 603, aI (m1 603 60)] Q))) : ∀ (n : Nat) (mem : Mm) (x : Int), 0 ≤ x → x + n = c → (∀ o i, o ≠ 635 → mem o i = m0 o i) → (∀ p, 0 ≤ p → p < x → mem 635 (3 * p) = m0 605 (8 + p) ∧ mem 635 (3 * p + 1) = m0 605 (18 + p) ∧ mem 635 (3 * p + 2) = m0 605 (38 + p)) → VM E mX12_centuries (1198 + 1) mem 158 [(0, aR 603), (3, aI x)] [] (retI Q) := by
  intro n
  induction n with
  | zero =>
    intro mem x h0 h1 h2 h3
    have e : mem 603 60 = c := (h2 603 60 (by decide)).trans e60
    exact rX12_centuries_158 (p0 := 0) (p1 := 0) hE ⟨fun _ => hQ mem h2 fun p a b => h3 p a (by omega), fun q => absurd q (by omega)⟩
  | succ n ih =>
    intro mem x h0 h1 h2 h3
    have e : mem 603 60 = c := (h2 603 60 (by decide)).trans e60
    refine rX12_centuries_158 (p0 := 0) (p1 := 0) hE ⟨fun q => absurd q (by omega), fun _ => ⟨⟨by omega, by omega⟩, ⟨by omega, by omega⟩, ⟨by omega, by omega⟩, ⟨by omega, by omega⟩, ⟨by omega, by omega⟩, ⟨by omega, by omega⟩, ⟨by omega, by omega⟩, ⟨by omega, by omega⟩, ⟨by omega, by omega⟩, ⟨by omega, by omega⟩, ⟨by omega, by omega⟩, ⟨by omega, by omega⟩, ⟨by omega, by omega⟩, ih _ (x + 1) (by omega) (by omega) (fun o i q => ?_) fun p a b => ?_⟩⟩
    · rw [aUp_rn q, aUp_rn q, aUp_rn q]; exact h2 o i q
    · by_cases z : p = x
      · subst z
        refine ⟨?_, ?_, ?_⟩
        · rw [aUp_ri (by omega), aUp_ri (by omega), aUp_re]; exact h2 605 _ (by decide)
        · rw [aUp_ri (by omega), aUp_re]; exact h2 605 _ (by decide)
        · rw [aUp_re]; exact h2 605 _ (by decide)
      · rw [aUp_ri (by omega), aUp_ri (by omega), aUp_ri (by omega), aUp_ri (by omega), aUp_ri (by omega), aUp_ri (by omega), aUp_ri (by omega), aUp_ri (by omega), aUp_ri (by omega)]
        exact h3 p a (by omega)
