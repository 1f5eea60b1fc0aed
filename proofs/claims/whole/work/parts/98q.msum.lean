-- the model asks a SUM or a TEST of ORDERS (its cast wraps)
theorem sg_doneM2 {x y : Int → Int} {L : Nat} {a b : Int} {F : Rw → Int} {lf : Int → Int → Int} {w : Rw} (h : Seg (goM true) x y L a b F) (hb : b ≤ 400) (vF : vB F) (hw : wOk w) (hlf : ∀ o c, 0 ≤ o → o < 11 → 0 ≤ c → c ≤ 2000 → (o = 5 → c < 10) → (5 < o ∧ o < 11 → c < 32) → lf o c = lfT true w o c) : ∃ n, mGo x y lf b n a [] = some (F w) := by
  obtain ⟨n, e⟩ := sg_doneM h hb vF w hw
  exact ⟨n, by rw [← e]; exact mGo_lf hlf _ _ _⟩
theorem lf_O {m : Mm} {r : Rw} {dn mv : Int} (h5 : m 605 = r) (h1 : m 622 1 = r 3) (h2 : m 622 2 = r 7) (h3 : m 622 3 = dn) (h4 : m 622 4 = mv) (o c : Int) (o0 : 0 ≤ o) (o1 : o < 11) (c0 : 0 ≤ c) (_ : c ≤ 2000) (c5 : o = 5 → c < 10) (c6 : 5 < o ∧ o < 11 → c < 32) : mLf m 1 o c = lfT true (wO r dn mv) o c := by
  unfold mLf lfT
  by_cases z : o = 0
  · rw [if_pos z, if_pos z]
  rw [if_neg z, if_neg z, if_neg (by decide), if_pos rfl]
  by_cases l : o < 5
  · rw [if_pos l, if_pos l]
    have : o = 1 ∨ o = 2 ∨ o = 3 ∨ o = 4 := by omega
    rcases this with rfl | rfl | rfl | rfl
    · exact h1
    · exact h2
    · exact h3
    · exact h4
  rw [if_neg l, if_neg l, h5]
  by_cases e5 : o = 5
  · subst e5
    rw [if_pos rfl, show wBase (5 - 1) = 4 from rfl, wO_p c0 (c5 rfl)]
    by_cases q : c < r 7
    · rw [if_pos q, if_pos ⟨c0, q⟩]
    · rw [if_neg q, if_neg fun z => q z.2]
  rw [if_neg e5]
  have hc := c6 ⟨by omega, o1⟩
  by_cases e6 : o = 6
  · subst e6
    rw [if_pos rfl, show wBase (6 - 1) = 14 from rfl, wO_k c0 hc]
  · rw [if_neg e6, show wBase (o - 1) = 46 by unfold wBase; rw [if_neg (by omega), if_neg (by omega)], wO_g c0 hc]
def sFr (m m2 : Mm) : Prop := ∀ o i, o ≠ 623 → ¬ (o = 603 ∧ (i = 20 ∨ i = 38 ∨ i = 39 ∨ i = 57)) → m2 o i = m o i
theorem sFr_tr {m m2 m3 : Mm} (h : sFr m m2) (h2 : sFr m2 m3) : sFr m m3 := fun o i a b => (h2 o i a b).trans (h o i a b)
theorem m_sumO {E : EN} (hE : Ep E) {k : Nat} {mem : Mm} {Q : Int → Mm → Prop} {r : Rw} {dn mv j lo hi : Int} {F : Rw → Int} (h5 : mem 605 = r) (hr : rOk 999 r) (hd : 0 ≤ dn ∧ dn ≤ 1000) (hm : -1 ≤ mv ∧ mv ≤ 1000) (h1 : mem 622 1 = r 3) (h2 : mem 622 2 = r 7) (h3 : mem 622 3 = dn) (h4 : mem 622 4 = mv) (h57 : mem 603 57 = 0) (hj : 0 ≤ j ∧ j < 95) (rj : R32 j) (e1 : mem 634 j = lo) (e2 : mem 634 (j + 1) = hi) (hS : mSg true (mem 614) (mem 615) lo hi F) (hb : hi ≤ 400) (vF : vB F)
    (hQ : ∀ v m2, sFr mem m2 → m2 603 20 = 0 → ((F (wO r dn mv) = bRK ∧ m2 603 57 = 1) ∨ (¬ F (wO r dn mv) = bRK ∧ m2 603 57 = 0 ∧ v = F (wO r dn mv))) → Q v m2) : CI E mX12_sumOf (k + 2 + 1) mem [aR 603, aI j] Q := by
  have hw := wO_ok hr hd hm
  have hlt := hS.2.1
  have h0 := hr.1
  have h10 := hr.2.1
  have fs : ∀ o i, ¬ (o = 603 ∧ i = 20) → (aUp mem 603 20 1) o i = mem o i := fun o i z => aUp_nn z
  have fo : ∀ o, o ≠ 603 → (aUp mem 603 20 1) o = mem o := fun o z => funext fun i => fs o i (by omega)
  have e20 : (aUp mem 603 20 1) 603 20 = 1 := aUp_re
  refine eX12_sumOf (k := k + 2) rj (rjX12_sumOf_0 (k := k + 2) hE ?_)
  rw [e1, e2]
  refine ⟨fun z => absurd h57 z, fun _ => ⟨⟨by omega, by omega⟩, ⟨by omega, by omega⟩, ⟨by omega, by omega⟩, fun _ r1 r2 => ?_, fun z => absurd z (by omega)⟩⟩
  generalize (aUp mem 603 20 1) = m1 at *
  obtain ⟨n, e⟩ := sg_doneM2 (lf := mLf m1 1) hS hb vF hw (lf_O ((fo _ (by decide)).trans h5) ((fs _ _ (by omega)).trans h1) ((fs _ _ (by omega)).trans h2) ((fs _ _ (by omega)).trans h3) ((fs _ _ (by omega)).trans h4))
  have e5 : m1 605 7 = r 7 := by rw [fo _ (by decide), h5]
  refine m_reckonAll (k := k) (b := 1) (la := m1 603 34) (op := mem 614) (ag := mem 615) (n := n) hE r1 r2 e20 rfl (fun z => absurd z (by decide)) (by rw [e5]; exact h0) (by rw [e5]; exact h10) (fun i _ _ => ?_) (fun i _ _ => ?_) e fun m4 a1 a2 => ?_
  · rw [if_neg (by decide), fo _ (by decide)]
  · rw [if_neg (by decide), fo _ (by decide)]
  · have gs : ∀ o i, ¬ (o = 603 ∧ (i = 20 ∨ i = 57)) → (aUp (aUp m4 603 20 0) 603 57 (m4 603 38)) o i = m4 o i := fun o i z => by rw [aUp_nn (by omega), aUp_nn (by omega)]
    have fr : sFr mem (aUp (aUp m4 603 20 0) 603 57 (m4 603 38)) := fun o i u v => (gs o i (by omega)).trans ((a1 o i u (by omega)).trans (fs o i (by omega)))
    have g20 : (aUp (aUp m4 603 20 0) 603 57 (m4 603 38)) 603 20 = 0 := by rw [aUp_nn (by omega), aUp_re]
    have g57 : (aUp (aUp m4 603 20 0) 603 57 (m4 603 38)) 603 57 = m4 603 38 := aUp_re
    rcases a2 with ⟨b1, b2⟩ | ⟨b1, b2, b3⟩
    · exact ⟨Or.inr b2, hQ _ _ fr g20 (Or.inl ⟨b1, g57.trans b2⟩)⟩
    · refine ⟨Or.inl b2, hQ _ _ fr g20 (Or.inr ⟨b1, g57.trans b2, ?_⟩)⟩
      have := vB_r vF hw
      rw [b3]
      exact w32_id this.1 this.2
/-- the other way round: no SUM, or one broke before -/
theorem m_sumN {E : EN} (hE : Ep E) {k : Nat} {mem : Mm} {Q : Int → Mm → Prop} {j : Int} (hj : 0 ≤ j ∧ j < 95) (rj : R32 j) (h : ¬ mem 603 57 = 0 ∨ mem 634 j = mem 634 (j + 1)) (hQ : Q (-1) mem) : CI E mX12_sumOf (k + 1) mem [aR 603, aI j] Q :=
  eX12_sumOf rj (rjX12_sumOf_0 hE ⟨fun _ => hQ, fun z => ⟨⟨by omega, by omega⟩, ⟨by omega, by omega⟩, ⟨by omega, by omega⟩, fun y => (h.elim (fun q => absurd z q) fun q => absurd q y), fun _ => hQ⟩⟩)
