-- refused, granted, tell; the count of refusals and the latest of them
theorem s_refused {E : EN} (hE : Ep E) {k : Nat} {mem : Mm} {Q : Int → Mm → Prop} {p : Int} (h1 : -7 < p) (h2 : p < 0) (h3 : R32 (mem 602 (-p) + 1)) (hQ : Q p (aUp (aUp mem 0 13 p) 602 (-p) (mem 602 (-p) + 1))) : CI E mX11_refused k mem [aR 0, aI p] Q :=
  eX11_refused ⟨by omega, by omega⟩ (rX11_refused_0 hE ⟨fun c => absurd c (by omega), fun _ => ⟨fun c => absurd c (by omega), fun _ => ⟨⟨by omega, by omega⟩, ⟨by omega, by omega⟩, h3, hQ⟩⟩⟩)
theorem s_granted {E : EN} (hE : Ep E) {k : Nat} {mem : Mm} {Q : Int → Mm → Prop} {p : Int} (hp : R32 p) (hQ : Q p (aUp mem 0 13 0)) : CI E mX11_granted k mem [aR 0, aI p] Q := eX11_granted hp (rX11_granted_0 hE hQ)
theorem s_tellN {E : EN} (hE : Ep E) {k : Nat} {mem : Mm} {Q : Int → Mm → Prop} {p : Int} (h1 : -7 < p) (h2 : p < 0) (h3 : R32 (mem 604 (-p) + 1)) (hQ : Q p (aUp (aUp mem 603 1 p) 604 (-p) (mem 604 (-p) + 1))) : CI E mX12_tell k mem [aR 603, aI p] Q :=
  eX12_tell ⟨by omega, by omega⟩ (rX12_tell_0 hE ⟨fun c => absurd c (by omega), fun _ => ⟨fun c => absurd c (by omega), fun _ => ⟨⟨by omega, by omega⟩, ⟨by omega, by omega⟩, h3, hQ⟩⟩⟩)
theorem s_tellP {E : EN} (hE : Ep E) {k : Nat} {mem : Mm} {Q : Int → Mm → Prop} {p : Int} (hp : R32 p) (h1 : 0 ≤ p) (hQ : Q p (aUp mem 603 1 0)) : CI E mX12_tell k mem [aR 603, aI p] Q :=
  eX12_tell hp (rX12_tell_0 hE ⟨fun _ => ⟨fun _ => hQ, fun c => absurd c (by omega)⟩, fun c => absurd c (by omega)⟩)
/-- the same latest refusal, the same counts, none above n -/
def iRf (n : Nat) (m : Mm) : Prop := m 0 13 = m 603 1 ∧ ∀ j : Int, 0 ≤ j → j < 7 → m 602 j = m 604 j ∧ 0 ≤ m 602 j ∧ m 602 j ≤ n
/-- what all else of the invariant may speak of -/
def isK (o i : Int) : Prop := ¬ (o = 0 ∧ i = 13) ∧ o ≠ 602 ∧ o ≠ 604 ∧ ¬ (o = 603 ∧ (i = 0 ∨ i = 1))
def iFr (C : Mm → Prop) : Prop := ∀ m m2 : Mm, (∀ o i, isK o i → m2 o i = m o i) → C m → C m2
theorem iRf_up {n : Nat} {m : Mm} (h : iRf n m) : iRf (n + 1) m := ⟨h.1, fun j h0 h1 => ⟨(h.2 j h0 h1).1, (h.2 j h0 h1).2.1, by have := (h.2 j h0 h1).2.2; omega⟩⟩
theorem iRf_thr {n : Nat} {m : Mm} (h : iRf n m) : iRf n (aUp m 603 0 0) := ⟨by rw [aUp_rn (by decide), aUp_ri (by decide)]; exact h.1, fun j h0 h1 => by rw [aUp_rn (by decide), aUp_rn (by decide)]; exact h.2 j h0 h1⟩
theorem K_thr {m : Mm} {v o i : Int} (h : isK o i) : aUp m 603 0 v o i = m o i := if_neg fun q => h.2.2.2 ⟨q.1, Or.inl q.2⟩
theorem K_sta {m : Mm} {v o i : Int} (h : isK o i) : aUp m 603 1 v o i = m o i := if_neg fun q => h.2.2.2 ⟨q.1, Or.inr q.2⟩
theorem K_lat {m : Mm} {v o i : Int} (h : isK o i) : aUp m 0 13 v o i = m o i := if_neg fun q => h.1 q
theorem K_602 {m : Mm} {j v o i : Int} (h : isK o i) : aUp m 602 j v o i = m o i := if_neg fun q => h.2.1 q.1
theorem K_604 {m : Mm} {j v o i : Int} (h : isK o i) : aUp m 604 j v o i = m o i := if_neg fun q => h.2.2.1 q.1
/-- after refused and tell of the same number -/
def mRef (m : Mm) (p : Int) : Mm := aUp (aUp (aUp (aUp (aUp m 0 13 p) 602 (-p) (m 602 (-p) + 1)) 603 0 0) 603 1 p) 604 (-p) (m 604 (-p) + 1)
theorem mRef_K {m : Mm} {p o i : Int} (h : isK o i) : mRef m p o i = m o i := by unfold mRef; rw [K_604 h, K_sta h, K_thr h, K_602 h, K_lat h]
theorem mRef_R {n : Nat} {m : Mm} {p : Int} (h1 : -7 < p) (h2 : p < 0) (h : iRf n m) : iRf (n + 1) (mRef m p) := by
  unfold mRef
  refine ⟨?_, fun j h0 h3 => ?_⟩
  · rw [aUp_rn (by decide), aUp_rn (by decide), aUp_rn (by decide), aUp_rn (by decide), aUp_re, aUp_rn (by decide), aUp_re]
  · obtain ⟨e1, e2, e3⟩ := h.2 j h0 h3
    rw [aUp_rn (b := 602) (a := 604) (by decide), aUp_rn (b := 602) (a := 603) (by decide), aUp_rn (b := 602) (a := 603) (by decide)]
    by_cases c : j = -p
    · subst c
      rw [aUp_re, aUp_re, e1]
      rw [e1] at e2 e3
      exact ⟨rfl, by omega, by omega⟩
    · rw [aUp_ri c, aUp_rn (by decide), aUp_ri c, aUp_rn (by decide), aUp_rn (by decide), aUp_rn (by decide), aUp_rn (by decide)]
      exact ⟨e1, e2, by omega⟩
/-- the invariant: the refusals, and all else -/
def iAll (C : Mm → Prop) (n : Nat) (m : Mm) : Prop := iRf n m ∧ C m
theorem iAll_up {C : Mm → Prop} {n : Nat} {m : Mm} (h : iAll C n m) : iAll C (n + 1) m := ⟨iRf_up h.1, h.2⟩
theorem iAll_thr {C : Mm → Prop} (hC : iFr C) {n : Nat} {m : Mm} (h : iAll C n m) : iAll C (n + 1) (aUp m 603 0 0) := ⟨iRf_up (iRf_thr h.1), hC _ _ (fun _ _ k => K_thr k) h.2⟩
theorem iAll_ref {C : Mm → Prop} (hC : iFr C) {n : Nat} {m : Mm} {p : Int} (h1 : -7 < p) (h2 : p < 0) (h : iAll C n m) : iAll C (n + 1) (mRef m p) := ⟨mRef_R h1 h2 h.1, hC _ _ (fun _ _ k => mRef_K k) h.2⟩
/-- the class refuses, and the model, from its call's first store on, tells the same -/
theorem both_ref {E : EN} (hE : Ep E) {C : Mm → Prop} (hC : iFr C) {k : Nat} {n : Nat} {mem : Mm} {p : Int} (h1 : -7 < p) (h2 : p < 0) (hn : n < 600) (hI : iAll C n mem) {Q : Int → Mm → Prop} (hQ : ∀ m1 : Mm, (∀ o i, o ≠ 0 → o ≠ 602 → m1 o i = mem o i) → (∀ k2 : Nat, ∀ Q2 : Int → Mm → Prop, (∀ m2, iAll C (n + 1) m2 → Q2 p m2) → CI E mX12_tell k2 (aUp m1 603 0 0) [aR 603, aI p] Q2) → Q p m1) : CI E mX11_refused k mem [aR 0, aI p] Q := by
  have hj := hI.1.2 (-p) (by omega) (by omega)
  obtain ⟨e1, e2, e3⟩ := hj
  refine s_refused hE h1 h2 ⟨by omega, by omega⟩ (hQ _ (fun o i ho h6 => by rw [aUp_rn h6, aUp_rn ho]) fun k2 Q2 h => ?_)
  have e4 : aUp (aUp (aUp mem 0 13 p) 602 (-p) (mem 602 (-p) + 1)) 603 0 0 604 (-p) = mem 604 (-p) := by rw [aUp_rn (by decide), aUp_rn (by decide), aUp_rn (by decide)]
  refine s_tellN hE h1 h2 (by rw [e4, ← e1]; exact ⟨by omega, by omega⟩) (h _ ?_)
  rw [e4]
  exact iAll_ref hC h1 h2 hI
