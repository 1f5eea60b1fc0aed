-- the class reads a text
def cRF (t : Int) (m m2 : Mm) : Prop := ∀ o j, ¬ (o = 591 ∧ 2 ≤ j ∧ j ≤ 10) → ¬ (t ≤ o ∧ o ≤ t + 7) → m2 o j = m o j
theorem cRF_tr {t : Int} {m m2 m3 : Mm} (h : cRF t m m2) (h2 : cRF t m2 m3) : cRF t m m3 := fun o j a b => (h2 o j a b).trans (h o j a b)
theorem cRF_c {t s i : Int} {m m2 : Mm} (h : cFc t s i m m2) : cRF t m m2 := fun o j a b => h o j (by omega) (by omega) (by omega) (by omega)
theorem cRF_4 {t : Int} {m m2 : Mm} (h : cF4 m m2) : cRF t m m2 := fun o j a b => h o j (by omega)
theorem cCl_fr {N : Int} {m m2 : Mm} {t s s2 i j : Int} {cl : CLd} (ht : isTx t) (hf : cFc t s j m m2) (hs : s ≤ s2) (hij : ¬ i = j) (h : cCl N m t s i cl) : cCl N m2 t s2 i cl := by
  have ht2 := ht
  unfold isTx at ht2
  have g : ∀ x, 1 ≤ x → x ≤ 5 → m2 (t + x) i = m (t + x) i := fun x _ _ => hf _ _ (by omega) (by omega) (by omega) (by omega)
  obtain ⟨r1, r2, r3, r4, r5⟩ := h
  exact ⟨by rw [g 1 (by omega) (by omega)]; exact r1, by rw [g 2 (by omega) (by omega)]; exact r2, by rw [g 3 (by omega) (by omega)]; exact cV_fr ht hf hs r3, by rw [g 4 (by omega) (by omega)]; exact cV_fr ht hf hs r4, by rw [g 5 (by omega) (by omega)]; exact cV_fr ht hf hs r5⟩
theorem cCl_0 {N : Int} {m : Mm} {t s i v : Int} {cl : CLd} (h : cCl N m t s i cl) : cCl N (aUp m t 0 v) t s i cl := by
  have g : ∀ o j, ¬ o = t → (aUp m t 0 v) o j = m o j := fun o j z => aUp_nn (by omega)
  have gv : ∀ fr F, cVl N m t s fr F → cVl N (aUp m t 0 v) t s fr F := by
    intro fr F q
    rcases q with q | ⟨a, b, c, d, e, f⟩
    · exact Or.inl q
    · exact Or.inr ⟨a, b, sg_fr (fun j _ _ => ⟨g _ _ (by omega), g _ _ (by omega)⟩) c, (g _ _ (by omega)).trans d, e, f⟩
  obtain ⟨r1, r2, r3, r4, r5⟩ := h
  exact ⟨by rw [g _ _ (by omega)]; exact r1, by rw [g _ _ (by omega)]; exact r2, by rw [g _ _ (by omega)]; exact gv _ _ r3, by rw [g _ _ (by omega)]; exact gv _ _ r4, by rw [g _ _ (by omega)]; exact gv _ _ r5⟩
theorem ap_get {α : Type} {l : List α} {x y : α} {i : Nat} (h : (l ++ [x])[i]? = some y) : l[i]? = some y ∨ (i = l.length ∧ x = y) := by
  by_cases c : i < l.length
  · rw [List.getElem?_append_left c] at h
    exact Or.inl h
  · rw [List.getElem?_append_right (by omega)] at h
    by_cases d : i - l.length = 0
    · rw [d] at h
      exact Or.inr ⟨by omega, Option.some.inj h⟩
    · have : ([x] : List α)[i - l.length]? = none := List.getElem?_eq_none (by simp only [List.length_singleton]; omega)
      rw [this] at h
      cases h
theorem c_read_l {E : EN} (hE : Ep E) (hSt : aStr E) {k : Nat} {t : Int} {T : Rw} {n : Int} {od : Bool} {N : Int} {m0 : Mm} {Q : Int → Mm → Prop} {R : List CLd ⊕ Int} (hk : 22 ≤ k) (ht : isTx t) (hT : tOk T n) (hN : N = if od = true then 78 else 10)
    (hF : ∀ y, R = .inr y → ∀ m2, cRF t m0 m2 → m2 591 2 = 0 → Q y m2)
    (hO : ∀ l, R = .inl l → ∀ m2 s2, cRF t m0 m2 → m2 591 2 = 0 → m2 t 0 = (l.length : Int) → l.length ≤ 12 → m2 t 8 = s2 → s2 ≤ 400 → (∀ (i : Nat) cl, l[i]? = some cl → cCl N m2 t s2 i cl) → (∀ cl ∈ l, clOk cl) → Q (-1) m2) :
    ∀ (d : Nat) (mem : Mm) (p c s : Int) (pre : List CLd), pre.length + d = 12 → cRF t m0 mem → mem 591 2 = 0 → mem t 0 = (pre.length : Int) → cSt mem t T n od p c s → 0 ≤ p → p ≤ n → 0 ≤ c → c ≤ 50 → 0 ≤ s → s ≤ tF T n p → (∀ (i : Nat) cl, pre[i]? = some cl → cCl N mem t s i cl) → (∀ cl ∈ pre, clOk cl) → (match pText od T n d p c with
      | .inr x => .inr x
      | .inl l => .inl (pre ++ l)) = R → VM E mX7_read (k + 6 + 1 + 1) mem 52 [(0, aR 591), (3, aI pre.length)] [] (retI Q) := by
  have hT1 := hT.2.1
  have ht2 := ht
  unfold isTx at ht2
  intro d
  induction d with
  | zero =>
    intro mem p c s pre hd hm h2 h0 hst hp hpn hc hc2 hs0 hsp hcl hok hR
    refine rX7_read_52 (p0 := t) (p1 := 0) hE ht ⟨fun _ => ?_, fun z => absurd z (by omega)⟩
    rw [hst.1.2.1]
    exact hF _ hR.symm mem hm h2
  | succ d ih =>
    intro mem p c s pre hd hm h2 h0 hst hp hpn hc hc2 hs0 hsp hcl hok hR
    have hbF := tF_b (T := T) hpn
    unfold pText at hR
    refine rX7_read_52 (p0 := t) (p1 := 0) (k := k + 6 + 1) hE ht ⟨fun z => absurd z (by omega), fun _ => c_clause hE hSt hk ht hT hN (i := (pre.length : Int)) ⟨by omega, by omega⟩ h0 hst hp hpn hc hc2 hs0 hsp (fun y hy m1 a1 a2 => ⟨fun z => absurd rfl z, fun _ => ?_⟩) (fun q d2 cl hq m1 s1 a1 a2 a3 a4 a5 a6 a7 a8 a9 a10 a11 => ⟨fun _ => ⟨by rw [a2.2.1]; exact ht, ?_⟩, fun z => absurd z (by decide)⟩)⟩
    · rw [hy] at hR
      rw [a2]
      exact hF y hR.symm m1 (cRF_tr hm (cRF_c a1)) ((a1 _ _ (by omega) (by omega) (by omega) (by omega)).trans h2)
    rw [hq] at hR
    dsimp only at hR
    have hbq := tF_b (T := T) a3
    have e0 : m1 t 0 = (pre.length : Int) := (a1 _ _ (by omega) (by omega) (by omega) (by omega)).trans h0
    rw [a2.2.1, e0]
    have st2 : cSt (aUp m1 t 0 ((pre.length : Int) + 1)) t T n od q d2 s1 := by
      have g : ∀ o j, ¬ (o = t ∧ j = 0) → (aUp m1 t 0 ((pre.length : Int) + 1)) o j = m1 o j := fun o j z => aUp_nn z
      obtain ⟨⟨⟨x1, x2⟩, x3, x4, x5, x6⟩, x7, x8, x9, x10⟩ := a2
      exact ⟨⟨⟨(g _ _ (by omega)).trans x1, fun i y z => (g _ _ (by omega)).trans (x2 i y z)⟩, (g _ _ (by omega)).trans x3, (g _ _ (by omega)).trans x4, (g _ _ (by omega)).trans x5, fun y => (g _ _ (by omega)).trans (x6 y)⟩, (g _ _ (by omega)).trans x7, (g _ _ (by omega)).trans x8, (g _ _ (by omega)).trans x9, (g _ _ (by omega)).trans x10⟩
    have hm2 : cRF t m0 (aUp m1 t 0 ((pre.length : Int) + 1)) := cRF_tr (cRF_tr hm (cRF_c a1)) fun o j z1 z2 => aUp_nn (by omega)
    have h22 : (aUp m1 t 0 ((pre.length : Int) + 1)) 591 2 = 0 := by rw [aUp_nn (by omega), a1 _ _ (by omega) (by omega) (by omega) (by omega)]; exact h2
    have h02 : (aUp m1 t 0 ((pre.length : Int) + 1)) t 0 = ((pre ++ [cl]).length : Int) := by rw [aUp_re, List.length_append]; simp
    have hcl2 : ∀ (i : Nat) c2, (pre ++ [cl])[i]? = some c2 → cCl N (aUp m1 t 0 ((pre.length : Int) + 1)) t s1 i c2 := by
      intro i c2 hi
      rcases ap_get hi with h | ⟨h, h'⟩
      · have hlt : i < pre.length := (List.getElem?_eq_some_iff.mp h).1
        exact cCl_0 (cCl_fr ht a1 a8 (by omega) (hcl i c2 h))
      · rw [h, ← h']
        exact cCl_0 a10
    have hok2 : ∀ x ∈ pre ++ [cl], clOk x := by
      intro x hx
      rcases List.mem_append.mp hx with h | h
      · exact hok x h
      · rw [List.mem_singleton.mp h]; exact a11
    have hlen : (pre ++ [cl]).length = pre.length + 1 := by simp
    generalize (aUp m1 t 0 ((pre.length : Int) + 1)) = m2 at *
    rw [st2.1.2.2.2.1]
    refine ⟨⟨by omega, by omega⟩, fun z => ?_, fun z => ?_⟩
    · rw [if_neg z] at hR
      refine c_isSign hE hT st2.1 (by omega) a3 (by decide) (by decide) (fun g => ⟨fun _ => ?_, fun z => absurd z (by decide)⟩) (fun g => ⟨fun z => absurd rfl z, fun _ => ?_⟩)
      · rw [if_pos g] at hR
        have nx := nx_b (T := T) a3 z
        have hbx := tF_b (T := T) nx.2.1
        refine c_advS (k := k + 6) hE ht hT st2 (by omega) a3 fun m3 b1 b2 => ⟨⟨by omega, by omega⟩, ?_⟩
        have := ih m3 (tT T n q) d2 s1 (pre ++ [cl]) (by omega) (cRF_tr hm2 (cRF_4 b1)) ((b1 _ _ (by omega)).trans h22) ((b1 _ _ (by omega)).trans h02) b2 (by omega) nx.2.1 a5 a6 (by omega) (by omega) (fun i c2 hi => by
          have hb := hcl2 i c2 hi
          have f := cFc_r (t := t) (s := s1) (i := -1) (cFr_4 (s := s1) b1)
          exact cCl_fr ht f (Int.le_refl _) (by omega) hb) hok2 (by
            rw [← hR]
            cases pText od T n d (tT T n q) d2 with
            | inr x => rfl
            | inl l => show (Sum.inl (pre ++ [cl] ++ l) : List CLd ⊕ Int) = .inl (pre ++ cl :: l); rw [List.append_assoc]; rfl)
        rw [hlen] at this
        exact this
      · rw [if_neg g] at hR
        rw [st2.1.2.1]
        exact hF _ hR.symm m2 hm2 h22
    · rw [if_pos z] at hR
      exact hO (pre ++ [cl]) hR.symm m2 s1 hm2 h22 h02 (by omega) st2.2.2.2.2 (by omega) hcl2 hok2
theorem c_read {E : EN} (hE : Ep E) (hSt : aStr E) {k : Nat} {t : Int} {od : Bool} {N : Int} {mem : Mm} {Q : Int → Mm → Prop} (hk : 22 ≤ k) (ht : isTx t) (hT : tOk (mem 592) (mem 591 2)) (hN : N = if od = true then 78 else 10)
    (hF : ∀ y, pText od (mem 592) (mem 591 2) 12 0 0 = .inr y → ∀ m2, cRF t mem m2 → m2 591 2 = 0 → Q y m2)
    (hO : ∀ l, pText od (mem 592) (mem 591 2) 12 0 0 = .inl l → ∀ m2 s2, cRF t mem m2 → m2 591 2 = 0 → m2 t 0 = (l.length : Int) → l.length ≤ 12 → m2 t 8 = s2 → s2 ≤ 400 → (∀ (i : Nat) cl, l[i]? = some cl → cCl N m2 t s2 i cl) → (∀ cl ∈ l, clOk cl) → Q (-1) m2) : CI E mX7_read (k + 6 + 1 + 1) mem [aR 591, aR t, aI (if od = true then 1 else 0)] Q := by
  have ht2 := ht
  unfold isTx at ht2
  have hod : (if od = true then (1 : Int) else 0) = 0 ∨ (if od = true then (1 : Int) else 0) = 1 := by split <;> omega
  generalize hw : (if od = true then (1 : Int) else 0) = w at hod
  refine eX7_read (k := k + 6 + 1) (by rcases hod with rfl | rfl <;> decide) (rX7_read_0 (k := k + 6 + 1) hE ht ⟨hod, ht, ?_⟩)
  rw [show min (mem 591 2) 400 = mem 591 2 by have := hT.2.1; omega]
  refine eX9_clear (rX9_clear_0 hE ht ?_)
  have fs : ∀ o j, ¬ (o = 591 ∧ 2 ≤ j ∧ j ≤ 8) → ¬ (o = t) → (aUp (aUp (aUp (aUp (aUp (aUp (aUp (aUp mem 591 3 (mem 591 2)) 591 2 0) 591 4 t) 591 5 w) 591 6 0) 591 8 0) t 0 0) t 8 0) o j = mem o j := fun o j a b => by rw [aUp_nn (by omega), aUp_nn (by omega), aUp_nn (by omega), aUp_nn (by omega), aUp_nn (by omega), aUp_nn (by omega), aUp_nn (by omega), aUp_nn (by omega)]
  have f3 : (aUp (aUp (aUp (aUp (aUp (aUp (aUp (aUp mem 591 3 (mem 591 2)) 591 2 0) 591 4 t) 591 5 w) 591 6 0) 591 8 0) t 0 0) t 8 0) 591 3 = mem 591 2 := by rw [aUp_nn (by omega), aUp_nn (by omega), aUp_nn (by omega), aUp_nn (by omega), aUp_nn (by omega), aUp_nn (by omega), aUp_nn (by omega), aUp_re]
  have f2 : (aUp (aUp (aUp (aUp (aUp (aUp (aUp (aUp mem 591 3 (mem 591 2)) 591 2 0) 591 4 t) 591 5 w) 591 6 0) 591 8 0) t 0 0) t 8 0) 591 2 = 0 := by rw [aUp_nn (by omega), aUp_nn (by omega), aUp_nn (by omega), aUp_nn (by omega), aUp_nn (by omega), aUp_nn (by omega), aUp_re]
  have f4 : (aUp (aUp (aUp (aUp (aUp (aUp (aUp (aUp mem 591 3 (mem 591 2)) 591 2 0) 591 4 t) 591 5 w) 591 6 0) 591 8 0) t 0 0) t 8 0) 591 4 = t := by rw [aUp_nn (by omega), aUp_nn (by omega), aUp_nn (by omega), aUp_nn (by omega), aUp_nn (by omega), aUp_re]
  have f5 : (aUp (aUp (aUp (aUp (aUp (aUp (aUp (aUp mem 591 3 (mem 591 2)) 591 2 0) 591 4 t) 591 5 w) 591 6 0) 591 8 0) t 0 0) t 8 0) 591 5 = w := by rw [aUp_nn (by omega), aUp_nn (by omega), aUp_nn (by omega), aUp_nn (by omega), aUp_re]
  have f6 : (aUp (aUp (aUp (aUp (aUp (aUp (aUp (aUp mem 591 3 (mem 591 2)) 591 2 0) 591 4 t) 591 5 w) 591 6 0) 591 8 0) t 0 0) t 8 0) 591 6 = 0 := by rw [aUp_nn (by omega), aUp_nn (by omega), aUp_nn (by omega), aUp_re]
  have f8 : (aUp (aUp (aUp (aUp (aUp (aUp (aUp (aUp mem 591 3 (mem 591 2)) 591 2 0) 591 4 t) 591 5 w) 591 6 0) 591 8 0) t 0 0) t 8 0) 591 8 = 0 := by rw [aUp_nn (by omega), aUp_nn (by omega), aUp_re]
  have ft0 : (aUp (aUp (aUp (aUp (aUp (aUp (aUp (aUp mem 591 3 (mem 591 2)) 591 2 0) 591 4 t) 591 5 w) 591 6 0) 591 8 0) t 0 0) t 8 0) t 0 = 0 := by rw [aUp_nn (by omega), aUp_re]
  have ft8 : (aUp (aUp (aUp (aUp (aUp (aUp (aUp (aUp mem 591 3 (mem 591 2)) 591 2 0) 591 4 t) 591 5 w) 591 6 0) 591 8 0) t 0 0) t 8 0) t 8 = 0 := aUp_re
  generalize (aUp (aUp (aUp (aUp (aUp (aUp (aUp (aUp mem 591 3 (mem 591 2)) 591 2 0) 591 4 t) 591 5 w) 591 6 0) 591 8 0) t 0 0) t 8 0) = m1 at *
  have hm1 : cRF t mem m1 := fun o j a b => fs o j (by omega) (by omega)
  have tp1 : cTp m1 (mem 592) (mem 591 2) := ⟨f3, fun i _ _ => fs _ _ (by omega) (by omega)⟩
  refine c_adv (k := k + 6) hE hT tp1 f8 (by decide) hT.1 fun m2 a1 a2 => ?_
  have hb := tF_b (T := mem 592) hT.1
  have st2 : cSt m2 t (mem 592) (mem 591 2) od 0 0 0 := ⟨a2, (a1 _ _ (by omega)).trans f4, by rw [a1 _ _ (by omega), f5, hw], (a1 _ _ (by omega)).trans f6, (a1 _ _ (by omega)).trans ft8⟩
  exact c_read_l hE hSt hk ht hT hN hF hO 12 m2 0 0 0 [] rfl (cRF_tr hm1 (cRF_4 a1)) ((a1 _ _ (by omega)).trans f2) ((a1 _ _ (by omega)).trans ft0) st2 (by decide) hT.1 (by decide) (by decide) (by decide) (by omega) (fun i cl h => by cases i <;> cases h) (fun cl h => nomatch h) (by
    cases pText od (mem 592) (mem 591 2) 12 0 0 with
    | inr x => rfl
    | inl l => rfl)
