theorem cmb_n {o : Int} {f g : Rw → Int} (h : o = -1) : cmb o f g = g := if_pos h
-- the class reads: its state, its frame, what an element's reader does
def cSt (m : Mm) (t : Int) (T : Rw) (n : Int) (od : Bool) (p c s : Int) : Prop := cTk m T n p ∧ m 591 4 = t ∧ m 591 5 = (if od = true then 1 else 0) ∧ m 591 6 = c ∧ m t 8 = s
def cFr (t s : Int) (m m2 : Mm) : Prop := ∀ o i, ¬ (o = 591 ∧ 6 ≤ i ∧ i ≤ 10) → ¬ (o = t ∧ i = 8) → ¬ ((o = t + 6 ∨ o = t + 7) ∧ s ≤ i) → m2 o i = m o i
abbrev cSg (N : Int) (m : Mm) (t : Int) (L : Nat) (a b : Int) (F : Rw → Int) : Prop := Seg (goC N) (m (t + 6)) (m (t + 7)) L a b F
theorem cFr_rf {t s : Int} {m : Mm} : cFr t s m m := fun _ _ _ _ _ => rfl
theorem cFr_tr {t s s2 : Int} {m m2 m3 : Mm} (h : cFr t s m m2) (h2 : cFr t s2 m2 m3) (hs : s ≤ s2) : cFr t s m m3 := fun o i a b c => (h2 o i a b (fun q => c ⟨q.1, by omega⟩)).trans (h o i a b c)
theorem cFr_4 {t s : Int} {m m2 : Mm} (h : cF4 m m2) : cFr t s m m2 := fun o i a _ _ => h o i fun q => a ⟨q.1, by omega⟩
theorem cFr_sg {N t s : Int} {m m2 : Mm} {L : Nat} {a b : Int} {F : Rw → Int} (ht : isTx t) (h : cFr t s m m2) (hb : b ≤ s) (hS : cSg N m t L a b F) : cSg N m2 t L a b F :=
  sg_fr (fun i u v => ⟨h _ _ (by unfold isTx at ht; omega) (by omega) (by omega), h _ _ (by unfold isTx at ht; omega) (by omega) (by omega)⟩) hS
theorem cSt_adv {m m2 : Mm} {t : Int} {T : Rw} {n : Int} {od : Bool} {p c s q : Int} (ht : isTx t) (h : cSt m t T n od p c s) (hf : cF4 m m2) (hk : cTk m2 T n q) : cSt m2 t T n od q c s :=
  ⟨hk, (hf _ _ (by omega)).trans h.2.1, (hf _ _ (by omega)).trans h.2.2.1, (hf _ _ (by omega)).trans h.2.2.2.1, (hf _ _ (by unfold isTx at ht; omega)).trans h.2.2.2.2⟩
theorem c_advS {E : EN} (hE : Ep E) {k : Nat} {mem : Mm} {Q : Mm → Prop} {t : Int} {T : Rw} {n : Int} {od : Bool} {p c s : Int} (ht : isTx t) (hT : tOk T n) (h : cSt mem t T n od p c s) (hp : 0 ≤ p) (hpn : p ≤ n) (hQ : ∀ m2, cF4 mem m2 → cSt m2 t T n od (tT T n p) c s → Q m2) : CV E mX7_advance (k + 1) mem [aR 591] Q := by
  have a := tF_b (T := T) hpn
  have b := tT_b (T := T) hpn
  exact c_adv hE hT h.1.1 h.1.2.2.1 (by omega) b.2.1 fun m2 x y => hQ m2 x (cSt_adv ht h x y)
theorem c_emit {E : EN} (hE : Ep E) {k : Nat} {mem : Mm} {Q : Int → Mm → Prop} {t : Int} {T : Rw} {n : Int} {od : Bool} {p c s v u : Int} (ht : isTx t) (h : cSt mem t T n od p c s) (s0 : 0 ≤ s) (s1 : s < 400) (rv : R32 v) (ru : R32 u)
    (hQ : ∀ m2, cFr t s mem m2 → cSt m2 t T n od p c (s + 1) → m2 (t + 6) s = v → m2 (t + 7) s = u → (∀ i, ¬ i = s → m2 (t + 6) i = mem (t + 6) i ∧ m2 (t + 7) i = mem (t + 7) i) → Q s m2) : CI E mX9_emit k mem [aR t, aI v, aI u] Q := by
  have e8 := h.2.2.2.2
  refine eX9_emit rv ru (rX9_emit_0 hE ht ?_)
  rw [e8]
  refine ⟨fun _ => ⟨⟨s0, s1⟩, ⟨by omega, by omega⟩, ⟨by omega, by omega⟩, ?_⟩, fun z => absurd z (by omega)⟩
  rw [show s + 1 - 1 = s by omega]
  have fr : cFr t s mem (aUp (aUp (aUp mem (t + 6) s v) (t + 7) s u) t 8 (s + 1)) := fun o i a b d => by rw [aUp_nn (by omega), aUp_nn (by omega), aUp_nn (by omega)]
  have e0 : ∀ i, (aUp (aUp (aUp mem (t + 6) s v) (t + 7) s u) t 8 (s + 1)) 591 i = mem 591 i := fun i => by
    unfold isTx at ht
    rw [aUp_nn (by omega), aUp_nn (by omega), aUp_nn (by omega)]
  have e2 : ∀ i, (aUp (aUp (aUp mem (t + 6) s v) (t + 7) s u) t 8 (s + 1)) 592 i = mem 592 i := fun i => by
    unfold isTx at ht
    rw [aUp_nn (by omega), aUp_nn (by omega), aUp_nn (by omega)]
  refine hQ _ fr ⟨?_, (e0 4).trans h.2.1, (e0 5).trans h.2.2.1, (e0 6).trans h.2.2.2.1, aUp_re⟩ ?_ ?_ fun i hi => ⟨?_, ?_⟩
  · obtain ⟨⟨a1, a2⟩, a3, a4, a5, a6⟩ := h.1
    exact ⟨⟨(e0 3).trans a1, fun i x y => (e2 i).trans (a2 i x y)⟩, (e0 7).trans a3, (e0 8).trans a4, (e0 9).trans a5, fun z => (e0 10).trans (a6 z)⟩
  · rw [aUp_nn (by omega), aUp_nn (by omega), aUp_re]
  · rw [aUp_nn (by omega), aUp_re]
  · rw [aUp_nn (by omega), aUp_nn (by omega), aUp_nn (by omega)]
  · rw [aUp_nn (by omega), aUp_nn (by omega), aUp_nn (by omega)]
def cEl (E : EN) (mi : MI) (k : Nat) (dp t : Int) (T : Rw) (n : Int) (od : Bool) (N : Int) (L : Nat) (pf : Int → Int → PR) : Prop :=
  ∀ (mem : Mm) (Q : Int → Mm → Prop) (p c s : Int), cSt mem t T n od p c s → 0 ≤ p → p ≤ n → 0 ≤ c → c ≤ 50 → 0 ≤ s → s ≤ tF T n p →
    (∀ x, pf p c = .inr x → ∀ m2, cFr t s mem m2 → m2 591 7 = x → Q 0 m2) →
    (∀ q d f, pf p c = .inl (q, d, f) → ∀ m2 s2, cFr t s mem m2 → cSt m2 t T n od q d s2 → s2 - s ≤ tF T n q - tF T n p → cSg N m2 t L s s2 f → Q 1 m2) → CI E mi k mem [aR 591, aI dp] Q
theorem sIn9 (g : Int) : (oMul g = -1 ∧ sIn (sgL 9) g = -1) ∨ (22 ≤ oMul g ∧ oMul g ≤ 24 ∧ sIn (sgL 9) g = cdC (oMul g) ∧ 10 ≤ cdC (oMul g) ∧ cdC (oMul g) ≤ 100 ∧ g = cdC (oMul g)) := by
  by_cases a : g = 42
  · subst a; decide
  by_cases b : g = 47
  · subst b; decide
  by_cases c : g = 37
  · subst c; decide
  · refine Or.inl ⟨by unfold oMul; rw [if_neg a, if_neg b, if_neg c], ?_⟩
    unfold sIn
    rw [if_neg]
    intro h
    have h : g ∈ [42, 47, 37] := h
    simp at h
    omega
theorem sIn10 (g : Int) : (oAdd g = -1 ∧ sIn (sgL 10) g = -1) ∨ (20 ≤ oAdd g ∧ oAdd g ≤ 21 ∧ sIn (sgL 10) g = cdC (oAdd g) ∧ 10 ≤ cdC (oAdd g) ∧ cdC (oAdd g) ≤ 100 ∧ g = cdC (oAdd g)) := by
  by_cases a : g = 43
  · subst a; decide
  by_cases b : g = 45
  · subst b; decide
  · refine Or.inl ⟨by unfold oAdd; rw [if_neg a, if_neg b], ?_⟩
    unfold sIn
    rw [if_neg]
    intro h
    have h : g ∈ [43, 45] := h
    simp at h
    omega
theorem sIn8 (g : Int) : (oCmp g = -1 ∧ sIn (sgL 8) g = -1) ∨ (25 ≤ oCmp g ∧ oCmp g ≤ 27 ∧ sIn (sgL 8) g = cdC (oCmp g) ∧ 10 ≤ cdC (oCmp g) ∧ cdC (oCmp g) ≤ 100 ∧ g = cdC (oCmp g)) := by
  by_cases a : g = 60
  · subst a; decide
  by_cases b : g = 62
  · subst b; decide
  by_cases c : g = 61
  · subst c; decide
  · refine Or.inl ⟨by unfold oCmp; rw [if_neg a, if_neg b, if_neg c], ?_⟩
    unfold sIn
    rw [if_neg]
    intro h
    have h : g ∈ [60, 62, 61] := h
    simp at h
    omega
-- SUM: the loop
theorem c_sum_l {E : EN} (hE : Ep E) (hSt : aStr E) {k : Nat} {m0 : Mm} {Q : Int → Mm → Prop} {t : Int} {T : Rw} {n : Int} {od : Bool} {N dp : Int} {L : Nat} {el : Int → Int → PR} {s0 p0 : Int} {R : PR} (ht : isTx t) (hT : tOk T n) (hL : L + 3 < 40) (hel : cEl E mX7_readPart (k + 4) dp t T n od N (L + 2) el) (hok : qOk T n el vB) (hs0 : 0 ≤ s0) (hsp : s0 ≤ tF T n p0)
    (hF : ∀ x, R = .inr x → ∀ m2, cFr t s0 m0 m2 → m2 591 7 = x → Q 0 m2) (hO : ∀ q d f, R = .inl (q, d, f) → ∀ m2 s2, cFr t s0 m0 m2 → cSt m2 t T n od q d s2 → s2 - s0 ≤ tF T n q - tF T n p0 → cSg N m2 t L s0 s2 f → Q 1 m2) :
    ∀ (d : Nat) (mem : Mm) (p c a b x2 x3 x4 s s1 : Int) (fa fb : Rw → Int), cSt mem t T n od p c s → 0 ≤ p → p ≤ n → 0 ≤ c → c ≤ 50 → 401 - p ≤ d → 0 ≤ x4 → 2 * x4 ≤ p → cFr t s0 m0 mem →
      ((x2 = -1 ∧ a = -1 ∧ s1 = s0) ∨ (x2 = cdC a ∧ 20 ≤ a ∧ a ≤ 21 ∧ vB fa ∧ cSg N mem t L s0 s1 fa)) → ((x3 = -1 ∧ b = -1 ∧ s = s1) ∨ (x3 = cdC b ∧ 22 ≤ b ∧ b ≤ 24 ∧ vB fb ∧ cSg N mem t (L + 1) s1 s fb)) →
      s + (if x2 = -1 then 0 else 1) + (if x3 = -1 then 0 else 1) - s0 ≤ tF T n p - tF T n p0 → pLoop el (fun q => oMul (tG T n q)) (fun q => oAdd (tG T n q)) (tT T n) d p c a fa b fb = R →
      VM E mX7_readSum (k + 4 + 1) mem 7 [(0, aR 591), (1, aI dp), (2, aI x2), (3, aI x3), (4, aI x4)] [] (retI Q) := by
  have hT1 := hT.2.1
  have machc := machC N
  intro d
  induction d with
  | zero => intro mem p c a b x2 x3 x4 s s1 fa fb _ _ h1 _ _ h2; exact absurd h2 (by omega)
  | succ d ih =>
    intro mem p c a b x2 x3 x4 s s1 fa fb hst hp hpn hc hc2 hd hx4 hx4p hfr hA hB hcnt hR
    have hs10 : s0 ≤ s1 := by
      rcases hA with ⟨-, -, e⟩ | ⟨-, -, -, -, e⟩
      · omega
      · have := e.2.1; omega
    have hss1 : s1 ≤ s := by
      rcases hB with ⟨-, -, e⟩ | ⟨-, -, -, -, e⟩
      · omega
      · have := e.2.1; omega
    have hbF := tF_b (T := T) hpn
    have pd : ∀ x : Int, (0 : Int) ≤ (if x = -1 then 0 else 1) ∧ (if x = -1 then (0 : Int) else 1) ≤ 1 := fun x => by split <;> omega
    have pd2 := pd x2
    have pd3 := pd x3
    unfold pLoop at hR
    refine rX7_readSum_7 (k := k + 4) hE hSt ⟨fun z => absurd z (by omega), fun _ _ => hel mem _ p c s hst hp hpn hc hc2 (by omega) (by omega) (fun x hx m2 f2 e7 => ⟨fun z => absurd rfl z, fun _ => ?_⟩) (fun q d2 f he m1 s2 f1 st1 hs2 sg1 => ⟨fun _ => ?_, fun z => absurd z (by decide)⟩)⟩
    · rw [hx] at hR
      exact hF x hR.symm m2 (cFr_tr hfr f2 (by omega)) e7
    rw [he] at hR
    dsimp only at hR
    obtain ⟨k1, k2, k3, k4, k5⟩ := hok p c q d2 f hp hpn hc hc2 he
    have hbq := tF_b (T := T) k2
    have hq0 : 0 ≤ q := by omega
    have vt : vB (cmb b fb f) := by
      rcases hB with ⟨-, e, -⟩ | ⟨-, e1, e2, e3, -⟩
      · unfold cmb; rw [if_pos e]; exact k5
      · exact cmb_v (Or.inr (by omega)) e3 k5
    -- behind the sign between SUMs
    have F3 : ∀ (m : Mm) (s3 r4 : Int), r4 = -1 → cFr t s0 m0 m → cSt m t T n od q d2 s3 → cSg N m t L s0 s3 (cmb a fa (cmb b fb f)) → vB (cmb a fa (cmb b fb f)) → s3 - s0 ≤ tF T n q - tF T n p0 → (if oAdd (tG T n q) ≠ -1 then pLoop el (fun q => oMul (tG T n q)) (fun q => oAdd (tG T n q)) (tT T n) d (tT T n q) d2 (oAdd (tG T n q)) (cmb a fa (cmb b fb f)) (-1) f0 else .inl (q, d2, cmb a fa (cmb b fb f))) = R →
        CI E mX7_signIn (k + 4) m [aR 591, aF (strA E 10)] (fun r8 m7 => ((¬ r8 = (-1) → (CV E mX7_advance (k + 4) m7 [aR 591] (fun m9 => (R32 (x4 + 1)) ∧ VM E mX7_readSum (k + 4 + 1) m9 7 [(0, aR 591), (1, aI dp), (2, aI r8), (3, aI r4), (4, aI (x4 + 1))] [] (retI Q)))) ∧ (r8 = (-1) → Q 1 m7))) := by
      intro m s3 r4 hr4 g1 g2 g3 g4 g5 g6
      subst hr4
      refine c_signIn hE hSt hT g2.1 hq0 k2 (Or.inr (Or.inr rfl)) ?_
      rcases sIn10 (tG T n q) with ⟨e1, e2⟩ | ⟨e1, e2, e3, e4, e5, e6⟩
      · rw [e2]
        rw [if_neg (by rw [e1]; decide)] at g6
        exact ⟨fun z => absurd rfl z, fun _ => hO q d2 _ g6.symm m s3 g1 g2 g5 g3⟩
      · rw [e3]
        rw [if_pos (by omega)] at g6
        have nx := nx_b (T := T) k2 (by rw [tG_s (T := T) (n := n) (p := q) (by omega)]; decide)
        have hbx := tF_b (T := T) nx.2.1
        refine ⟨fun _ => c_advS hE ht hT g2 hq0 k2 fun m9 a1 a2 => ⟨⟨by omega, by omega⟩, ?_⟩, fun z => absurd z (by omega)⟩
        have hfr9 : cFr t s0 m0 m9 := cFr_tr g1 (cFr_4 a1) (Int.le_refl _)
        refine ih m9 (tT T n q) d2 (oAdd (tG T n q)) (-1) (cdC (oAdd (tG T n q))) (-1) (x4 + 1) s3 s3 _ f0 a2 (by omega) nx.2.1 k3 k4 (by omega) (by omega) (by omega) hfr9 (Or.inr ⟨rfl, by omega, by omega, g4, cFr_sg ht (cFr_4 a1) (Int.le_refl s3) g3⟩) (Or.inl ⟨rfl, rfl, rfl⟩) ?_ g6
        rw [if_neg (by omega), if_pos rfl]
        omega
    -- behind the sign within a TERM
    have F2 : ∀ (m : Mm) (s3 : Int), cFr t s0 m0 m → cSt m t T n od q d2 s3 → ((x2 = -1 ∧ a = -1 ∧ s1 = s0) ∨ (x2 = cdC a ∧ 20 ≤ a ∧ a ≤ 21 ∧ vB fa ∧ cSg N m t L s0 s1 fa)) → cSg N m t (L + 1) s1 s3 (cmb b fb f) → s3 + (if x2 = -1 then 0 else 1) - s0 ≤ tF T n q - tF T n p0 →
        (CI E mX7_signIn (k + 4) m [aR 591, aF (strA E 9)] (fun r4 m3 => ((¬ r4 = (-1) → (CV E mX7_advance (k + 4) m3 [aR 591] (fun m5 => (R32 (x4 + 1)) ∧ VM E mX7_readSum (k + 4 + 1) m5 7 [(0, aR 591), (1, aI dp), (2, aI x2), (3, aI r4), (4, aI (x4 + 1))] [] (retI Q)))) ∧ (r4 = (-1) → ((x2 = (-1) → (CI E mX7_signIn (k + 4) m3 [aR 591, aF (strA E 10)] (fun r8 m7 => ((¬ r8 = (-1) → (CV E mX7_advance (k + 4) m7 [aR 591] (fun m9 => (R32 (x4 + 1)) ∧ VM E mX7_readSum (k + 4 + 1) m9 7 [(0, aR 591), (1, aI dp), (2, aI r8), (3, aI r4), (4, aI (x4 + 1))] [] (retI Q)))) ∧ (r8 = (-1) → Q 1 m7))))) ∧ (¬ x2 = (-1) → (isTx (m3 591 4)) ∧ (R32 x2 → CI E mX9_emit (k + 4) m3 [aR (m3 591 4), aI x2, aI 0] (fun r13 m12 => (CI E mX7_signIn (k + 4) m12 [aR 591, aF (strA E 10)] (fun r15 m14 => ((¬ r15 = (-1) → (CV E mX7_advance (k + 4) m14 [aR 591] (fun m16 => (R32 (x4 + 1)) ∧ VM E mX7_readSum (k + 4 + 1) m16 7 [(0, aR 591), (1, aI dp), (2, aI r15), (3, aI r4), (4, aI (x4 + 1))] [] (retI Q)))) ∧ (r15 = (-1) → Q 1 m14)))))))))))) := by
      intro m s3 g1 g2 gA g3 g5
      have hs3 := g3.2.1
      refine c_signIn hE hSt hT g2.1 hq0 k2 (Or.inr (Or.inl rfl)) ?_
      rcases sIn9 (tG T n q) with ⟨e1, e2⟩ | ⟨e1, e2, e3, e4, e5, e6⟩
      · rw [e2]
        rw [if_neg (by rw [e1]; decide)] at hR
        refine ⟨fun z => absurd rfl z, fun _ => ⟨fun z => ?_, fun z => ⟨by rw [g2.2.1]; exact ht, fun r2 => ?_⟩⟩⟩
        · rcases gA with ⟨-, u2, u3⟩ | ⟨u1, u2, u3, -⟩
          · have ec : cmb a fa (cmb b fb f) = cmb b fb f := cmb_n u2
            rw [if_pos z] at g5
            subst u3
            exact F3 m s3 (-1) rfl g1 g2 (by rw [ec]; exact sg_le (Nat.le_succ _) g3) (by rw [ec]; exact vt) (by omega) hR
          · exact absurd z (by have := cdC_o (o := a) (by omega) (by omega); omega)
        · rcases gA with ⟨u1, -⟩ | ⟨u1, u2, u3, u4, u5⟩
          · exact absurd u1 z
          · rw [if_neg z] at g5
            rw [g2.2.1]
            refine c_emit hE ht g2 (by omega) (by omega) r2 (by decide) fun m12 a1 a2 a3 a4 _ => ?_
            have hsg := sg_op (cd := cdC) machc (lim := 40) (by omega) (cFr_sg ht a1 (by omega) u5) (cFr_sg ht a1 (Int.le_refl s3) g3) ⟨by omega, by omega⟩ (a3.trans u1) a4 u4 vt
            exact F3 m12 (s3 + 1) (-1) rfl (cFr_tr g1 a1 (by omega)) a2 hsg (cmb_v (Or.inr (by omega)) u4 vt) (by omega) hR
      · rw [e3]
        rw [if_pos (by omega)] at hR
        have nx := nx_b (T := T) k2 (by rw [tG_s (T := T) (n := n) (p := q) (by omega)]; decide)
        have hbx := tF_b (T := T) nx.2.1
        refine ⟨fun _ => c_advS hE ht hT g2 hq0 k2 fun m9 a1 a2 => ⟨⟨by omega, by omega⟩, ?_⟩, fun z => absurd z (by omega)⟩
        have hfr9 : cFr t s0 m0 m9 := cFr_tr g1 (cFr_4 a1) (Int.le_refl _)
        refine ih m9 (tT T n q) d2 a (oMul (tG T n q)) x2 (cdC (oMul (tG T n q))) (x4 + 1) s3 s1 fa _ a2 (by omega) nx.2.1 k3 k4 (by omega) (by omega) (by omega) hfr9 ?_ (Or.inr ⟨rfl, by omega, by omega, vt, cFr_sg ht (cFr_4 a1) (Int.le_refl s3) g3⟩) ?_ hR
        · rcases gA with u | ⟨u1, u2, u3, u4, u5⟩
          · exact Or.inl u
          · exact Or.inr ⟨u1, u2, u3, u4, cFr_sg ht (cFr_4 a1) (Int.le_refl s1) u5⟩
        · rw [if_neg (by omega : ¬ cdC (oMul (tG T n q)) = -1)]
          omega
    have hA1 : (x2 = -1 ∧ a = -1 ∧ s1 = s0) ∨ (x2 = cdC a ∧ 20 ≤ a ∧ a ≤ 21 ∧ vB fa ∧ cSg N m1 t L s0 s1 fa) := by
      rcases hA with u | ⟨u1, u2, u3, u4, u5⟩
      · exact Or.inl u
      · exact Or.inr ⟨u1, u2, u3, u4, cFr_sg ht f1 (by omega) u5⟩
    have hs3 := sg1.2.1
    refine ⟨fun z => ?_, fun z => ⟨by rw [st1.2.1]; exact ht, fun r3 => ?_⟩⟩
    · rcases hB with ⟨-, u2, u3⟩ | ⟨u1, u2, u3, -⟩
      · have ec : cmb b fb f = f := by unfold cmb; rw [if_pos u2]
        rw [if_pos z] at hcnt
        subst u3
        exact F2 m1 s2 (cFr_tr hfr f1 (by omega)) st1 hA1 (by rw [ec]; exact sg_le (Nat.le_succ _) sg1) (by omega)
      · exact absurd z (by have := cdC_o (o := b) (by omega) (by omega); omega)
    · rcases hB with ⟨u1, -⟩ | ⟨u1, u2, u3, u4, u5⟩
      · exact absurd u1 z
      · rw [if_neg z] at hcnt
        rw [st1.2.1]
        refine c_emit hE ht st1 (by omega) (by omega) r3 (by decide) fun m12 a1 a2 a3 a4 _ => ?_
        have hsg := sg_op (cd := cdC) machc (lim := 40) (by omega) (cFr_sg ht a1 (by omega) (cFr_sg ht f1 (Int.le_refl s) u5)) (cFr_sg ht a1 (Int.le_refl s2) sg1) ⟨by omega, by omega⟩ (a3.trans u1) a4 u4 k5
        refine F2 m12 (s2 + 1) (cFr_tr (cFr_tr hfr f1 (by omega)) a1 (by omega)) a2 ?_ hsg (by omega)
        rcases hA1 with w | ⟨w1, w2, w3, w4, w5⟩
        · exact Or.inl w
        · exact Or.inr ⟨w1, w2, w3, w4, cFr_sg ht a1 (by omega) w5⟩
theorem c_readSum {E : EN} (hE : Ep E) (hSt : aStr E) {k : Nat} {t : Int} {T : Rw} {n : Int} {od : Bool} {N dp : Int} {L : Nat} {el : Int → Int → PR} (ht : isTx t) (hT : tOk T n) (hdp : R32 dp) (hL : L + 3 < 40) (hel : cEl E mX7_readPart (k + 4) dp t T n od N (L + 2) el) (hok : qOk T n el vB) : cEl E mX7_readSum (k + 4 + 1) dp t T n od N L (lpS T n el) := by
  intro mem Q p c s hst hp hpn hc hc2 hs0 hsp hF hO
  refine eX7_readSum hdp (rX7_readSum_0 (k := k + 4) hE ?_)
  exact c_sum_l hE hSt (m0 := mem) (s0 := s) (p0 := p) ht hT hL hel hok hs0 hsp hF hO 401 mem p c (-1) (-1) (-1) (-1) 0 s s f0 f0 hst hp hpn hc hc2 (by omega) (by omega) (by omega) cFr_rf (Or.inl ⟨rfl, rfl, rfl⟩) (Or.inl ⟨rfl, rfl, rfl⟩) (by rw [if_pos rfl]; omega) rfl
