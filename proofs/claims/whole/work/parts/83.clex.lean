-- the class's token: advance, isSign, signIn, wordIn
def cF4 (m m2 : Mm) : Prop := ∀ o i, ¬ (o = 591 ∧ 7 ≤ i ∧ i ≤ 10) → m2 o i = m o i
theorem cF4_rf {m : Mm} : cF4 m m := fun _ _ _ => rfl
theorem cF4_tr {m m2 m3 : Mm} (h : cF4 m m2) (h2 : cF4 m2 m3) : cF4 m m3 := fun o i a => (h2 o i a).trans (h o i a)
theorem cF4_up {m m2 : Mm} {j v : Int} (h : cF4 m m2) (hj : 7 ≤ j ∧ j ≤ 10) : cF4 m (aUp m2 591 j v) := fun o i a => (if_neg fun q => a ⟨q.1, by omega⟩).trans (h o i a)
def cTp (m : Mm) (T : Rw) (n : Int) : Prop := m 591 3 = n ∧ ∀ i, 0 ≤ i → i < n → m 592 i = T i
def cTk (m : Mm) (T : Rw) (n p : Int) : Prop := cTp m T n ∧ m 591 7 = tF T n p ∧ m 591 8 = tT T n p ∧ m 591 9 = tS T n p ∧ (tS T n p = 2 → m 591 10 = tN T n p)
theorem cTp_fr {m m2 : Mm} {T : Rw} {n : Int} (h : cF4 m m2) (hT : cTp m T n) : cTp m2 T n := ⟨(h _ _ (by omega)).trans hT.1, fun i a b => (h _ _ (by omega)).trans (hT.2 i a b)⟩
theorem c_advR {E : EN} (hE : Ep E) {k : Nat} {m0 : Mm} {Q : Mm → Prop} {T : Rw} {n f x tt : Int} {P : Int → Bool} (hT : tOk T n) (hf : 0 ≤ f) (h0 : cTp m0 T n) (hP : (x = 1 ∧ P = isLe) ∨ (x = 2 ∧ P = isDg))
    (hQ : ∀ m2, cF4 m0 m2 → m2 591 7 = f → m2 591 8 = tt → m2 591 9 = x → (x = 2 → m2 591 10 = nmb T f (tt - f).toNat) → Q m2) : ∀ (d : Nat) (mem : Mm) (t : Int), cF4 m0 mem → mem 591 7 = f → mem 591 8 = t → mem 591 9 = x → (x = 2 → mem 591 10 = nmb T f (t - f).toNat ∧ ∀ j, f ≤ j → j < t → 48 ≤ T j) → f < t → t ≤ n → (n - t).toNat = d → lRn T n P (n - t).toNat t = tt → VM E mX7_advance (k + 1) mem 71 [(0, aR 591)] [] (retV Q) := by
  obtain ⟨n0, n1, hby⟩ := hT
  intro d
  induction d with
  | zero =>
    intro mem t hm e7 e8 e9 e10 h1 h2 h3 h4
    have e3 : mem 591 3 = n := (hm _ _ (by omega)).trans h0.1
    rw [lRn_no (by omega)] at h4
    subst h4
    refine rX7_advance_71 hE ?_
    rw [e8, e3]
    exact ⟨fun c => absurd c (by omega), fun _ => ⟨fun _ => rX7_advance_199 hE (hQ _ hm e7 e8 e9 fun q => (e10 q).1), fun c => absurd c (by omega)⟩⟩
  | succ d ih =>
    intro mem t hm e7 e8 e9 e10 h1 h2 h3 h4
    have e3 : mem 591 3 = n := (hm _ _ (by omega)).trans h0.1
    have ec : mem 592 t = T t := (hm _ _ (by omega)).trans (h0.2 t (by omega) (by omega))
    have hb := hby t (by omega) (by omega)
    have stop : ¬ P (T t) = true → Q mem := by
      intro q
      rw [lRn_no (by intro z; exact q z.2)] at h4
      subst h4
      exact hQ _ hm e7 e8 e9 fun q => (e10 q).1
    have go1 : x = 1 → P (T t) = true → VM E mX7_advance (k + 1) mem 154 [(0, aR 591), (1, aI (T t)), (2, aI 1)] [] (retV Q) := by
      intro hx q
      rw [lRn_go (by omega) q] at h4
      have e8' : (aUp mem 591 9 1) 591 8 = t := (aUp_nn (by omega)).trans e8
      refine rX7_advance_154 hE ⟨fun _ => rX7_advance_186 hE ⟨?_, ?_⟩, fun c => absurd c (by omega)⟩
      · rw [e8']; exact ⟨by omega, by omega⟩
      · rw [e8']
        exact ih _ (t + 1) (cF4_up (cF4_up hm (by omega)) (by omega)) ((aUp_nn (by omega)).trans ((aUp_nn (by omega)).trans e7)) aUp_re ((aUp_nn (by omega)).trans (by rw [aUp_re, hx])) (fun z => absurd z (by omega)) (by omega) (by omega) (by omega) h4
    have go2 : x = 2 → P (T t) = true → isDg (T t) = true → VM E mX7_advance (k + 1) mem 154 [(0, aR 591), (1, aI (T t)), (2, aI 2)] [] (retV Q) := by
      intro hx q hd
      rw [lRn_go (by omega) q] at h4
      have hd := isDg_i.mp hd
      obtain ⟨e10, e11⟩ := e10 hx
      have hnb := nmb_b (t - f).toNat (T := T) (f := f) fun j u v => e11 j u (by omega)
      have e8' : (aUp (aUp mem 591 9 2) 591 10 (min 1001 ((((mem 591 10) * 10) + T t) - 48))) 591 8 = t := (aUp_nn (by omega)).trans ((aUp_nn (by omega)).trans e8)
      refine rX7_advance_154 hE ⟨fun c => absurd rfl c, fun _ => ⟨?_, ?_, ?_, rX7_advance_186 hE ⟨?_, ?_⟩⟩⟩
      · rw [e10]; exact ⟨by omega, by omega⟩
      · rw [e10]; exact ⟨by omega, by omega⟩
      · rw [e10]; exact ⟨by omega, by omega⟩
      · rw [e8']; exact ⟨by omega, by omega⟩
      · rw [e8']
        refine ih _ (t + 1) (cF4_up (cF4_up (cF4_up hm (by omega)) (by omega)) (by omega)) ((aUp_nn (by omega)).trans ((aUp_nn (by omega)).trans ((aUp_nn (by omega)).trans e7))) aUp_re ((aUp_nn (by omega)).trans ((aUp_nn (by omega)).trans (by rw [aUp_re, hx]))) (fun _ => ⟨?_, fun j u v => ?_⟩) (by omega) (by omega) (by omega) h4
        · rw [aUp_nn (by omega), aUp_re, e10, show (t + 1 - f).toNat = (t - f).toNat + 1 by omega]
          show _ = min 1001 (nmb T f (t - f).toNat * 10 + T (f + ((t - f).toNat : Int)) - 48)
          rw [show f + ((t - f).toNat : Int) = t by omega]
        · by_cases z : j = t
          · rw [z]; exact hd.1
          · exact e11 j u (by omega)
    refine rX7_advance_71 hE ?_
    rw [e8, e3]
    refine ⟨fun c => absurd c (by omega), fun _ => ⟨fun c => absurd c (by omega), fun _ => ⟨⟨by omega, by omega⟩, ?_⟩⟩⟩
    rw [ec, e9]
    have low : ¬ isLe (T t) = true → VM E mX7_advance (k + 1) mem 115 [(0, aR 591), (1, aI (T t))] [] (retV Q) := by
      intro q
      refine rX7_advance_115 hE ?_
      rw [e9]
      have sg : ¬ isDg (T t) = true → VM E mX7_advance (k + 1) mem 131 [(0, aR 591), (1, aI (T t))] [] (retV Q) := by
        intro q2
        have hs : Q mem := stop (by rcases hP with ⟨-, rfl⟩ | ⟨-, rfl⟩ <;> assumption)
        refine rX7_advance_131 hE ⟨fun c => absurd c (by omega), fun _ => ⟨fun _ => rX7_advance_153 hE hs, fun _ => rX7_advance_153 hE hs⟩⟩
      refine ⟨fun c => sg fun z => absurd (isDg_i.mp z) (by omega), fun c => ⟨fun c2 => sg fun z => absurd (isDg_i.mp z) (by omega), fun c2 => ⟨fun c3 => absurd c3 (by omega), fun _ => ⟨fun c3 => ?_, fun c3 => ?_⟩⟩⟩⟩
      · exact rX7_advance_153 hE (stop (by rcases hP with ⟨-, rfl⟩ | ⟨z, -⟩; exact q; omega))
      · exact go2 c3.symm (by rcases hP with ⟨z, -⟩ | ⟨-, rfl⟩; omega; exact isDg_i.mpr ⟨c, c2⟩) (isDg_i.mpr ⟨c, c2⟩)
    refine ⟨fun c => low fun z => absurd (isLe_i.mp z) (by omega), fun c => ⟨fun c2 => low fun z => absurd (isLe_i.mp z) (by omega), fun c2 => ⟨fun c3 => absurd c3 (by omega), fun _ => ⟨fun c3 => ?_, fun c3 => ?_⟩⟩⟩⟩
    · refine rX7_advance_153 hE (stop ?_)
      rcases hP with ⟨z, -⟩ | ⟨-, rfl⟩
      · omega
      · intro z
        have := isDg_i.mp z
        omega
    · exact go1 c3.symm (by rcases hP with ⟨-, rfl⟩ | ⟨z, -⟩; exact isLe_i.mpr ⟨c, c2⟩; omega)
theorem c_adv {E : EN} (hE : Ep E) {k : Nat} {mem : Mm} {Q : Mm → Prop} {T : Rw} {n p : Int} (hT : tOk T n) (h0 : cTp mem T n) (h8 : mem 591 8 = p) (hp : 0 ≤ p) (hpn : p ≤ n) (hQ : ∀ m2, cF4 mem m2 → cTk m2 T n p → Q m2) : CV E mX7_advance (k + 1) mem [aR 591] Q := by
  have hT0 := hT
  obtain ⟨n0, n1, hby⟩ := hT
  have hb := tF_b (T := T) hpn
  -- behind the blanks
  have go53 : ∀ m1, cF4 mem m1 → m1 591 7 = tF T n p → VM E mX7_advance (k + 1) m1 53 [(0, aR 591)] [] (retV Q) := by
    intro m1 hm e7
    refine rX7_advance_53 hE ?_
    rw [e7]
    generalize hf : tF T n p = f at *
    have hm2 : cF4 mem (aUp (aUp (aUp m1 591 8 f) 591 10 0) 591 9 0) := cF4_up (cF4_up (cF4_up hm (by omega)) (by omega)) (by omega)
    have f7 : (aUp (aUp (aUp m1 591 8 f) 591 10 0) 591 9 0) 591 7 = f := (aUp_nn (by omega)).trans ((aUp_nn (by omega)).trans ((aUp_nn (by omega)).trans e7))
    have f8 : (aUp (aUp (aUp m1 591 8 f) 591 10 0) 591 9 0) 591 8 = f := (aUp_nn (by omega)).trans ((aUp_nn (by omega)).trans aUp_re)
    have f9 : (aUp (aUp (aUp m1 591 8 f) 591 10 0) 591 9 0) 591 9 = 0 := aUp_re
    have f10 : (aUp (aUp (aUp m1 591 8 f) 591 10 0) 591 9 0) 591 10 = 0 := (aUp_nn (by omega)).trans aUp_re
    generalize (aUp (aUp (aUp m1 591 8 f) 591 10 0) 591 9 0) = m2 at *
    have e3 : m2 591 3 = n := (hm2 _ _ (by omega)).trans h0.1
    refine rX7_advance_71 hE ?_
    rw [f8, e3]
    rcases tS_c T n p with ⟨a, b⟩ | ⟨a, b, c⟩ | ⟨a, b, c, d⟩ | ⟨a, b, c, d⟩
    · rw [hf] at b
      exact ⟨fun c => absurd c (by omega), fun _ => ⟨fun _ => rX7_advance_199 hE (hQ _ hm2 ⟨cTp_fr hm2 h0, by rw [f7, hf], by rw [f8, tT_0 a, hf], by rw [f9, a], fun q => absurd q (by omega)⟩), fun c => absurd c (by omega)⟩⟩
    · rw [hf] at b c
      have ec : m2 592 f = T f := (hm2 _ _ (by omega)).trans (h0.2 f (by omega) b)
      refine ⟨fun c => absurd c (by omega), fun _ => ⟨fun c => absurd c (by omega), fun _ => ⟨⟨by omega, by omega⟩, ?_⟩⟩⟩
      rw [ec, f9]
      have hl := isLe_i.mp c
      refine ⟨fun z => absurd z (by omega), fun _ => ⟨fun z => absurd z (by omega), fun _ => ⟨fun _ => ?_, fun z => absurd rfl z⟩⟩⟩
      have e8' : (aUp m2 591 9 1) 591 8 = f := (aUp_nn (by omega)).trans f8
      refine rX7_advance_154 hE ⟨fun _ => rX7_advance_186 hE ⟨?_, ?_⟩, fun c => absurd c (by omega)⟩
      · rw [e8']; exact ⟨by omega, by omega⟩
      · rw [e8']
        refine c_advR hE hT0 (by omega) h0 (Or.inl ⟨rfl, rfl⟩) (fun m3 g1 g2 g3 g4 g5 => hQ m3 g1 ⟨cTp_fr g1 h0, by rw [g2, hf], g3, by rw [g4, a], fun z => absurd z (by omega)⟩) _ _ (f + 1) (cF4_up (cF4_up hm2 (by omega)) (by omega)) ((aUp_nn (by omega)).trans ((aUp_nn (by omega)).trans f7)) aUp_re ((aUp_nn (by omega)).trans aUp_re) (fun z => absurd z (by omega)) (by omega) (by omega) rfl ?_
        rw [tT_1 a, hf, lRn_go b c]
    · rw [hf] at b c d
      have ec : m2 592 f = T f := (hm2 _ _ (by omega)).trans (h0.2 f (by omega) b)
      refine ⟨fun c => absurd c (by omega), fun _ => ⟨fun c => absurd c (by omega), fun _ => ⟨⟨by omega, by omega⟩, ?_⟩⟩⟩
      rw [ec, f9]
      have hl := isDg_i.mp d
      refine ⟨fun _ => ?_, fun z => absurd z (by omega)⟩
      refine rX7_advance_115 hE ?_
      rw [f9]
      refine ⟨fun z => absurd z (by omega), fun _ => ⟨fun z => absurd z (by omega), fun _ => ⟨fun _ => ?_, fun z => absurd rfl z⟩⟩⟩
      have e8' : (aUp (aUp m2 591 9 2) 591 10 (min 1001 ((((m2 591 10) * 10) + T f) - 48))) 591 8 = f := (aUp_nn (by omega)).trans ((aUp_nn (by omega)).trans f8)
      refine rX7_advance_154 hE ⟨fun c => absurd rfl c, fun _ => ⟨?_, ?_, ?_, rX7_advance_186 hE ⟨?_, ?_⟩⟩⟩
      · rw [f10]; exact ⟨by omega, by omega⟩
      · rw [f10]; exact ⟨by omega, by omega⟩
      · rw [f10]; exact ⟨by omega, by omega⟩
      · rw [e8']; exact ⟨by omega, by omega⟩
      · rw [e8']
        refine c_advR hE hT0 (by omega) h0 (Or.inr ⟨rfl, rfl⟩) (fun m3 g1 g2 g3 g4 g5 => hQ m3 g1 ⟨cTp_fr g1 h0, by rw [g2, hf], g3, by rw [g4, a], fun z => by rw [g5 rfl]; unfold tN; rw [if_pos z, hf]⟩) _ _ (f + 1) (cF4_up (cF4_up (cF4_up hm2 (by omega)) (by omega)) (by omega)) ((aUp_nn (by omega)).trans ((aUp_nn (by omega)).trans ((aUp_nn (by omega)).trans f7))) aUp_re ((aUp_nn (by omega)).trans ((aUp_nn (by omega)).trans aUp_re)) (fun _ => ⟨?_, fun j u v => ?_⟩) (by omega) (by omega) rfl ?_
        · rw [aUp_nn (by omega), aUp_re, f10, show (f + 1 - f).toNat = 1 by omega]
          show _ = min 1001 (0 * 10 + T (f + ((0 : Nat) : Int)) - 48)
          rw [show f + ((0 : Nat) : Int) = f by omega]
        · obtain rfl : j = f := by omega
          exact hl.1
        · rw [tT_2 a, hf, lRn_go b d]
    · rw [hf] at b c d
      have ec : m2 592 f = T f := (hm2 _ _ (by omega)).trans (h0.2 f (by omega) b)
      have hbf := hby f (by omega) b
      refine ⟨fun c => absurd c (by omega), fun _ => ⟨fun c => absurd c (by omega), fun _ => ⟨⟨by omega, by omega⟩, ?_⟩⟩⟩
      rw [ec, f9]
      have fin : VM E mX7_advance (k + 1) m2 154 [(0, aR 591), (1, aI (T f)), (2, aI 3)] [] (retV Q) := by
        have e8' : (aUp m2 591 9 3) 591 8 = f := (aUp_nn (by omega)).trans f8
        refine rX7_advance_154 hE ⟨fun _ => rX7_advance_186 hE ⟨?_, ?_⟩, fun c => absurd c (by omega)⟩
        · rw [e8']; exact ⟨by omega, by omega⟩
        rw [e8']
        have hm3 : cF4 mem (aUp (aUp m2 591 9 3) 591 8 (f + 1)) := cF4_up (cF4_up hm2 (by omega)) (by omega)
        have k7 : (aUp (aUp m2 591 9 3) 591 8 (f + 1)) 591 7 = f := (aUp_nn (by omega)).trans ((aUp_nn (by omega)).trans f7)
        have k8 : (aUp (aUp m2 591 9 3) 591 8 (f + 1)) 591 8 = f + 1 := aUp_re
        have k9 : (aUp (aUp m2 591 9 3) 591 8 (f + 1)) 591 9 = 3 := (aUp_nn (by omega)).trans aUp_re
        generalize (aUp (aUp m2 591 9 3) 591 8 (f + 1)) = m3 at *
        have hz : Q m3 := hQ _ hm3 ⟨cTp_fr hm3 h0, by rw [k7, hf], by rw [k8, tT_3 a, hf], by rw [k9, a], fun q => absurd q (by omega)⟩
        have e33 : m3 591 3 = n := (hm3 _ _ (by omega)).trans h0.1
        refine rX7_advance_71 hE ?_
        rw [k8, e33, k9]
        refine ⟨fun c => absurd c (by omega), fun _ => ⟨fun _ => rX7_advance_199 hE hz, fun _ => ⟨⟨by omega, by omega⟩, ?_⟩⟩⟩
        have low : ∀ v, VM E mX7_advance (k + 1) m3 115 [(0, aR 591), (1, aI v)] [] (retV Q) := by
          intro v
          refine rX7_advance_115 hE ?_
          rw [k9]
          have sg : VM E mX7_advance (k + 1) m3 131 [(0, aR 591), (1, aI v)] [] (retV Q) :=
            rX7_advance_131 hE ⟨fun c => absurd (k9.symm.trans c) (by decide), fun _ => ⟨fun _ => rX7_advance_153 hE hz, fun _ => rX7_advance_153 hE hz⟩⟩
          exact ⟨fun _ => sg, fun _ => ⟨fun _ => sg, fun _ => ⟨fun c => absurd c (by decide), fun _ => ⟨fun _ => rX7_advance_153 hE hz, fun c => absurd c (by decide)⟩⟩⟩⟩
        exact ⟨fun _ => low _, fun _ => ⟨fun _ => low _, fun _ => ⟨fun c => absurd c (by decide), fun _ => ⟨fun _ => rX7_advance_153 hE hz, fun c => absurd c (by decide)⟩⟩⟩⟩
      have s131 : VM E mX7_advance (k + 1) m2 131 [(0, aR 591), (1, aI (T f))] [] (retV Q) := rX7_advance_131 hE ⟨fun _ => fin, fun z => absurd f9 z⟩
      have low : VM E mX7_advance (k + 1) m2 115 [(0, aR 591), (1, aI (T f))] [] (retV Q) := by
        refine rX7_advance_115 hE ⟨fun _ => s131, fun z => ⟨fun _ => s131, fun z2 => absurd (isDg_i.mpr ⟨z, z2⟩) d⟩⟩
      exact ⟨fun _ => low, fun z => ⟨fun _ => low, fun z2 => absurd (isLe_i.mpr ⟨z, z2⟩) c⟩⟩
  -- the blanks
  have blk : ∀ (d : Nat) (m1 : Mm) (x : Int), cF4 mem m1 → m1 591 7 = x → (n - x).toNat = d → 0 ≤ x → x ≤ n → tF T n x = tF T n p → VM E mX7_advance (k + 1) m1 8 [(0, aR 591)] [] (retV Q) := by
    intro d
    induction d with
    | zero =>
      intro m1 x hm e7 h1 h2 h3 h4
      have e3 : m1 591 3 = n := (hm _ _ (by omega)).trans h0.1
      refine rX7_advance_8 hE ?_
      rw [e7, e3]
      exact ⟨fun c => absurd c (by omega), fun _ => ⟨fun _ => go53 m1 hm (by rw [e7, ← h4, tF_no (by omega)]), fun c => absurd c (by omega)⟩⟩
    | succ d ih =>
      intro m1 x hm e7 h1 h2 h3 h4
      have e3 : m1 591 3 = n := (hm _ _ (by omega)).trans h0.1
      have ec : m1 592 x = T x := (hm _ _ (by omega)).trans (h0.2 x (by omega) (by omega))
      refine rX7_advance_8 hE ?_
      rw [e7, e3]
      refine ⟨fun c => absurd c (by omega), fun _ => ⟨fun c => absurd c (by omega), fun _ => ⟨⟨by omega, by omega⟩, ?_⟩⟩⟩
      rw [ec]
      refine ⟨fun c => go53 m1 hm (by rw [e7, ← h4, tF_no (by intro z; exact c z.2)]), fun c => ⟨⟨by omega, by omega⟩, ih _ (x + 1) (cF4_up hm (by omega)) aUp_re (by omega) (by omega) (by omega) ((tF_go (by omega) c).symm.trans h4)⟩⟩
  refine eX7_advance (rX7_advance_0 hE ?_)
  rw [h8]
  exact blk _ _ p (cF4_up cF4_rf (by omega)) aUp_re rfl hp hpn rfl
theorem c_isSign {E : EN} (hE : Ep E) {k : Nat} {mem : Mm} {Q : Int → Mm → Prop} {T : Rw} {n p c : Int} (hT : tOk T n) (h0 : cTk mem T n p) (hp : 0 ≤ p) (hpn : p ≤ n) (hc : 0 ≤ c) (hc2 : c < 1000) (hQ1 : tG T n p = c → Q 1 mem) (hQ0 : ¬ tG T n p = c → Q 0 mem) : CI E mX7_isSign k mem [aR 591, aI c] Q := by
  obtain ⟨⟨e3, et⟩, e7, e8, e9, e10⟩ := h0
  have hb := tF_b (T := T) hpn
  have hT1 := hT.2.1
  refine eX7_isSign ⟨by omega, by omega⟩ (rX7_isSign_0 hE ?_)
  rw [e9, e7, e3]
  rcases tS_c T n p with ⟨a, b⟩ | ⟨a, b, d⟩ | ⟨a, b, d, f⟩ | ⟨a, b, d, f⟩
  · exact ⟨fun _ => hQ0 (by unfold tG; rw [if_neg (by omega)]; omega), fun z => absurd z (by omega)⟩
  · exact ⟨fun _ => hQ0 (by unfold tG; rw [if_neg (by omega)]; omega), fun z => absurd z (by omega)⟩
  · exact ⟨fun _ => hQ0 (by unfold tG; rw [if_neg (by omega)]; omega), fun z => absurd z (by omega)⟩
  · have g : tG T n p = T (tF T n p) := if_pos a
    refine ⟨fun z => absurd a z, fun _ => ⟨fun z => absurd z (by omega), fun _ => ⟨fun z => absurd z (by omega), fun _ => ⟨⟨by omega, by omega⟩, ?_⟩⟩⟩⟩
    rw [et _ (by omega) b, ← g]
    exact ⟨fun z => hQ0 z, fun z => hQ1 z⟩
-- signIn: the sign, if it is one of a text's
def sgL (i : Nat) : List Int := if i = 8 then [60, 62, 61] else if i = 9 then [42, 47, 37] else [43, 45]
def sIn (l : List Int) (g : Int) : Int := if g ∈ l then g else -1
theorem sg_a : ∀ i : Fin 13, (i.1 = 8 ∨ i.1 = 9 ∨ i.1 = 10) → strN i.1 ≤ 5 ∧ (∀ j : Fin 5, j.1 < strN i.1 → strC i.1 j.1 ∈ sgL i.1 ∧ 0 ≤ strC i.1 j.1) ∧ ∀ c ∈ sgL i.1, c < 128 ∧ ∃ j : Fin 5, j.1 < strN i.1 ∧ strC i.1 j.1 = c := by decide +kernel
theorem xI2b_v : ∀ c : Fin 256, xI2b (c.1 : Int) = if c.1 < 128 then (c.1 : Int) else (c.1 : Int) - 256 := by decide +kernel
theorem sg_str {i : Nat} {c : Int} (hi : i = 8 ∨ i = 9 ∨ i = 10) (h0 : 0 ≤ c) (h1 : c ≤ 255) : (∃ j : Nat, j < strN i ∧ strC i j = xI2b c) ↔ c ∈ sgL i := by
  obtain ⟨a1, a2, a3⟩ := sg_a ⟨i, by omega⟩ hi
  have hb := xI2b_v ⟨c.toNat, by omega⟩
  rw [show ((c.toNat : Nat) : Int) = c by omega] at hb
  constructor
  · rintro ⟨j, u, v⟩
    obtain ⟨w, x⟩ := a2 ⟨j, by have : strN i ≤ 5 := a1; omega⟩ u
    have w : strC i j ∈ sgL i := w
    have x : 0 ≤ strC i j := x
    rw [v, hb] at w x
    split at w
    · exact w
    · rename_i q
      rw [if_neg q] at x
      omega
  · intro h
    obtain ⟨u, j, v, w⟩ := a3 c h
    refine ⟨j.1, v, w.trans ?_⟩
    rw [hb, if_pos (show c.toNat < 128 by omega)]
theorem xI2c_b : ∀ c : Fin 256, xI2c (c.1 : Int) = (c.1 : Int) := by decide +kernel
theorem c_signIn {E : EN} (hE : Ep E) (hSt : aStr E) {k : Nat} {mem : Mm} {Q : Int → Mm → Prop} {T : Rw} {n p : Int} {i : Nat} (hT : tOk T n) (h0 : cTk mem T n p) (hp : 0 ≤ p) (hpn : p ≤ n) (hi : i = 8 ∨ i = 9 ∨ i = 10) (hQ : Q (sIn (sgL i) (tG T n p)) mem) : CI E mX7_signIn (k + 4) mem [aR 591, aF (strA E i)] Q := by
  have h0' := h0
  obtain ⟨⟨e3, et⟩, e7, e8, e9, e10⟩ := h0
  have hb := tF_b (T := T) hpn
  have hT1 := hT.2.1
  have hm1 : sIn (sgL i) (-1) = -1 := by unfold sIn; split <;> rfl
  refine eX7_signIn (k := k + 3) (rX7_signIn_0 (k := k + 3) hE hSt ⟨i, by omega, rfl⟩ ?_)
  rw [e9, e7, e3]
  by_cases a : tS T n p = 3
  · have g : tG T n p = T (tF T n p) := if_pos a
    have b : tF T n p < n := by rcases tS_c T n p with ⟨u, v⟩ | ⟨u, v, w⟩ | ⟨u, v, w, x⟩ | ⟨u, v, w, x⟩ <;> omega
    refine ⟨fun z => absurd a z, fun _ => ⟨fun z => absurd z (by omega), fun _ => ⟨fun z => absurd z (by omega), fun _ => ⟨⟨by omega, by omega⟩, fun _ => ?_⟩⟩⟩⟩
    rw [et _ (by omega) b, ← g]
    have hby := hT.2.2 _ (by omega) b
    rw [← g] at hby
    have hx := xI2c_b ⟨(tG T n p).toNat, by omega⟩
    rw [show ((tG T n p).toNat : Int) = tG T n p by omega] at hx
    have hs := sg_str hi hby.1 hby.2
    rw [hx]
    refine s_indexOf hSt (by omega) hby.1 hby.2 fun r hr => ?_
    rcases hr with ⟨rfl, hn⟩ | ⟨j, hj, rfl, hc⟩
    · refine ⟨fun z => absurd z (by omega), fun _ => ?_⟩
      have : ¬ tG T n p ∈ sgL i := fun q => by
        obtain ⟨j, u, v⟩ := hs.mpr q
        exact hn j u v
      unfold sIn at hQ
      rw [if_neg this] at hQ
      exact hQ
    · refine ⟨fun _ => ?_, fun z => absurd z (by omega)⟩
      have hlt := strN_lt i (by omega)
      have : tG T n p ∈ sgL i := hs.mp ⟨j, hj, hc⟩
      rw [e7]
      refine ⟨⟨by omega, by omega⟩, ?_⟩
      unfold sIn at hQ
      rw [if_pos this] at hQ
      rw [et _ (by omega) b, ← g]
      exact hQ
  · have g : tG T n p = -1 := if_neg a
    rw [g, hm1] at hQ
    exact ⟨fun _ => hQ, fun z => absurd z a⟩
-- wordIn: which of a text's words the token is, by what they are worth
def wGo (T : Rw) (f z : Int) : List Int → Int → Int → Int
  | [], w, s => if s = z then w else -1
  | c :: l, w, s => if c = 32 then (if s = z then w else wGo T f z l (w + 1) 0) else wGo T f z l w (if 0 ≤ s ∧ s < z ∧ T (f + s) = c then s + 1 else -1)
def sL (i : Nat) : List Int := (strBy.getD i []).map Int32.toInt
theorem sL_ok : ∀ i : Fin 13, (sL i.1).length = strN i.1 := by decide +kernel
theorem sL_c {i j : Nat} (h : j < strN i) (hi : i < 13) : (sL i)[j]? = some (strC i j) := by
  have e := sL_ok ⟨i, hi⟩
  have e : (sL i).length = strN i := e
  unfold sL strC
  rw [List.getElem?_map]
  have : j < (strBy.getD i []).length := by
    unfold sL at e
    rw [List.length_map] at e
    omega
  generalize strBy.getD i [] = l at this ⊢
  rw [List.getElem?_eq_getElem this, List.getD_eq_getElem?_getD, List.getElem?_eq_getElem this]
  rfl
theorem c_wIn_l {E : EN} (hE : Ep E) (hSt : aStr E) {k : Nat} {mem : Mm} {Q : Int → Mm → Prop} {T : Rw} {n f t : Int} {i : Nat} (hT : tOk T n) (h0 : cTp mem T n) (e7 : mem 591 7 = f) (e8 : mem 591 8 = t) (hf : 0 ≤ f) (hft : f < t) (htn : t ≤ n) (hi : i < 13) : ∀ (l : List Int) (j : Nat) (w s : Int), (sL i).drop j = l → j ≤ strN i → -1 ≤ s → s ≤ j → 0 ≤ w → w ≤ j → Q (wGo T f (t - f) l w s) mem → VM E mX7_wordIn (k + 4 + 1) mem 35 [(0, aR 591), (1, aF (strA E i)), (2, aI w), (3, aI s), (4, aI j)] [] (retI Q) := by
  have hN := strN_lt i hi
  have hT1 := hT.2.1
  intro l
  induction l with
  | nil =>
    intro j w s hl hj s0 s1 w0 w1 hQ
    have hlen : (sL i).length = strN i := sL_ok ⟨i, hi⟩
    have hj2 : j = strN i := by
      have := congrArg List.length hl
      rw [List.length_drop, List.length_nil] at this
      omega
    refine rX7_wordIn_35 hE hSt ⟨i, hi, rfl⟩ (s_strLen hSt hi ⟨fun c => absurd c (by omega), fun _ => s_strLen hSt hi ⟨fun _ => ⟨by rw [e7, e8]; exact ⟨by omega, by omega⟩, fun c => ⟨⟨by omega, by omega⟩, ⟨by omega, by omega⟩, ?_⟩, fun c => ?_⟩, fun c => absurd (show (j : Int) = strN i by omega) c⟩⟩)
    · rw [e7, e8] at c
      have hQ : Q (if s = t - f then w else -1) mem := hQ
      rw [if_neg c] at hQ
      exact rX7_wordIn_35 hE hSt ⟨i, hi, rfl⟩ (s_strLen hSt hi ⟨fun _ => hQ, fun c => absurd c (by omega)⟩)
    · rw [e7, e8] at c
      have hQ : Q (if s = t - f then w else -1) mem := hQ
      rw [if_pos c] at hQ
      exact hQ
  | cons c0 l ih =>
    intro j w s hl hj s0 s1 w0 w1 hQ
    have hlen : (sL i).length = strN i := sL_ok ⟨i, hi⟩
    have hj2 : j < strN i := by
      have := congrArg List.length hl
      rw [List.length_drop, List.length_cons] at this
      omega
    have hc0 : c0 = strC i j := by
      have a := sL_c hj2 hi
      have b : ((sL i).drop j)[0]? = some c0 := by rw [hl]; rfl
      rw [List.getElem?_drop, Nat.add_zero, a] at b
      exact (Option.some.inj b).symm
    have hl2 : (sL i).drop (j + 1) = l := by
      have := congrArg List.tail hl
      rw [List.tail_drop] at this
      exact this
    have hQ : Q (if c0 = 32 then (if s = t - f then w else wGo T f (t - f) l (w + 1) 0) else wGo T f (t - f) l w (if 0 ≤ s ∧ s < t - f ∧ T (f + s) = c0 then s + 1 else -1)) mem := hQ
    have nx : ∀ w2 s2 : Int, -1 ≤ s2 → s2 ≤ (j : Int) + 1 → 0 ≤ w2 → w2 ≤ (j : Int) + 1 → Q (wGo T f (t - f) l w2 s2) mem → VM E mX7_wordIn (k + 4 + 1) mem 35 [(0, aR 591), (1, aF (strA E i)), (2, aI w2), (3, aI s2), (4, aI (j + 1))] [] (retI Q) := fun w2 s2 a b c d hq => ih (j + 1) w2 s2 hl2 (by omega) a (by omega) c (by omega) hq
    refine rX7_wordIn_35 hE hSt ⟨i, hi, rfl⟩ (s_strLen hSt hi ⟨fun c => absurd c (by omega), fun _ => s_strLen hSt hi ⟨fun c => absurd c (by omega), fun _ _ => s_charAt hSt hi (by omega) (by omega) ?_⟩⟩)
    rw [Int.toNat_natCast, ← hc0]
    refine ⟨fun q => ?_, fun q => ⟨by rw [e7, e8]; exact ⟨by omega, by omega⟩, fun c => ⟨⟨by omega, by omega⟩, ⟨by omega, by omega⟩, ?_⟩, fun c => ?_⟩⟩
    · rw [if_neg q] at hQ
      refine ⟨fun c => ⟨⟨by omega, by omega⟩, ?_⟩, fun c => ⟨by rw [e7]; exact ⟨by omega, by omega⟩, fun d => ⟨⟨by omega, by omega⟩, ?_⟩, fun d => ⟨by rw [e7]; rw [e7, e8] at d; exact ⟨by omega, by omega⟩, fun _ => s_charAt hSt hi (by omega) (by omega) ?_⟩⟩⟩
      · rw [if_neg (by omega)] at hQ
        have hs : s = -1 := by omega
        rw [hs]
        exact nx _ _ (by omega) (by omega) w0 (by omega) hQ
      · rw [e7, e8] at d
        rw [if_neg (by omega)] at hQ
        exact nx _ _ (by omega) (by omega) w0 (by omega) hQ
      · rw [e7, e8] at d
        rw [Int.toNat_natCast, ← hc0, e7, h0.2 _ (by omega) (by omega)]
        refine ⟨fun z => ⟨⟨by omega, by omega⟩, ?_⟩, fun z => ⟨⟨by omega, by omega⟩, ⟨by omega, by omega⟩, ?_⟩⟩
        · rw [if_neg fun y => z y.2.2] at hQ
          exact nx _ _ (by omega) (by omega) w0 (by omega) hQ
        · rw [if_pos ⟨c, by omega, z⟩] at hQ
          exact nx _ _ (by omega) (by omega) w0 (by omega) hQ
    · rw [e7, e8] at c
      rw [if_pos q, if_neg c] at hQ
      exact nx _ _ (by omega) (by omega) (by omega) (by omega) hQ
    · rw [e7, e8] at c
      rw [if_pos q, if_pos c] at hQ
      exact hQ
/-- the words of a text -/
def wdL (i : Nat) : List (List Int) :=
  if i = 0 then [[98, 117, 114, 121], [98, 117, 121], [114, 97, 105, 115, 101], [112, 97, 115, 115]]
  else if i = 1 then [[109, 111, 118, 101, 115], [100, 105, 103, 115], [103, 111, 101, 115], [98, 97, 114, 115]]
  else if i = 2 then [[105, 102]] else if i = 3 then [[97, 116]] else if i = 4 then [[116, 105, 109, 101, 115]]
  else if i = 5 then [[97, 110, 100]] else if i = 6 then [[111, 114]] else if i = 7 then [[110, 111, 116]]
  else if i = 11 then [[121, 101, 97, 114], [112, 108, 111, 116, 115], [100, 111, 110, 101], [109, 111, 118, 101, 100], [97, 116], [107, 105, 110, 100], [98, 111, 117, 103, 104, 116]]
  else [[112, 108, 111, 116], [99, 101, 108, 108], [107, 105, 110, 100], [112, 114, 105, 99, 101], [98, 111, 117, 103, 104, 116], [102, 97, 109, 105, 108, 121], [115, 109, 97, 108, 108], [121, 101, 97, 114, 115], [121, 101, 97, 114], [109, 111, 111, 100]]
/-- what they are worth -/
def whL (i : Nat) : List Int :=
  if i = 0 then [87641, 2745, 18916965, 525939] else if i = 1 then [14145715, 140531, 244915, 67155]
  else if i = 2 then [294] else if i = 3 then [52] else if i = 4 then [21279923] else if i = 5 then [1476] else if i = 6 then [498] else if i = 7 then [14836]
  else if i = 11 then [824370, 17186451, 146885, 14145700, 52, 370116, 83533076]
  else [537076, 103820, 370116, 17376357, 83533076, 202810777, 20350348, 26379859, 824370, 441828]
def isWi (i : Nat) : Prop := i < 8 ∨ i = 11 ∨ i = 12
def lFn (u : List Int) : Rw := fun j => u.getD j.toNat 0
def jnW : List (List Int) → List Int
  | [] => []
  | [u] => u
  | u :: v :: l => u ++ 32 :: jnW (v :: l)
theorem wd_ok : ∀ i : Fin 13, (i.1 < 8 ∨ i.1 = 11 ∨ i.1 = 12) → sL i.1 = jnW (wdL i.1) ∧ (∀ u ∈ wdL i.1, 0 < u.length ∧ u.length ≤ 10 ∧ ∀ c ∈ u, 97 ≤ c ∧ c ≤ 122) ∧ (wdL i.1).map (fun u => hsh (lFn u) 0 u.length) = whL i.1 ∧ wdL i.1 ≠ [] := by decide +kernel
def ixL : List Int → Int → Int → Int
  | [], _, _ => -1
  | a :: l, h, j => if h = a then j else ixL l h (j + 1)
/-- the token's z letters behind f are those of u from s on -/
theorem wGo_u {T : Rw} {f z : Int} {l : List Int} {w : Int} : ∀ (u : List Int) (s : Int), (∀ c ∈ u, ¬ c = 32) → wGo T f z (u ++ l) w s = wGo T f z l w (if u = [] then s else if 0 ≤ s ∧ s + u.length ≤ z ∧ ∀ j : Nat, j < u.length → T (f + s + j) = u.getD j 0 then s + u.length else -1) := by
  intro u
  induction u with
  | nil => intro s _; rfl
  | cons c u ih =>
    intro s hc
    show (if c = 32 then _ else wGo T f z (u ++ l) w (if 0 ≤ s ∧ s < z ∧ T (f + s) = c then s + 1 else -1)) = _
    rw [if_neg (hc c List.mem_cons_self), ih _ fun x hx => hc x (List.mem_cons_of_mem _ hx), if_neg (List.cons_ne_nil c u)]
    congr 1
    have hl : ((c :: u).length : Int) = u.length + 1 := by simp
    by_cases q : 0 ≤ s ∧ s < z ∧ T (f + s) = c
    · rw [if_pos q]
      by_cases e : u = []
      · subst e
        have hl : (([c] : List Int).length : Int) = 1 := rfl
        have yes : 0 ≤ s ∧ s + (([c] : List Int).length : Int) ≤ z ∧ ∀ j : Nat, j < ([c] : List Int).length → T (f + s + j) = ([c] : List Int).getD j 0 := by
          refine ⟨q.1, by omega, fun j hj => ?_⟩
          have hj : j < 1 := hj
          obtain rfl : j = 0 := by omega
          rw [show f + s + ((0 : Nat) : Int) = f + s by omega]
          exact q.2.2
        rw [if_pos rfl, if_pos yes, hl]
      · rw [if_neg e]
        by_cases r : 0 ≤ s + 1 ∧ s + 1 + u.length ≤ z ∧ ∀ j : Nat, j < u.length → T (f + (s + 1) + j) = u.getD j 0
        · have yes : 0 ≤ s ∧ s + ((c :: u).length : Int) ≤ z ∧ ∀ j : Nat, j < (c :: u).length → T (f + s + j) = (c :: u).getD j 0 := by
            refine ⟨q.1, by omega, fun j hj => ?_⟩
            cases j with
            | zero => rw [show f + s + ((0 : Nat) : Int) = f + s by omega]; exact q.2.2
            | succ j =>
              rw [show f + s + ((j + 1 : Nat) : Int) = f + (s + 1) + (j : Int) by omega]
              exact r.2.2 j (by simpa using hj)
          rw [if_pos r, if_pos yes, hl]
          omega
        · rw [if_neg r, if_neg]
          intro y
          refine r ⟨by omega, by omega, fun j hj => ?_⟩
          have := y.2.2 (j + 1) (by simpa using hj)
          rw [show f + s + ((j + 1 : Nat) : Int) = f + (s + 1) + (j : Int) by omega] at this
          exact this
    · rw [if_neg q]
      have no : ¬ (0 ≤ s ∧ s + (c :: u).length ≤ z ∧ ∀ j : Nat, j < (c :: u).length → T (f + s + j) = (c :: u).getD j 0) := by
        intro y
        refine q ⟨y.1, by have := y.2.1; omega, ?_⟩
        have := y.2.2 0 (by simp)
        rw [show f + s + ((0 : Nat) : Int) = f + s by omega] at this
        exact this
      rw [if_neg no]
      by_cases e : u = []
      · rw [if_pos e]
      · rw [if_neg e, if_neg]
        intro y
        exact absurd y.1 (by omega)
/-- a token of z letters is the word u just if it is worth as much -/
theorem tok_w {T : Rw} {f z : Int} {u : List Int} (hz : 0 < z) (hT : ∀ j, f ≤ j → j < f + z → 97 ≤ T j ∧ T j ≤ 122) (h0 : 0 < u.length) (h1 : u.length ≤ 10) (hu : ∀ c ∈ u, 97 ≤ c ∧ c ≤ 122) : (z = u.length ∧ ∀ j : Nat, j < u.length → T (f + j) = u.getD j 0) ↔ (if z ≤ 10 then hsh T f z.toNat else -1) = hsh (lFn u) 0 u.length := by
  have hl : ∀ j : Int, 0 ≤ j → j < 0 + (u.length : Int) → 97 ≤ lFn u j ∧ lFn u j ≤ 122 := by
    intro j a b
    unfold lFn
    have : j.toNat < u.length := by omega
    rw [List.getD_eq_getElem?_getD, List.getElem?_eq_getElem this]
    exact hu _ (List.getElem_mem this)
  have hp := (hsh_0 u.length hl).2 h0
  constructor
  · rintro ⟨a, b⟩
    rw [if_pos (by omega)]
    have e : z.toNat = u.length := by omega
    rw [e]
    refine hsh_cg _ fun j x y => ?_
    have := b j.toNat (by omega)
    rw [show ((j.toNat : Nat) : Int) = j by omega] at this
    rw [this]
    unfold lFn
    rw [show (0 + j).toNat = j.toNat by omega]
  · intro h
    split at h
    · obtain ⟨a, b⟩ := hsh_inj z.toNat u.length (fun j x y => hT j x (by omega)) hl h
      refine ⟨by omega, fun j hj => ?_⟩
      have := b j (by omega) (by omega)
      rw [this]
      unfold lFn
      rw [show (0 + (j : Int)).toNat = j by omega]
    · omega
theorem wGo_w {T : Rw} {f z : Int} (hz : 0 < z) (hT : ∀ j, f ≤ j → j < f + z → 97 ≤ T j ∧ T j ≤ 122) : ∀ (W : List (List Int)) (w : Int), W ≠ [] → (∀ u ∈ W, 0 < u.length ∧ u.length ≤ 10 ∧ ∀ c ∈ u, 97 ≤ c ∧ c ≤ 122) → wGo T f z (jnW W) w 0 = ixL (W.map fun u => hsh (lFn u) 0 u.length) (if z ≤ 10 then hsh T f z.toNat else -1) w := by
  intro W
  induction W with
  | nil => intro w h; exact absurd rfl h
  | cons u W ih =>
    intro w _ hW
    obtain ⟨a, b, c⟩ := hW u List.mem_cons_self
    have ht := tok_w hz hT a b c
    have hn : ∀ x ∈ u, ¬ x = 32 := fun x hx => by have := c x hx; omega
    have hne : u ≠ [] := by intro q; rw [q] at a; exact absurd a (by decide)
    have e : (if 0 ≤ (0 : Int) ∧ 0 + (u.length : Int) ≤ z ∧ ∀ j : Nat, j < u.length → T (f + 0 + j) = u.getD j 0 then 0 + (u.length : Int) else -1) = z ↔ (if z ≤ 10 then hsh T f z.toNat else -1) = hsh (lFn u) 0 u.length := by
      rw [← ht]
      simp only [Int.add_zero, Int.zero_add]
      split
      · rename_i q
        exact ⟨fun r => ⟨r.symm, q.2.2⟩, fun r => r.1.symm⟩
      · rename_i q
        exact ⟨fun r => by omega, fun r => absurd ⟨Int.le_refl _, by omega, r.2⟩ q⟩
    cases W with
    | nil =>
      show wGo T f z u w 0 = _
      rw [← List.append_nil u, wGo_u u 0 hn, if_neg hne, List.append_nil]
      show (if _ = z then w else -1) = (if _ = _ then w else -1)
      by_cases q : (if z ≤ 10 then hsh T f z.toNat else -1) = hsh (lFn u) 0 u.length
      · rw [if_pos q, if_pos (e.mpr q)]
      · rw [if_neg q, if_neg fun r => q (e.mp r)]
    | cons v W =>
      show wGo T f z (u ++ 32 :: jnW (v :: W)) w 0 = (if _ = _ then w else ixL ((v :: W).map _) _ (w + 1))
      rw [wGo_u u 0 hn, if_neg hne]
      show (if (32 : Int) = 32 then (if _ = z then w else wGo T f z (jnW (v :: W)) (w + 1) 0) else _) = _
      rw [if_pos rfl]
      by_cases q : (if z ≤ 10 then hsh T f z.toNat else -1) = hsh (lFn u) 0 u.length
      · rw [if_pos q, if_pos (e.mpr q)]
      · rw [if_neg q, if_neg fun r => q (e.mp r)]
        exact ih (w + 1) (List.cons_ne_nil _ _) fun x hx => hW x (List.mem_cons_of_mem _ hx)
theorem ixL_0 {i : Nat} (hi : isWi i) : ∀ j, ixL (whL i) 0 j = -1 := by
  have : ∀ i : Fin 13, (i.1 < 8 ∨ i.1 = 11 ∨ i.1 = 12) → ∀ c ∈ whL i.1, ¬ (0 : Int) = c := by decide +kernel
  have h := this ⟨i, by unfold isWi at hi; omega⟩ hi
  have g : ∀ l : List Int, (∀ c ∈ l, ¬ (0 : Int) = c) → ∀ j, ixL l 0 j = -1 := by
    intro l
    induction l with
    | nil => intro _ _; rfl
    | cons a l ih =>
      intro h j
      show (if (0 : Int) = a then j else ixL l 0 (j + 1)) = -1
      rw [if_neg (h a List.mem_cons_self)]
      exact ih (fun c hc => h c (List.mem_cons_of_mem _ hc)) _
  exact g _ h
theorem c_wordIn {E : EN} (hE : Ep E) (hSt : aStr E) {k : Nat} {mem : Mm} {Q : Int → Mm → Prop} {T : Rw} {n p : Int} {i : Nat} (hT : tOk T n) (h0 : cTk mem T n p) (hp : 0 ≤ p) (hpn : p ≤ n) (hi : isWi i) (hQ : Q (ixL (whL i) (tW T n p) 0) mem) : CI E mX7_wordIn (k + 5) mem [aR 591, aF (strA E i)] Q := by
  have h0' := h0
  obtain ⟨h3, e7, e8, e9, e10⟩ := h0
  have hb := tF_b (T := T) hpn
  have hb2 := tT_b (T := T) hpn
  have hi13 : i < 13 := by unfold isWi at hi; omega
  refine eX7_wordIn (k := k + 4) (rX7_wordIn_0 (k := k + 4) hE ⟨i, hi13, rfl⟩ ?_)
  rw [e9, e7, e8, h3.1]
  by_cases a : tS T n p = 1
  · have hlt := hb2.2.2 (by omega)
    refine ⟨fun z => absurd a z, fun _ => ⟨fun z => absurd z (by omega), fun _ => ⟨fun _ => ?_, fun z => absurd z (by omega)⟩⟩⟩
    have w1 : tW T n p = (if tT T n p - tF T n p ≤ 10 then hsh T (tF T n p) (tT T n p - tF T n p).toNat else -1) := if_pos a
    obtain ⟨s1, s2, s3, s4⟩ := wd_ok ⟨i, hi13⟩ hi
    have s1 : sL i = jnW (wdL i) := s1
    have s3 : (wdL i).map (fun u => hsh (lFn u) 0 u.length) = whL i := s3
    refine c_wIn_l hE hSt hT h3 e7 e8 (by omega) (by omega) hb2.2.1 hi13 (jnW (wdL i)) 0 0 0 s1 (Nat.zero_le _) (by omega) (by omega) (by omega) (by omega) ?_
    rw [wGo_w (by omega) (fun j u v => tT_le a u (by omega)) (wdL i) 0 s4 s2, s3, ← w1]
    exact hQ
  · have w1 : tW T n p = 0 := if_neg a
    rw [w1, ixL_0 hi] at hQ
    exact ⟨fun _ => hQ, fun z => absurd z a⟩
theorem c_isWord {E : EN} (hE : Ep E) (hSt : aStr E) {k : Nat} {mem : Mm} {Q : Int → Mm → Prop} {T : Rw} {n p h : Int} {i : Nat} (hT : tOk T n) (h0 : cTk mem T n p) (hp : 0 ≤ p) (hpn : p ≤ n) (hi : isWi i) (hh : whL i = [h]) (hQ1 : tW T n p = h → Q 1 mem) (hQ0 : ¬ tW T n p = h → Q 0 mem) : CI E mX7_isWord (k + 6) mem [aR 591, aF (strA E i)] Q := by
  have hi13 : i < 13 := by unfold isWi at hi; omega
  refine eX7_isWord (k := k + 5) (rX7_isWord_0 (k := k + 5) hE ⟨i, hi13, rfl⟩ (c_wordIn hE hSt hT h0 hp hpn hi ?_))
  rw [hh]
  show (¬ (if tW T n p = h then (0 : Int) else -1) = 0 → _) ∧ ((if tW T n p = h then (0 : Int) else -1) = 0 → _)
  by_cases q : tW T n p = h
  · rw [if_pos q]
    exact ⟨fun z => absurd rfl z, fun _ => hQ1 q⟩
  · rw [if_neg q]
    exact ⟨fun _ => hQ0 q, fun z => absurd z (by decide)⟩
