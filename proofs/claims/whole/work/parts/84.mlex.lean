-- the model's token: next, isWord, isSign, must, number (walked anew: its cast wraps)
theorem rjX12_number_0 {E : EN} (hE : Ep E) {k : Nat} {mem : Mm} {Q : Int → Mm → Prop} {p0 p1 : Int}
    (h : ((¬ (mem 603 16) = 2 → (CV E mX12_must k mem [aR 603, aI 0] (fun m1 => Q (w32 (mem 603 17)) m1))) ∧ ((mem 603 16) = 2 → (R64 (mem 603 17) → R64 p0 → R64 p1 → CI E mX12_in k mem [aL (mem 603 17), aL p0, aL p1] (fun r3 m2 => ((r3 = 0 → (CV E mX12_must k m2 [aR 603, aI 0] (fun m4 => Q (w32 (mem 603 17)) m4))) ∧ (¬ r3 = 0 → (CV E mX12_must k m2 [aR 603, aI 1] (fun m5 => Q (w32 (mem 603 17)) m5))))))))) :
    VM E mX12_number (k + 1) mem 0 [(0, aR 603), (1, aL p0), (3, aL p1)] [] (retI Q) := by
  refine v_aload_n (pc := 0) dX12_number_0 0 rfl ?_
  refine m_getf (pc := 1) (t := 1) (v := (mem 603 17)) dX12_number_1 flX12_251 rfl at603 rfl ?_
  refine v_l2i (pc := 4) dX12_number_4 ?_
  refine v_istore (pc := 5) (al2 := [(5, aI (w32 (mem 603 17))), (0, aR 603), (1, aL p0), (3, aL p1)]) dX12_number_5 (by decide) rfl ?_
  refine v_aload_n (pc := 7) dX12_number_7 1 rfl ?_
  refine v_aload_n (pc := 8) dX12_number_8 1 rfl ?_
  refine m_getf (pc := 9) (t := 0) (v := (mem 603 16)) dX12_number_9 flX12_261 rfl at603 rfl ?_
  refine v_iconst (pc := 12) dX12_number_12 (by decide) ?_
  refine v_icmpne (pc := 13) (tgt := 32) dX12_number_13 (by decide) (fun c1 => ?_) (fun c1 => ?_)
  · have h := h.1 c1
    refine v_iconst (pc := 32) dX12_number_32 (by decide) ?_
    refine m_invV (pc := 33) (mi' := mX12_must) (rest := []) [aI 0] dX12_number_33 at603 (by decide) rfl msX12_must mvX12_must lkX12_274 rfl (Nat.le_of_ble_eq_true rfl) (fun hn => CV_mono (h) (fun m1 h => ?_))
    refine v_iload (pc := 36) dX12_number_36 0 rfl ?_
    exact m_retI (pc := 38) dX12_number_38 rfl h
  · have h := h.2 c1
    refine v_aload_n (pc := 16) dX12_number_16 1 rfl ?_
    refine m_getf (pc := 17) (t := 1) (v := (mem 603 17)) dX12_number_17 flX12_251 rfl at603 rfl ?_
    refine v_lload_n (pc := 20) dX12_number_20 2 rfl ?_
    refine v_lload_n (pc := 21) dX12_number_21 3 rfl ?_
    refine m_invSI (pc := 22) (mi' := mX12_in) (rest := [aR 603]) [aL (mem 603 17), aL p0, aL p1] dX12_number_22 msX12_in stX12_in lkX12_182 rfl (Nat.le_of_ble_eq_true rfl) (fun hn => CI_mono (h (aaL hn 0 rfl) (aaL hn 1 rfl) (aaL hn 2 rfl)) (fun r3 m2 h => ?_))
    refine v_ifeq (pc := 25) (tgt := 32) dX12_number_25 (by decide) (fun c1 => ?_) (fun c1 => ?_)
    · have h := h.1 c1
      refine v_iconst (pc := 32) dX12_number_32 (by decide) ?_
      refine m_invV (pc := 33) (mi' := mX12_must) (rest := []) [aI 0] dX12_number_33 at603 (by decide) rfl msX12_must mvX12_must lkX12_274 rfl (Nat.le_of_ble_eq_true rfl) (fun hn => CV_mono (h) (fun m4 h => ?_))
      refine v_iload (pc := 36) dX12_number_36 0 rfl ?_
      exact m_retI (pc := 38) dX12_number_38 rfl h
    · have h := h.2 c1
      refine v_iconst (pc := 28) dX12_number_28 (by decide) ?_
      refine v_goto (pc := 29) (tgt := 33) dX12_number_29 (by decide) ?_
      refine m_invV (pc := 33) (mi' := mX12_must) (rest := []) [aI 1] dX12_number_33 at603 (by decide) rfl msX12_must mvX12_must lkX12_274 rfl (Nat.le_of_ble_eq_true rfl) (fun hn => CV_mono (h) (fun m5 h => ?_))
      refine v_iload (pc := 36) dX12_number_36 0 rfl ?_
      exact m_retI (pc := 38) dX12_number_38 rfl h
def mF4 (m m2 : Mm) : Prop := ∀ o i, ¬ (o = 603 ∧ 14 ≤ i ∧ i ≤ 17) → m2 o i = m o i
theorem mF4_rf {m : Mm} : mF4 m m := fun _ _ _ => rfl
theorem mF4_tr {m m2 m3 : Mm} (h : mF4 m m2) (h2 : mF4 m2 m3) : mF4 m m3 := fun o i a => (h2 o i a).trans (h o i a)
theorem mF4_up {m m2 : Mm} {j v : Int} (h : mF4 m m2) (hj : 14 ≤ j ∧ j ≤ 17) : mF4 m (aUp m2 603 j v) := fun o i a => (if_neg fun q => a ⟨q.1, by omega⟩).trans (h o i a)
def mTp (m : Mm) (T : Rw) (n : Int) : Prop := (m 603 13 = n ∧ m 603 18 = -1) ∧ ∀ i, 0 ≤ i → i < n → m 612 i = T i
def mTk (m : Mm) (T : Rw) (n p : Int) : Prop := mTp m T n ∧ m 603 14 = tF T n p ∧ m 603 15 = tT T n p ∧ m 603 16 = tS T n p ∧ (tS T n p = 1 → m 603 17 = tW T n p) ∧ (tS T n p = 3 → m 603 17 = tG T n p) ∧ (tS T n p = 2 → 0 ≤ m 603 17 ∧ m 603 17 ≤ 100000000 ∧ min 1001 (m 603 17) = tN T n p)
theorem mTp_fr {m m2 : Mm} {T : Rw} {n : Int} (h : mF4 m m2) (hT : mTp m T n) : mTp m2 T n := ⟨⟨(h _ _ (by omega)).trans hT.1.1, (h _ _ (by omega)).trans hT.1.2⟩, fun i a b => (h _ _ (by omega)).trans (hT.2 i a b)⟩
theorem m_isSmall {E : EN} (hE : Ep E) {k : Nat} {mem : Mm} {Q : Int → Mm → Prop} {c : Int} (hc : R32 c) (h1 : isLe c = true → Q 1 mem) (h0 : ¬ isLe c = true → Q 0 mem) : CI E mX12_isSmall k mem [aI c] Q :=
  eX12_isSmall hc (rX12_isSmall_0 hE ⟨fun a => h0 fun z => absurd (isLe_i.mp z) (by omega), fun a => ⟨fun b => h0 fun z => absurd (isLe_i.mp z) (by omega), fun b => h1 (isLe_i.mpr ⟨a, b⟩)⟩⟩)
theorem m_isDigit {E : EN} (hE : Ep E) {k : Nat} {mem : Mm} {Q : Int → Mm → Prop} {c : Int} (hc : R32 c) (h1 : isDg c = true → Q 1 mem) (h0 : ¬ isDg c = true → Q 0 mem) : CI E mX12_isDigit k mem [aI c] Q :=
  eX12_isDigit hc (rX12_isDigit_0 hE ⟨fun a => h0 fun z => absurd (isDg_i.mp z) (by omega), fun a => ⟨fun b => h0 fun z => absurd (isDg_i.mp z) (by omega), fun b => h1 (isDg_i.mpr ⟨a, b⟩)⟩⟩)
theorem pw32 : ∀ d : Fin 11, (0 : Int) < 32 ^ d.1 ∧ (32 : Int) ^ d.1 ≤ 1125899906842624 := by decide +kernel
theorem hsh_up {T : Rw} {f : Int} : ∀ d : Nat, (∀ j : Int, f ≤ j → j < f + d → 97 ≤ T j ∧ T j ≤ 122) → hsh T f d < 32 ^ d := by
  intro d
  induction d with
  | zero => intro _; show (0 : Int) < 1; omega
  | succ d ih =>
    intro h
    have a := ih fun j u v => h j u (by omega)
    have b := h (f + (d : Int)) (by omega) (by omega)
    show hsh T f d * 32 + T (f + (d : Int)) - 96 < 32 ^ (d + 1)
    rw [Int.pow_succ]
    omega
theorem m_nxL {E : EN} (hE : Ep E) {k : Nat} {m0 : Mm} {Q : Mm → Prop} {T : Rw} {n f tt : Int} (hT : tOk T n) (hf : 0 ≤ f) (h0 : mTp m0 T n)
    (hQ : ∀ m2, mF4 m0 m2 → m2 603 14 = f → m2 603 15 = tt → m2 603 16 = 1 → m2 603 17 = (if tt - f ≤ 10 then hsh T f (tt - f).toNat else -1) → Q m2) : ∀ (d : Nat) (mem : Mm) (t : Int), mF4 m0 mem → mem 603 14 = f → mem 603 15 = t → mem 603 16 = 1 → mem 603 17 = (if t - f ≤ 10 then hsh T f (t - f).toNat else -1) → (∀ j, f ≤ j → j < t → 97 ≤ T j ∧ T j ≤ 122) → f ≤ t → t ≤ n → (n - t).toNat = d → lRn T n isLe (n - t).toNat t = tt → VM E mX12_next (k + 1) mem 149 [(0, aR 603)] [] (retV Q) := by
  obtain ⟨n0, n1, hby⟩ := hT
  intro d
  induction d with
  | zero =>
    intro mem t hm e14 e15 e16 e17 hl h1 h2 h3 h4
    have e13 : mem 603 13 = n := (hm _ _ (by omega)).trans h0.1.1
    rw [lRn_no (by omega)] at h4
    subst h4
    have hz : VM E mX12_next (k + 1) mem 243 [(0, aR 603)] [] (retV Q) := rX12_next_243 hE ⟨fun _ => rX12_next_335 hE (hQ _ hm e14 e15 e16 e17), fun c => absurd (e16.symm.trans c) (by decide)⟩
    refine rX12_next_149 hE ?_
    rw [e16, e15, e13]
    exact ⟨fun _ => hz, fun _ => ⟨fun _ => hz, fun c => absurd c (by omega)⟩⟩
  | succ d ih =>
    intro mem t hm e14 e15 e16 e17 hl h1 h2 h3 h4
    have e13 : mem 603 13 = n := (hm _ _ (by omega)).trans h0.1.1
    have ec : mem 612 t = T t := (hm _ _ (by omega)).trans (h0.2 t (by omega) (by omega))
    have hb := hby t (by omega) (by omega)
    refine rX12_next_149 hE ?_
    rw [e16, e15, e13]
    refine ⟨fun c => absurd rfl c, fun _ => ⟨fun c => absurd c (by omega), fun _ => ⟨⟨by omega, by omega⟩, ?_⟩⟩⟩
    rw [ec]
    refine fun hr => m_isSmall hE hr (fun q => ⟨fun c => absurd c (by decide), fun _ => ?_⟩) (fun q => ⟨fun _ => ?_, fun c => absurd rfl c⟩)
    · rw [lRn_go (by omega) q] at h4
      have q := isLe_i.mp q
      have hl2 : ∀ j, f ≤ j → j < t + 1 → 97 ≤ T j ∧ T j ≤ 122 := by
        intro j u v
        by_cases z : j = t
        · rw [z]; exact q
        · exact hl j u (by omega)
      rw [e14, e15, e17, ec]
      refine ⟨⟨by omega, by omega⟩, fun c => ⟨⟨by omega, by omega⟩, ?_⟩, fun c => ?_⟩
      · refine ih _ (t + 1) (mF4_up (mF4_up hm (by omega)) (by omega)) ((aUp_nn (by omega)).trans ((aUp_nn (by omega)).trans e14)) aUp_re ((aUp_nn (by omega)).trans ((aUp_nn (by omega)).trans e16)) ?_ hl2 (by omega) (by omega) (by omega) h4
        rw [aUp_nn (by omega), aUp_re, if_neg (by omega)]
      · have u := hsh_up (T := T) (f := f) (t - f).toNat fun j x y => hl j x (by omega)
        have u0 := hsh_0 (T := T) (f := f) (t - f).toNat fun j x y => hl j x (by omega)
        have u2 := pw32 ⟨(t - f).toNat, by omega⟩
        have u2 : (32 : Int) ^ (t - f).toNat ≤ 1125899906842624 := u2.2
        rw [if_pos (by omega)]
        refine ⟨⟨by omega, by omega⟩, ⟨by omega, by omega⟩, ⟨by omega, by omega⟩, ⟨by omega, by omega⟩, ⟨by omega, by omega⟩, ?_⟩
        refine ih _ (t + 1) (mF4_up (mF4_up hm (by omega)) (by omega)) ((aUp_nn (by omega)).trans ((aUp_nn (by omega)).trans e14)) aUp_re ((aUp_nn (by omega)).trans ((aUp_nn (by omega)).trans e16)) ?_ hl2 (by omega) (by omega) (by omega) h4
        rw [aUp_nn (by omega), aUp_re, if_pos (by omega), show (t + 1 - f).toNat = (t - f).toNat + 1 by omega]
        show _ = hsh T f (t - f).toNat * 32 + T (f + ((t - f).toNat : Int)) - 96
        rw [show f + ((t - f).toNat : Int) = t by omega]
    · rw [lRn_no (by intro z; exact q z.2)] at h4
      subst h4
      exact rX12_next_243 hE ⟨fun _ => rX12_next_335 hE (hQ _ hm e14 e15 e16 e17), fun c => absurd (e16.symm.trans c) (by decide)⟩
theorem m_nxD {E : EN} (hE : Ep E) {k : Nat} {m0 : Mm} {Q : Mm → Prop} {T : Rw} {n f tt : Int} (hT : tOk T n) (hf : 0 ≤ f) (h0 : mTp m0 T n)
    (hQ : ∀ m2, mF4 m0 m2 → m2 603 14 = f → m2 603 15 = tt → m2 603 16 = 2 → 0 ≤ m2 603 17 ∧ m2 603 17 ≤ 100000000 ∧ min 1001 (m2 603 17) = nmb T f (tt - f).toNat → Q m2) : ∀ (d : Nat) (mem : Mm) (t : Int), mF4 m0 mem → mem 603 14 = f → mem 603 15 = t → mem 603 16 = 2 → 0 ≤ mem 603 17 ∧ mem 603 17 ≤ 100000000 ∧ min 1001 (mem 603 17) = nmb T f (t - f).toNat → f ≤ t → t ≤ n → (n - t).toNat = d → lRn T n isDg (n - t).toNat t = tt → VM E mX12_next (k + 1) mem 243 [(0, aR 603)] [] (retV Q) := by
  obtain ⟨n0, n1, hby⟩ := hT
  intro d
  induction d with
  | zero =>
    intro mem t hm e14 e15 e16 e17 h1 h2 h3 h4
    have e13 : mem 603 13 = n := (hm _ _ (by omega)).trans h0.1.1
    rw [lRn_no (by omega)] at h4
    subst h4
    refine rX12_next_243 hE ?_
    rw [e16, e15, e13]
    exact ⟨fun c => absurd rfl c, fun _ => ⟨fun _ => rX12_next_335 hE (hQ _ hm e14 e15 e16 e17), fun c => absurd c (by omega)⟩⟩
  | succ d ih =>
    intro mem t hm e14 e15 e16 e17 h1 h2 h3 h4
    have e13 : mem 603 13 = n := (hm _ _ (by omega)).trans h0.1.1
    have ec : mem 612 t = T t := (hm _ _ (by omega)).trans (h0.2 t (by omega) (by omega))
    have hb := hby t (by omega) (by omega)
    refine rX12_next_243 hE ?_
    rw [e16, e15, e13]
    refine ⟨fun c => absurd rfl c, fun _ => ⟨fun c => absurd c (by omega), fun _ => ⟨⟨by omega, by omega⟩, ?_⟩⟩⟩
    rw [ec]
    refine fun hr => m_isDigit hE hr (fun q => ⟨fun c => absurd c (by decide), fun _ => ?_⟩) (fun q => ⟨fun _ => ?_, fun c => absurd rfl c⟩)
    · rw [lRn_go (by omega) q] at h4
      have q := isDg_i.mp q
      obtain ⟨w0, w1, w2⟩ := e17
      generalize hw : mem 603 17 = w at w0 w1 w2
      rw [e15, ec]
      have nb : nmb T f (t + 1 - f).toNat = min 1001 (nmb T f (t - f).toNat * 10 + T t - 48) := by
        rw [show (t + 1 - f).toNat = (t - f).toNat + 1 by omega]
        show min 1001 (nmb T f (t - f).toNat * 10 + T (f + ((t - f).toNat : Int)) - 48) = _
        rw [show f + ((t - f).toNat : Int) = t by omega]
      refine ⟨fun c => ⟨⟨by omega, by omega⟩, ⟨by omega, by omega⟩, ⟨by omega, by omega⟩, ⟨by omega, by omega⟩, ⟨by omega, by omega⟩, ?_⟩, fun c => ⟨⟨by omega, by omega⟩, ?_⟩⟩
      · refine ih _ (t + 1) (mF4_up (mF4_up hm (by omega)) (by omega)) ((aUp_nn (by omega)).trans ((aUp_nn (by omega)).trans e14)) aUp_re ((aUp_nn (by omega)).trans ((aUp_nn (by omega)).trans e16)) ?_ (by omega) (by omega) (by omega) h4
        rw [aUp_nn (by omega), aUp_re, nb]
        omega
      · refine ih _ (t + 1) (mF4_up (mF4_up hm (by omega)) (by omega)) ((aUp_nn (by omega)).trans ((aUp_nn (by omega)).trans e14)) aUp_re ((aUp_nn (by omega)).trans ((aUp_nn (by omega)).trans e16)) ?_ (by omega) (by omega) (by omega) h4
        rw [aUp_nn (by omega), aUp_re, nb]
        omega
    · rw [lRn_no (by intro z; exact q z.2)] at h4
      subst h4
      exact rX12_next_335 hE (hQ _ hm e14 e15 e16 e17)
theorem m_next {E : EN} (hE : Ep E) {k : Nat} {mem : Mm} {Q : Mm → Prop} {T : Rw} {n p : Int} (hT : tOk T n) (h0 : mTp mem T n) (h15 : mem 603 15 = p) (hp : 0 ≤ p) (hpn : p ≤ n) (hQ : ∀ m2, mF4 mem m2 → mTk m2 T n p → Q m2) : CV E mX12_next (k + 1) mem [aR 603] Q := by
  have hT0 := hT
  obtain ⟨n0, n1, hby⟩ := hT
  have hb := tF_b (T := T) hpn
  have go46 : ∀ m1, mF4 mem m1 → m1 603 14 = tF T n p → VM E mX12_next (k + 1) m1 46 [(0, aR 603)] [] (retV Q) := by
    intro m1 hm e14
    have e13 : m1 603 13 = n := (hm _ _ (by omega)).trans h0.1.1
    have dec := tS_c T n p
    have g1 : tS T n p = 1 → tT T n p = _ := tT_1
    have g2 : tS T n p = 2 → tT T n p = _ := tT_2
    have g3 : tS T n p = 3 → tT T n p = _ := tT_3
    have g0 : tS T n p = 0 → tT T n p = _ := tT_0
    have gW : tS T n p = 1 → tW T n p = (if tT T n p - tF T n p ≤ 10 then hsh T (tF T n p) (tT T n p - tF T n p).toNat else -1) := fun z => if_pos z
    have gG : tS T n p = 3 → tG T n p = T (tF T n p) := fun z => if_pos z
    have gN : tS T n p = 2 → tN T n p = nmb T (tF T n p) (tT T n p - tF T n p).toNat := fun z => if_pos z
    have fin : ∀ m2, mF4 mem m2 → m2 603 14 = tF T n p → m2 603 15 = tT T n p → m2 603 16 = tS T n p → (tS T n p = 1 → m2 603 17 = tW T n p) → (tS T n p = 3 → m2 603 17 = tG T n p) → (tS T n p = 2 → 0 ≤ m2 603 17 ∧ m2 603 17 ≤ 100000000 ∧ min 1001 (m2 603 17) = tN T n p) → Q m2 := fun m2 a b c d e f g => hQ m2 a ⟨mTp_fr a h0, b, c, d, e, f, g⟩
    generalize tF T n p = f at *
    refine rX12_next_46 hE ?_
    rw [e14, e13]
    have out : ∀ m2 : Mm, ¬ m2 603 16 = 1 → ¬ m2 603 16 = 2 → Q m2 → VM E mX12_next (k + 1) m2 149 [(0, aR 603)] [] (retV Q) := fun m2 a b h => rX12_next_149 hE ⟨fun _ => rX12_next_243 hE ⟨fun _ => rX12_next_335 hE h, fun z => absurd z b⟩, fun z => absurd z a⟩
    have f15 : (aUp (aUp m1 603 15 f) 603 17 0) 603 15 = f := (aUp_nn (by omega)).trans aUp_re
    have f17 : (aUp (aUp m1 603 15 f) 603 17 0) 603 17 = 0 := aUp_re
    have f14 : (aUp (aUp m1 603 15 f) 603 17 0) 603 14 = f := (aUp_nn (by omega)).trans ((aUp_nn (by omega)).trans e14)
    have hm2 : mF4 mem (aUp (aUp m1 603 15 f) 603 17 0) := mF4_up (mF4_up hm (by omega)) (by omega)
    generalize (aUp (aUp m1 603 15 f) 603 17 0) = m2 at *
    refine ⟨fun c => ?_, fun c => ?_⟩
    · have b : f < n := by omega
      have ec : m1 612 f = T f := (hm _ _ (by omega)).trans (h0.2 f (by omega) b)
      have ec2 : m2 612 f = T f := (hm2 _ _ (by omega)).trans (h0.2 f (by omega) b)
      refine ⟨⟨by omega, by omega⟩, ?_⟩
      rw [ec]
      refine fun hr => m_isSmall hE hr (fun q => ⟨fun z => absurd z (by decide), fun _ => ?_⟩) (fun q => ⟨fun _ => ?_, fun z => absurd rfl z⟩)
      · have a : tS T n p = 1 := by
          rcases dec with ⟨u, v⟩ | ⟨u, v, w⟩ | ⟨u, v, w, x⟩ | ⟨u, v, w, x⟩
          · omega
          · exact u
          · exact absurd q w
          · exact absurd q w
        refine m_nxL hE hT0 (by omega) h0 (fun m3 a1 a2 a3 a4 a5 => fin m3 a1 a2 a3 (by rw [a4, a]) (fun _ => by rw [a5, gW a]) (fun z => absurd z (by omega)) (fun z => absurd z (by omega))) _ _ f (mF4_up hm2 (by omega)) ((aUp_nn (by omega)).trans f14) ((aUp_nn (by omega)).trans f15) aUp_re ?_ (fun j u v => absurd u (by omega)) (by omega) (by omega) rfl (g1 a).symm
        rw [aUp_nn (by omega), f17, if_pos (by omega), show (f - f).toNat = 0 by omega]
        rfl
      · rw [f14, ec2]
        refine ⟨⟨by omega, by omega⟩, fun hr2 => m_isDigit hE hr2 (fun q2 => ⟨fun z => absurd z (by decide), fun _ => ?_⟩) (fun q2 => ⟨fun _ => ?_, fun z => absurd rfl z⟩)⟩
        · have a : tS T n p = 2 := by
            rcases dec with ⟨u, v⟩ | ⟨u, v, w⟩ | ⟨u, v, w, x⟩ | ⟨u, v, w, x⟩
            · omega
            · exact absurd w q
            · exact u
            · exact absurd q2 x
          refine rX12_next_149 hE ⟨fun _ => ?_, fun z => absurd (aUp_re.symm.trans z) (by decide)⟩
          refine m_nxD hE hT0 (by omega) h0 (fun m3 a1 a2 a3 a4 a5 => fin m3 a1 a2 a3 (by rw [a4, a]) (fun z => absurd z (by omega)) (fun z => absurd z (by omega)) (fun _ => by rw [gN a]; exact a5)) _ _ f (mF4_up hm2 (by omega)) ((aUp_nn (by omega)).trans f14) ((aUp_nn (by omega)).trans f15) aUp_re ?_ (by omega) (by omega) rfl (g2 a).symm
          rw [aUp_nn (by omega), f17, show (f - f).toNat = 0 by omega]
          exact ⟨by omega, by omega, by show min 1001 (0 : Int) = 0; omega⟩
        · have a : tS T n p = 3 := by
            rcases dec with ⟨u, v⟩ | ⟨u, v, w⟩ | ⟨u, v, w, x⟩ | ⟨u, v, w, x⟩
            · omega
            · exact absurd w q
            · exact absurd x q2
            · exact u
          rw [f14, f15, ec2]
          refine ⟨⟨by omega, by omega⟩, ⟨by omega, by omega⟩, ?_⟩
          have k16 : (aUp (aUp (aUp m2 603 16 3) 603 17 (T f)) 603 15 (f + 1)) 603 16 = 3 := (aUp_nn (by omega)).trans ((aUp_nn (by omega)).trans aUp_re)
          refine out _ (by rw [k16]; decide) (by rw [k16]; decide) (fin _ (mF4_up (mF4_up (mF4_up hm2 (by omega)) (by omega)) (by omega)) ((aUp_nn (by omega)).trans ((aUp_nn (by omega)).trans ((aUp_nn (by omega)).trans f14))) (aUp_re.trans (g3 a).symm) (k16.trans a.symm) (fun z => absurd z (by omega)) (fun _ => ((aUp_nn (by omega)).trans aUp_re).trans (gG a).symm) (fun z => absurd z (by omega)))
    · have a : tS T n p = 0 := by
        rcases dec with ⟨u, v⟩ | ⟨u, v, w⟩ | ⟨u, v, w, x⟩ | ⟨u, v, w, x⟩
        · exact u
        · omega
        · omega
        · omega
      have k16 : (aUp m2 603 16 0) 603 16 = 0 := aUp_re
      exact out _ (by rw [k16]; decide) (by rw [k16]; decide) (fin _ (mF4_up hm2 (by omega)) ((aUp_nn (by omega)).trans f14) (((aUp_nn (by omega)).trans f15).trans (g0 a).symm) (k16.trans a.symm) (fun z => absurd z (by omega)) (fun z => absurd z (by omega)) (fun z => absurd z (by omega)))
  have blk : ∀ (d : Nat) (m1 : Mm) (x : Int), mF4 mem m1 → m1 603 14 = x → (n - x).toNat = d → 0 ≤ x → x ≤ n → tF T n x = tF T n p → VM E mX12_next (k + 1) m1 8 [(0, aR 603)] [] (retV Q) := by
    intro d
    induction d with
    | zero =>
      intro m1 x hm e14 h1 h2 h3 h4
      have e13 : m1 603 13 = n := (hm _ _ (by omega)).trans h0.1.1
      refine rX12_next_8 hE ?_
      rw [e14, e13]
      exact ⟨fun _ => go46 m1 hm (by rw [e14, ← h4, tF_no (by omega)]), fun c => absurd c (by omega)⟩
    | succ d ih =>
      intro m1 x hm e14 h1 h2 h3 h4
      have e13 : m1 603 13 = n := (hm _ _ (by omega)).trans h0.1.1
      have ec : m1 612 x = T x := (hm _ _ (by omega)).trans (h0.2 x (by omega) (by omega))
      refine rX12_next_8 hE ?_
      rw [e14, e13]
      refine ⟨fun c => absurd c (by omega), fun _ => ⟨⟨by omega, by omega⟩, ?_⟩⟩
      rw [ec]
      refine ⟨fun c => go46 m1 hm (by rw [e14, ← h4, tF_no (by intro z; exact c z.2)]), fun c => ⟨⟨by omega, by omega⟩, ih _ (x + 1) (mF4_up hm (by omega)) aUp_re (by omega) (by omega) (by omega) ((tF_go (by omega) c).symm.trans h4)⟩⟩
  refine eX12_next (rX12_next_0 hE ?_)
  rw [h15]
  exact blk _ _ p (mF4_up mF4_rf (by omega)) aUp_re rfl hp hpn rfl
theorem m_isSign {E : EN} (hE : Ep E) {k : Nat} {mem : Mm} {Q : Int → Mm → Prop} {T : Rw} {n p c : Int} (h0 : mTk mem T n p) (hc : 0 ≤ c) (hc2 : c < 1000) (hQ1 : tG T n p = c → Q 1 mem) (hQ0 : ¬ tG T n p = c → Q 0 mem) : CI E mX12_isSign k mem [aR 603, aI c] Q := by
  obtain ⟨-, -, -, e16, -, e17, -⟩ := h0
  refine eX12_isSign ⟨by omega, by omega⟩ (rX12_isSign_0 hE ?_)
  rw [e16]
  by_cases a : tS T n p = 3
  · rw [e17 a]
    exact ⟨fun z => absurd a z, fun _ => ⟨fun z => hQ0 z, fun z => hQ1 z⟩⟩
  · exact ⟨fun _ => hQ0 (by unfold tG; rw [if_neg a]; omega), fun z => absurd z a⟩
theorem m_isWord {E : EN} (hE : Ep E) {k : Nat} {mem : Mm} {Q : Int → Mm → Prop} {T : Rw} {n p c : Int} (h0 : mTk mem T n p) (hc : 0 < c) (hc2 : c < 1000000000) (hQ1 : tW T n p = c → Q 1 mem) (hQ0 : ¬ tW T n p = c → Q 0 mem) : CI E mX12_isWord k mem [aR 603, aL c] Q := by
  obtain ⟨-, -, -, e16, e17, -, -⟩ := h0
  refine eX12_isWord ⟨by omega, by omega⟩ (rX12_isWord_0 hE ?_)
  rw [e16]
  by_cases a : tS T n p = 1
  · rw [e17 a]
    exact ⟨fun z => absurd a z, fun _ => ⟨fun z => hQ0 z, fun z => hQ1 z⟩⟩
  · exact ⟨fun _ => hQ0 (by unfold tW; rw [if_neg a]; omega), fun z => absurd z a⟩
theorem m_mustT {E : EN} (hE : Ep E) {k : Nat} {mem : Mm} {Q : Mm → Prop} {T : Rw} {n p x : Int} (hT : tOk T n) (h0 : mTk mem T n p) (hb : mem 603 19 = 0) (hp : 0 ≤ p) (hpn : p ≤ n) (hx : R32 x) (hx0 : ¬ x = 0) (hQ : ∀ m2, mF4 mem m2 → mTk m2 T n (tT T n p) → Q m2) : CV E mX12_must (k + 2) mem [aR 603, aI x] Q := by
  have a := tF_b (T := T) hpn
  have b := tT_b (T := T) hpn
  refine eX12_must (k := k + 1) hx (rX12_must_0 (k := k + 1) hE ⟨fun c => absurd hb c, fun _ => ⟨fun _ => ⟨fun c => absurd hb c, fun _ => ?_⟩, fun c => absurd c hx0⟩⟩)
  exact m_next hE hT h0.1 h0.2.2.1 (by omega) b.2.1 hQ
theorem m_mustF {E : EN} (hE : Ep E) {k : Nat} {mem : Mm} {Q : Mm → Prop} (hb : mem 603 19 = 0) (hQ : Q (aUp (aUp mem 603 19 1) 603 18 (mem 603 14))) : CV E mX12_must (k + 2) mem [aR 603, aI 0] Q :=
  eX12_must (k := k + 1) (by decide) (rX12_must_0 (k := k + 1) hE ⟨fun c => absurd hb c, fun _ => ⟨fun c => absurd rfl c, fun _ => hQ⟩⟩)
theorem m_number {E : EN} (hE : Ep E) {k : Nat} {mem : Mm} {Q : Int → Mm → Prop} {T : Rw} {n p lo hi : Int} (hT : tOk T n) (h0 : mTk mem T n p) (hb : mem 603 19 = 0) (hp : 0 ≤ p) (hpn : p ≤ n) (h1 : 0 ≤ lo) (h2 : hi ≤ 1000) (h3 : lo ≤ hi)
    (hQ1 : tS T n p = 2 → lo ≤ tN T n p → tN T n p ≤ hi → ∀ m2, mF4 mem m2 → mTk m2 T n (tT T n p) → Q (tN T n p) m2) (hQ0 : ¬ (tS T n p = 2 ∧ lo ≤ tN T n p ∧ tN T n p ≤ hi) → ∀ x, R32 x → Q x (aUp (aUp mem 603 19 1) 603 18 (mem 603 14))) : CI E mX12_number (k + 3) mem [aR 603, aL lo, aL hi] Q := by
  obtain ⟨-, -, -, e16, -, -, e17⟩ := id h0
  have rl : R64 lo := ⟨by omega, by omega⟩
  have rh : R64 hi := ⟨by omega, by omega⟩
  refine eX12_number (k := k + 2) rl rh (rjX12_number_0 (k := k + 2) hE ?_)
  rw [e16]
  refine ⟨fun a => m_mustF hE hb (hQ0 (fun z => a z.1) _ (w32_rng _)), fun a _ _ _ => ?_⟩
  obtain ⟨g1, g2, g3⟩ := e17 a
  have rw17 : R64 (mem 603 17) := ⟨by omega, by omega⟩
  refine s_in hE rw17 rl rh (fun i1 i2 => ⟨fun z => absurd z (by decide), fun _ => m_mustT hE hT h0 hb hp hpn (by decide) (by decide) fun m2 x y => ?_⟩) (fun i => ⟨fun _ => m_mustF hE hb (hQ0 (fun z => by omega) _ (w32_rng _)), fun z => absurd rfl z⟩)
  rw [w32_id (by omega) (by omega)]
  have e : mem 603 17 = tN T n p := by omega
  rw [e]
  exact hQ1 a (by omega) (by omega) m2 x y
