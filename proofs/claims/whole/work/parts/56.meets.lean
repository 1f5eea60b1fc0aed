-- beside; meetings
def rBs (r : Rw) (a b : Int) : Bool := (r (8 + a) - r (8 + b)) % 32 == 1 || (r (8 + a) - r (8 + b)) % 32 == 31
theorem s_bs {E : EN} (hE : Ep E) {k : Nat} {mem : Mm} {Q : Int → Mm → Prop} {y a b Y : Int} {r : Rw} (hy : isYd y) (hR : yR mem y r) (hok : rOk Y r) (ha : 0 ≤ a) (ha2 : a < 10) (hb : 0 ≤ b) (hb2 : b < 10) (hQ : Q (if rBs r a b then 1 else 0) mem) : CI E mX10_areBeside (k + 1) mem [aR y, aI a, aI b] Q := by
  have ea := (hR.2.2.1 a ha ha2).1
  have eb := (hR.2.2.1 b hb hb2).1
  have oa := hok.2.2.1 a ha ha2
  have ob := hok.2.2.1 b hb hb2
  unfold rBs at hQ
  refine eX10_areBeside ⟨by omega, by omega⟩ ⟨by omega, by omega⟩ (rX10_areBeside_0 hE hy ⟨⟨ha, ha2⟩, ⟨hb, hb2⟩, ?_⟩)
  rw [ea, eb]
  refine ⟨⟨by omega, by omega⟩, fun r5 => s_floorMod r5 (by decide) ⟨fun c => ?_, fun c => ⟨fun d => ?_, fun d => ?_⟩⟩⟩
  · rw [c] at hQ; exact hQ
  · rw [show ((r (8 + a) - r (8 + b)) % 32 == 1) = false by simp [c], show ((r (8 + a) - r (8 + b)) % 32 == 31) = false by simp [d]] at hQ; exact hQ
  · rw [d] at hQ; exact hQ
theorem m_bs {E : EN} (hE : Ep E) {k : Nat} {mem : Mm} {Q : Int → Mm → Prop} {a b Y : Int} (hok : rOk Y (mem 605)) (ha : 0 ≤ a) (ha2 : a < 10) (hb : 0 ≤ b) (hb2 : b < 10) (hQ : Q (if rBs (mem 605) a b then 1 else 0) mem) : CI E mX12_areBeside k mem [aR 603, aI a, aI b] Q := by
  have oa := hok.2.2.1 a ha ha2
  have ob := hok.2.2.1 b hb hb2
  have e : Int.tmod (mem 605 (8 + a) - mem 605 (8 + b) + 32) 32 = (mem 605 (8 + a) - mem 605 (8 + b)) % 32 := by
    rw [Int.tmod_eq_emod_of_nonneg (by omega)]
    omega
  unfold rBs at hQ
  refine eX12_areBeside ⟨by omega, by omega⟩ ⟨by omega, by omega⟩ (rX12_areBeside_0 hE ⟨⟨by omega, by omega⟩, ⟨by omega, by omega⟩, ⟨by omega, by omega⟩, ⟨by omega, by omega⟩, ⟨by omega, by omega⟩, ⟨by omega, by omega⟩, ?_⟩)
  rw [e]
  refine ⟨fun c => ?_, fun c => ⟨fun d => ?_, fun d => ?_⟩⟩
  · rw [c] at hQ; exact hQ
  · rw [show ((mem 605 (8 + a) - mem 605 (8 + b)) % 32 == 1) = false by simp [c], show ((mem 605 (8 + a) - mem 605 (8 + b)) % 32 == 31) = false by simp [d]] at hQ; exact hQ
  · rw [d] at hQ; exact hQ
/-- how many meetings, the i-th: over b, over a, over the years -/
abbrev I2 : Type := Int × Int
def mtI (r0 r1 : Rw) (y i a : Int) : Nat → Int → I2 → I2
  | 0, _, s => s
  | n + 1, b, s => mtI r0 r1 y i a n (b + 1) (if rBs r1 a b && !rBs r0 a b then (s.1 + 1, if s.1 = i then 100 * y + 10 * a + b else s.2) else s)
def mtO (r0 r1 : Rw) (y i : Int) : Nat → Int → I2 → I2
  | 0, _, s => s
  | n + 1, a, s => mtO r0 r1 y i n (a + 1) (mtI r0 r1 y i a n (a + 1) s)
def mtY (L : LW) (i : Int) : Nat → Int → Rw → I2 → I2
  | 0, _, _, s => s
  | n + 1, y, r, s => mtY L i n (y + 1) (rTn L r).1 (mtO r (rTn L r).1 y i (r 7).toNat 0 s)
theorem mtI_k {r0 r1 : Rw} {y i a : Int} : ∀ (n : Nat) (b : Int) (s : I2), s.1 ≤ (mtI r0 r1 y i a n b s).1 ∧ (mtI r0 r1 y i a n b s).1 ≤ s.1 + n ∧ (i < s.1 → (mtI r0 r1 y i a n b s).2 = s.2) := by
  intro n
  induction n with
  | zero => intro b s; unfold mtI; exact ⟨by omega, by omega, fun _ => rfl⟩
  | succ n ih =>
    intro b s
    unfold mtI
    split
    · have := ih (b + 1) (s.1 + 1, if s.1 = i then 100 * y + 10 * a + b else s.2)
      dsimp only at this
      refine ⟨by omega, by omega, fun q => ?_⟩
      rw [this.2.2 (by omega), if_neg (by omega)]
    · have := ih (b + 1) s
      exact ⟨by omega, by omega, this.2.2⟩
theorem mtO_k {r0 r1 : Rw} {y i : Int} : ∀ (n : Nat) (a : Int) (s : I2), s.1 ≤ (mtO r0 r1 y i n a s).1 ∧ (mtO r0 r1 y i n a s).1 ≤ s.1 + n * n ∧ (i < s.1 → (mtO r0 r1 y i n a s).2 = s.2) := by
  intro n
  induction n with
  | zero => intro a s; unfold mtO; exact ⟨by omega, by omega, fun _ => rfl⟩
  | succ n ih =>
    intro a s
    unfold mtO
    have h1 := mtI_k (r0 := r0) (r1 := r1) (y := y) (i := i) (a := a) n (a + 1) s
    have h2 := ih (a + 1) (mtI r0 r1 y i a n (a + 1) s)
    have e : (((n + 1 : Nat) : Int)) * ((n + 1 : Nat) : Int) = (n : Int) * n + 2 * n + 1 := by
      rw [Int.natCast_add, Int.add_mul, Int.mul_add]
      omega
    refine ⟨by omega, by rw [e]; omega, fun q => ?_⟩
    rw [h2.2.2 (by omega), h1.2.2 q]
theorem mtY_k {L : LW} {i : Int} : ∀ (n : Nat) (y : Int) (r : Rw) (s : I2), i < s.1 → (mtY L i n y r s).2 = s.2 := by
  intro n
  induction n with
  | zero => intro y r s _; rfl
  | succ n ih =>
    intro y r s h
    unfold mtY
    have := mtO_k (r0 := r) (r1 := (rTn L r).1) (y := y) (i := i) (r 7).toNat 0 s
    rw [ih _ _ _ (by omega), this.2.2 h]
def mSl (i : Int) (s : I2) : Int := if i = -1 then s.1 else s.2
/-- what holds of the class's count as long as the i-th is not met -/
def mIv (i : Int) (s : I2) : Prop := 0 ≤ s.1 ∧ s.1 ≤ 90000 ∧ (i = -1 ∨ s.1 ≤ i) ∧ s.2 = -1
theorem rOk_Y {Y Z : Int} {r : Rw} (h : rOk Y r) (hz : Y ≤ Z) : rOk Z r := ⟨h.1, h.2.1, h.2.2.1, h.2.2.2.1, h.2.2.2.2.1, by have := h.2.2.2.2.2.1; omega, h.2.2.2.2.2.2⟩
theorem s_mtI {E : EN} (hE : Ep E) {mem : Mm} {Q : Int → Mm → Prop} {r0 r1 : Rw} {y i a N F Y : Int} {G : I2 → I2} (hR1 : yR mem 553 r1) (hR0 : yR mem 563 r0) (ok1 : rOk Y r1) (ok0 : rOk Y r0) (hi : -1 ≤ i) (hir : R32 i) (hy : 0 ≤ y) (hy2 : y ≤ 100) (ha : 0 ≤ a) (hG : ∀ s, i < s.1 → (G s).2 = s.2) (hF : Q F mem) : ∀ (n : Nat) (b : Int) (s : I2), a < b → b + n = r1 7 → F = mSl i (G (mtI r0 r1 y i a n b s)) → mIv i s → s.1 + n ≤ 90000 → (mIv i (mtI r0 r1 y i a n b s) → VM E mX5_meeting 1198 mem 38 [(0, aR 552), (2, aI N), (3, aI i), (4, aI (mtI r0 r1 y i a n b s).1), (5, aI y), (6, aI (a + 1))] [] (retI Q)) → VM E mX5_meeting 1198 mem 56 [(0, aR 552), (2, aI N), (3, aI i), (4, aI s.1), (5, aI y), (6, aI a), (7, aI b)] [] (retI Q) := by
  have h10 := hR1.1
  have h7 := ok1.2.1
  intro n
  induction n with
  | zero =>
    intro b s hab hb hf hv hm hk
    exact rX5_meeting_56 (k := 1197) (p0 := 2) hE isYd2 ⟨fun _ => ⟨⟨by omega, by omega⟩, hk hv⟩, fun d => absurd d (by omega)⟩
  | succ n ih =>
    intro b s hab hb hf hv hm hk
    unfold mtI at hf hk
    obtain ⟨v1, v2, v3, v4⟩ := hv
    refine rX5_meeting_56 (k := 1197) (p0 := 2) hE isYd2 ⟨fun d => absurd d (by omega), fun _ _ _ => s_bs (k := 1196) hE isYd553 hR1 ok1 ha (by omega) (by omega) (by omega) ⟨fun c => ?_, fun c _ _ => s_bs (k := 1196) hE (by unfold isYd; omega) hR0 ok0 ha (by omega) (by omega) (by omega) ⟨fun d => ?_, fun d => ?_⟩⟩⟩
    · have e : rBs r1 a b = false := by
        cases z : rBs r1 a b with
        | false => rfl
        | true => rw [z] at c; exact absurd c (by decide)
      rw [e] at hf hk
      exact ⟨⟨by omega, by omega⟩, ih (b + 1) s (by omega) (by omega) hf ⟨v1, v2, v3, v4⟩ (by omega) hk⟩
    · have e : rBs r0 a b = true := by
        cases z : rBs r0 a b with
        | true => rfl
        | false => rw [z] at d; exact absurd rfl d
      rw [e, show (rBs r1 a b && !true) = false by simp] at hf hk
      exact ⟨⟨by omega, by omega⟩, ih (b + 1) s (by omega) (by omega) hf ⟨v1, v2, v3, v4⟩ (by omega) hk⟩
    · have e1 : rBs r1 a b = true := by
        cases z : rBs r1 a b with
        | true => rfl
        | false => rw [z] at c; exact absurd rfl c
      have e0 : rBs r0 a b = false := by
        cases z : rBs r0 a b with
        | false => rfl
        | true => rw [z] at d; exact absurd d (by decide)
      rw [e1, e0, show (true && !false) = true from rfl, if_pos rfl] at hf hk
      refine ⟨fun q => ⟨⟨by omega, by omega⟩, ⟨by omega, by omega⟩, ?_⟩, fun q => ⟨⟨by omega, by omega⟩, ⟨by omega, by omega⟩, ⟨by omega, by omega⟩, ⟨by omega, by omega⟩, ?_⟩⟩
      · rw [if_neg q] at hf hk
        exact ih (b + 1) (s.1 + 1, s.2) (by omega) (by omega) hf ⟨by dsimp only; omega, by dsimp only; omega, by dsimp only; omega, v4⟩ (by dsimp only; omega) hk
      · rw [if_pos q] at hf
        have e : F = 100 * y + 10 * a + b := by
          have k1 := mtI_k (r0 := r0) (r1 := r1) (y := y) (i := i) (a := a) n (b + 1) (s.1 + 1, 100 * y + 10 * a + b)
          dsimp only at k1
          rw [hf]
          unfold mSl
          rw [if_neg (by omega), hG _ (by omega), k1.2.2 (by omega)]
        rw [← e]
        exact hF
theorem s_mtO {E : EN} (hE : Ep E) {mem : Mm} {Q : Int → Mm → Prop} {r0 r1 : Rw} {y i N F Y : Int} {G : I2 → I2} (hR1 : yR mem 553 r1) (hR0 : yR mem 563 r0) (ok1 : rOk Y r1) (ok0 : rOk Y r0) (hi : -1 ≤ i) (hir : R32 i) (hy : 0 ≤ y) (hy2 : y ≤ 100) (hG : ∀ s, i < s.1 → (G s).2 = s.2) (hF : Q F mem) : ∀ (n : Nat) (a : Int) (s : I2), 0 ≤ a → a + n = r1 7 → F = mSl i (G (mtO r0 r1 y i n a s)) → mIv i s → s.1 + n * n ≤ 90000 → (mIv i (mtO r0 r1 y i n a s) → VM E mX5_meeting 1198 mem 11 [(0, aR 552), (2, aI N), (3, aI i), (4, aI (mtO r0 r1 y i n a s).1), (5, aI (y + 1))] [] (retI Q)) → VM E mX5_meeting 1198 mem 38 [(0, aR 552), (2, aI N), (3, aI i), (4, aI s.1), (5, aI y), (6, aI a)] [] (retI Q) := by
  have h10 := hR1.1
  have h7 := ok1.2.1
  intro n
  induction n with
  | zero =>
    intro a s ha hb hf hv hm hk
    exact rX5_meeting_38 (k := 1197) (p0 := 2) hE isYd2 ⟨fun _ => ⟨⟨by omega, by omega⟩, hk hv⟩, fun d => absurd d (by omega)⟩
  | succ n ih =>
    intro a s ha hb hf hv hm hk
    unfold mtO at hf hk
    have e : (((n + 1 : Nat) : Int)) * ((n + 1 : Nat) : Int) = (n : Int) * n + 2 * n + 1 := by
      rw [Int.natCast_add, Int.add_mul, Int.mul_add]
      omega
    rw [e] at hm
    have hnn : 0 ≤ (n : Int) * n := Int.mul_nonneg (by omega) (by omega)
    have k2 := mtI_k (r0 := r0) (r1 := r1) (y := y) (i := i) (a := a) n (a + 1) s
    refine rX5_meeting_38 (k := 1197) (p0 := 2) hE isYd2 ⟨fun d => absurd d (by omega), fun _ => ⟨⟨by omega, by omega⟩, ?_⟩⟩
    refine s_mtI hE (G := fun s2 => G (mtO r0 r1 y i n (a + 1) s2)) hR1 hR0 ok1 ok0 hi hir hy hy2 ha (fun s2 q => ?_) hF n (a + 1) s (by omega) (by omega) hf hv (by omega) fun q2 => ?_
    · have := mtO_k (r0 := r0) (r1 := r1) (y := y) (i := i) n (a + 1) s2
      rw [hG _ (by omega), this.2.2 q]
    · exact ih (a + 1) _ (by omega) (by omega) hf q2 (by omega) hk
theorem rTn_7 {Y : Int} {L : LW} {r : Rw} (hok : rOk Y r) : (rTn L r).1 7 = r 7 := (rTn_ok hok).2 7 (by decide) (by decide)
theorem yL_oth {m m2 : Mm} {y z : Int} {L : LW} (hy : isYd y) (hz : isYd z) (hyz : y ≠ z) (h : ∀ o i, (o < z ∨ z + 9 < o) → m2 o i = m o i) (hL : yL m y L) : yL m2 y L := by
  have hd := yd_yd hy hz hyz
  unfold yL
  rw [h y 9 (by omega)]
  rcases hL with q | ⟨q, D, q2, q3⟩
  · exact Or.inl q
  · exact Or.inr ⟨q, D, TxS_fr (fun o i u v => h o i (by have := yd_tx hz q; omega)) q2, q3⟩
theorem s_mtY {E : EN} (hE : Ep E) {m0 : Mm} {Q : Int → Mm → Prop} {L : LW} {i N F : Int} (hi : -1 ≤ i) (hir : R32 i) (hN : N ≤ 60) (hF : ∀ m1, rEq m0 m1 → Q F m1) : ∀ (n : Nat) (mem : Mm) (y Y : Int) (r : Rw) (s : I2), pYd m0 mem L r → rOk Y r → Y + n ≤ 5000 → 1 ≤ y → y + n = N + 1 → F = mSl i (mtY L i n y r s) → mIv i s → s.1 + 100 * n ≤ 90000 → VM E mX5_meeting 1198 mem 11 [(0, aR 552), (2, aI N), (3, aI i), (4, aI s.1), (5, aI y)] [] (retI Q) := by
  intro n
  induction n with
  | zero =>
    intro mem y Y r s hP hok hY h0 h1 hf hv hm
    have hF := hF mem hP.1
    refine rX5_meeting_11 (k := 1197) (p0 := 2) hE isYd2 ⟨fun _ => ⟨fun c => ?_, fun c => ?_⟩, fun d => absurd d (by omega)⟩
    · rw [hf] at hF
      unfold mSl mtY at hF
      rw [if_neg c, hv.2.2.2] at hF
      exact hF
    · rw [hf] at hF
      unfold mSl mtY at hF
      rw [if_pos c] at hF
      exact hF
  | succ n ih =>
    intro mem y Y r s hP hok hY h0 h1 hf hv hm
    have y563 : isYd 563 := by unfold isYd; omega
    have h7 := hok.2.1
    have h70 := hok.1
    unfold mtY at hf
    have ok2 := (rTn_ok (L := L) hok).1
    have e7 := rTn_7 (L := L) hok
    refine rX5_meeting_11 (k := 1197) (p0 := 2) hE isYd2 ⟨fun d => absurd d (by omega), fun _ => s_ycopy hE y563 isYd553 (by decide) hP.2.1 fun m2 a b c => ?_⟩
    have hP2 : pYd m0 m2 L r := ⟨rEq_tr hP.1 fun o i u => a o i (Classical.byContradiction fun z => u (by unfold scr; omega)), yR_fr hP.2.1 (a 553 10 (by omega)) (fun o i u v => a o i (by omega)), yL_oth isYd553 y563 (by decide) a hP.2.2⟩
    · refine pYd_turn (k := 1193) hE hP2 (by omega) hok fun m3 d _ f => ?_
      have hR0 : yR m3 563 r := yR_y y563 (by omega) c f
      have hnn : (((r 7).toNat : Nat) : Int) * (((r 7).toNat : Nat) : Int) ≤ 100 := by
        have hz : (((r 7).toNat : Nat) : Int) ≤ 10 := by omega
        have hz0 : 0 ≤ (((r 7).toNat : Nat) : Int) := by omega
        have := Int.mul_le_mul hz hz hz0 (by decide)
        omega
      have mk := mtO_k (r0 := r) (r1 := (rTn L r).1) (y := y) (i := i) (r 7).toNat 0 s
      refine s_mtO hE (r0 := r) (r1 := (rTn L r).1) (Y := Y + 1) (F := F) (G := fun s2 => mtY L i n (y + 1) (rTn L r).1 s2) d.2.1 hR0 ok2 (rOk_Y hok (by omega)) hi hir (by omega) (by omega) (fun s2 q => mtY_k n (y + 1) _ s2 q) (hF m3 d.1) (r 7).toNat 0 s (by decide) (by omega) hf hv (by omega) fun q2 => ?_
      exact ih m3 (y + 1) (Y + 1) _ _ d ok2 (by omega) (by omega) (by omega) hf q2 (by omega)
/-- the model's note of who lay beside whom -/
def wrR (m : Mm) (r : Rw) : Prop := ∀ a b, 0 ≤ a → a < b → b < r 7 → m 631 (10 * a + b) = if rBs r a b then 1 else 0
theorem m_noteI {E : EN} (hE : Ep E) {k : Nat} {m0 : Mm} {Q : Mm → Prop} {a Y : Int} (hok : rOk Y (m0 605)) (ha : 0 ≤ a) : ∀ (n : Nat) (mem : Mm) (b : Int), a < b → b + n = m0 605 7 → (∀ o i, o ≠ 631 → mem o i = m0 o i) → (∀ c d, 0 ≤ c → c < d → d < m0 605 7 → (c < a ∨ (c = a ∧ d < b)) → mem 631 (10 * c + d) = if rBs (m0 605) c d then 1 else 0) → (∀ m2, (∀ o i, o ≠ 631 → m2 o i = m0 o i) → (∀ c d, 0 ≤ c → c < d → d < m0 605 7 → c < a + 1 → m2 631 (10 * c + d) = if rBs (m0 605) c d then 1 else 0) → VM E mX12_noteBeside (k + 1) m2 2 [(0, aR 603), (1, aI (a + 1))] [] (retV Q)) → VM E mX12_noteBeside (k + 1) mem 17 [(0, aR 603), (1, aI a), (2, aI b)] [] (retV Q) := by
  have h7 := hok.2.1
  intro n
  induction n with
  | zero =>
    intro mem b hab hb h1 h2 hQ
    have e5 : mem 605 7 = m0 605 7 := h1 _ _ (by decide)
    exact rX12_noteBeside_17 hE ⟨fun _ => ⟨⟨by omega, by omega⟩, hQ mem h1 fun c d u v w z => h2 c d u v w (by omega)⟩, fun c => absurd c (by omega)⟩
  | succ n ih =>
    intro mem b hab hb h1 h2 hQ
    have e5 : mem 605 = m0 605 := funext fun i => h1 _ _ (by decide)
    refine rX12_noteBeside_17 hE ⟨fun c => absurd c (by rw [e5]; omega), fun _ => ⟨⟨by omega, by omega⟩, ⟨by omega, by omega⟩, fun _ _ => m_bs hE (by rw [e5]; exact hok) ha (by omega) (by omega) (by omega) ?_⟩⟩
    rw [e5]
    refine ⟨⟨by omega, by omega⟩, by split; exact Or.inr rfl; exact Or.inl rfl, ⟨by omega, by omega⟩, ih _ (b + 1) (by omega) (by omega) (fun o i q => (aUp_rn q).trans (h1 o i q)) (fun c d u v w z => ?_) hQ⟩
    by_cases e : c = a ∧ d = b
    · rw [e.1, e.2, aUp_re]
    · rw [aUp_ri (by omega)]
      exact h2 c d u v w (by omega)
theorem m_note {E : EN} (hE : Ep E) {k : Nat} {mem : Mm} {Q : Mm → Prop} {Y : Int} (hok : rOk Y (mem 605)) (hQ : ∀ m2, (∀ o i, o ≠ 631 → m2 o i = mem o i) → wrR m2 (mem 605) → Q m2) : CV E mX12_noteBeside (k + 1) mem [aR 603] Q := by
  have h7 := hok.2.1
  have h70 := hok.1
  have lp : ∀ (n : Nat) (m2 : Mm) (a : Int), 0 ≤ a → a + n = mem 605 7 → (∀ o i, o ≠ 631 → m2 o i = mem o i) → (∀ c d, 0 ≤ c → c < d → d < mem 605 7 → c < a → m2 631 (10 * c + d) = if rBs (mem 605) c d then 1 else 0) → VM E mX12_noteBeside (k + 1) m2 2 [(0, aR 603), (1, aI a)] [] (retV Q) := by
    intro n
    induction n with
    | zero =>
      intro m2 a ha hb h1 h2
      have e5 : m2 605 7 = mem 605 7 := h1 _ _ (by decide)
      exact rX12_noteBeside_2 hE ⟨fun _ => hQ m2 h1 fun c d u v w => h2 c d u v w (by omega), fun c => absurd c (by omega)⟩
    | succ n ih =>
      intro m2 a ha hb h1 h2
      have e5 : m2 605 7 = mem 605 7 := h1 _ _ (by decide)
      exact rX12_noteBeside_2 hE ⟨fun c => absurd c (by omega), fun _ => ⟨⟨by omega, by omega⟩, m_noteI hE hok ha n m2 (a + 1) (by omega) (by omega) h1 (fun c d u v w z => h2 c d u v w (by omega)) fun m3 y1 y2 => ih m3 (a + 1) (by omega) (by omega) y1 y2⟩⟩
  exact eX12_noteBeside (rX12_noteBeside_0 hE (lp (mem 605 7).toNat mem 0 (by omega) (by omega) (fun _ _ _ => rfl) fun c d u v w z => absurd z (by omega)))
theorem m_mtI {E : EN} (hE : Ep E) {mem : Mm} {Q : Int → Mm → Prop} {r0 r1 : Rw} {y i a N Y : Int} (h5 : mem 605 = r1) (ok1 : rOk Y r1) (hw : wrR mem r0) (e07 : r0 7 = r1 7) (hir : R32 i) (hy : 0 ≤ y) (hy2 : y ≤ 100) (ha : 0 ≤ a) : ∀ (n : Nat) (b : Int) (s : I2), a < b → b + n = r1 7 → 0 ≤ s.1 → s.1 + n ≤ 90000 → VM E mX12_meets 1199 mem 56 [(0, aR 603), (1, aI N), (2, aI i), (3, aI (mtI r0 r1 y i a n b s).1), (4, aI (mtI r0 r1 y i a n b s).2), (5, aI y), (6, aI (a + 1))] [] (retI Q) → VM E mX12_meets 1199 mem 74 [(0, aR 603), (1, aI N), (2, aI i), (3, aI s.1), (4, aI s.2), (5, aI y), (6, aI a), (7, aI b)] [] (retI Q) := by
  subst h5
  have h7 := ok1.2.1
  intro n
  induction n with
  | zero =>
    intro b s hab hb v1 hm hk
    exact rX12_meets_74 (k := 1198) hE ⟨fun _ => ⟨⟨by omega, by omega⟩, hk⟩, fun d => absurd d (by omega)⟩
  | succ n ih =>
    intro b s hab hb v1 hm hk
    unfold mtI at hk
    have hwab := hw a b ha hab (by omega)
    refine rX12_meets_74 (k := 1198) hE ⟨fun d => absurd d (by omega), fun _ _ _ => m_bs hE ok1 ha (by omega) (by omega) (by omega) ⟨fun c => ?_, fun c => ⟨⟨by omega, by omega⟩, ⟨by omega, by omega⟩, ⟨by omega, by omega⟩, ?_⟩⟩⟩
    · have e : rBs (mem 605) a b = false := by
        cases z : rBs (mem 605) a b with
        | false => rfl
        | true => rw [z] at c; exact absurd c (by decide)
      rw [e] at hk
      exact ⟨⟨by omega, by omega⟩, ih (b + 1) s (by omega) (by omega) v1 (by omega) hk⟩
    · have e1 : rBs (mem 605) a b = true := by
        cases z : rBs (mem 605) a b with
        | true => rfl
        | false => rw [z] at c; exact absurd rfl c
      rw [hwab]
      cases z : rBs r0 a b with
      | true =>
        rw [e1, z, show (true && !true) = false from rfl, if_neg (by decide)] at hk
        exact ⟨fun _ => ⟨⟨by omega, by omega⟩, ih (b + 1) s (by omega) (by omega) v1 (by omega) hk⟩, fun q => absurd q (by decide)⟩
      | false =>
        rw [e1, z, show (true && !false) = true from rfl, if_pos rfl] at hk
        refine ⟨fun q => absurd rfl q, fun _ => ⟨fun q => ⟨⟨by omega, by omega⟩, ⟨by omega, by omega⟩, ?_⟩, fun q => ⟨⟨by omega, by omega⟩, ⟨by omega, by omega⟩, ⟨by omega, by omega⟩, ⟨by omega, by omega⟩, ⟨by omega, by omega⟩, ?_⟩⟩⟩
        · rw [if_neg q] at hk
          exact ih (b + 1) (s.1 + 1, s.2) (by omega) (by omega) (by dsimp only; omega) (by dsimp only; omega) hk
        · rw [if_pos q] at hk
          exact ih (b + 1) (s.1 + 1, 100 * y + 10 * a + b) (by omega) (by omega) (by dsimp only; omega) (by dsimp only; omega) hk
theorem m_mtO {E : EN} (hE : Ep E) {mem : Mm} {Q : Int → Mm → Prop} {r0 r1 : Rw} {y i N Y : Int} (h5 : mem 605 = r1) (ok1 : rOk Y r1) (hw : wrR mem r0) (e07 : r0 7 = r1 7) (hir : R32 i) (hy : 0 ≤ y) (hy2 : y ≤ 100) : ∀ (n : Nat) (a : Int) (s : I2), 0 ≤ a → a + n = r1 7 → 0 ≤ s.1 → s.1 + n * n ≤ 90000 → VM E mX12_meets 1199 mem 38 [(0, aR 603), (1, aI N), (2, aI i), (3, aI (mtO r0 r1 y i n a s).1), (4, aI (mtO r0 r1 y i n a s).2), (5, aI (y + 1))] [] (retI Q) → VM E mX12_meets 1199 mem 56 [(0, aR 603), (1, aI N), (2, aI i), (3, aI s.1), (4, aI s.2), (5, aI y), (6, aI a)] [] (retI Q) := by
  have h7 := ok1.2.1
  have e7 : mem 605 7 = r1 7 := congrFun h5 7
  intro n
  induction n with
  | zero =>
    intro a s ha hb v1 hm hk
    exact rX12_meets_56 (k := 1198) hE ⟨fun _ => ⟨⟨by omega, by omega⟩, hk⟩, fun d => absurd d (by omega)⟩
  | succ n ih =>
    intro a s ha hb v1 hm hk
    unfold mtO at hk
    have e : (((n + 1 : Nat) : Int)) * ((n + 1 : Nat) : Int) = (n : Int) * n + 2 * n + 1 := by
      rw [Int.natCast_add, Int.add_mul, Int.mul_add]
      omega
    rw [e] at hm
    have hnn : 0 ≤ (n : Int) * n := Int.mul_nonneg (by omega) (by omega)
    have k2 := mtI_k (r0 := r0) (r1 := r1) (y := y) (i := i) (a := a) n (a + 1) s
    refine rX12_meets_56 (k := 1198) hE ⟨fun d => absurd d (by omega), fun _ => ⟨⟨by omega, by omega⟩, m_mtI hE h5 ok1 hw e07 hir hy hy2 ha n (a + 1) s (by omega) (by omega) v1 (by omega) ?_⟩⟩
    exact ih (a + 1) _ (by omega) (by omega) (by omega) (by omega) hk
theorem m_mtY {E : EN} (hE : Ep E) {m0 : Mm} {Q : Int → Mm → Prop} {L : LW} {i N : Int} (hi : -1 ≤ i) (hir : R32 i) (hN : N ≤ 60) : ∀ (n : Nat) (mem : Mm) (y Y : Int) (r : Rw) (s : I2), pMd m0 mem L r → rOk Y r → Y + n ≤ 5000 → 1 ≤ y → y + n = N + 1 → (∀ m1, rEq m0 m1 → Q (mSl i (mtY L i n y r s)) m1) → 0 ≤ s.1 → s.1 + 100 * n ≤ 90000 → VM E mX12_meets 1199 mem 38 [(0, aR 603), (1, aI N), (2, aI i), (3, aI s.1), (4, aI s.2), (5, aI y)] [] (retI Q) := by
  intro n
  induction n with
  | zero =>
    intro mem y Y r s hP hok hY h0 h1 hF v1 hm
    refine rX12_meets_38 (k := 1198) hE ⟨fun _ => m_putP hE hP.1 fun m2 a _ => ⟨fun c => ?_, fun c => ?_⟩, fun d => absurd d (by omega)⟩
    · have hF := hF m2 a
      unfold mSl mtY at hF
      rw [if_neg c] at hF
      exact hF
    · have hF := hF m2 a
      unfold mSl mtY at hF
      rw [if_pos c] at hF
      exact hF
  | succ n ih =>
    intro mem y Y r s hP hok hY h0 h1 hF v1 hm
    have h7 := hok.2.1
    have h70 := hok.1
    unfold mtY at hF
    have ok2 := (rTn_ok (L := L) hok).1
    have e7 := rTn_7 (L := L) hok
    have e5 := hP.2.1
    refine rX12_meets_38 (k := 1198) hE ⟨fun d => absurd d (by omega), fun _ => m_note (k := 1197) hE (by rw [e5]; exact hok) fun m2 a b => ?_⟩
    rw [e5] at b
    have e52 : m2 605 = mem 605 := funext fun i => a _ _ (by decide)
    have hP2 : pMd m0 m2 L r := by
      obtain ⟨⟨p1, p2, p3⟩, p4, p5, p6⟩ := hP
      exact ⟨⟨fun o i u v => (a o i fun q => u (by unfold scr; omega)).trans (p1 o i u v), fun i u => (a 605 i (by decide)).trans (p2 i u), fun i u v => (a 608 _ (by decide)).trans (p3 i u v)⟩, e52.trans p4, mL_eq e52 p5, (a 603 20 (by decide)).trans p6⟩
    refine pMd_turn (k := 1191) hE hP2 (by omega) hok fun m3 d _ f => ?_
    have hw3 : wrR m3 r := fun c g u v w => (f 631 _ (by decide) (by decide) (by decide) (by decide) (fun q => absurd q.1 (by decide))).trans (b c g u v w)
    have hnn : (((r 7).toNat : Nat) : Int) * (((r 7).toNat : Nat) : Int) ≤ 100 := by
      have hz : (((r 7).toNat : Nat) : Int) ≤ 10 := by omega
      have hz0 : 0 ≤ (((r 7).toNat : Nat) : Int) := by omega
      have := Int.mul_le_mul hz hz hz0 (by decide)
      omega
    have mk := mtO_k (r0 := r) (r1 := (rTn L r).1) (y := y) (i := i) (r 7).toNat 0 s
    exact m_mtO hE d.2.1 ok2 hw3 e7.symm hir (by omega) (by omega) (r 7).toNat 0 s (by decide) (by omega) v1 (by omega) (ih m3 (y + 1) (Y + 1) _ _ d ok2 (by omega) (by omega) (by omega) hF (by omega) (by omega))
theorem st_meets {E : EN} (hE : Ep E) : stI E 1199 (iAll jC) mX11_meets mX12_meets 2 := by
  refine obs_pair fun mem av hl hr hC => ?_
  obtain ⟨n, i, rfl⟩ := two_arg hl
  have hn : R32 n := hr n List.mem_cons_self
  have hi : R32 i := hr i (List.mem_cons_of_mem _ List.mem_cons_self)
  obtain ⟨L, hy, hm⟩ := jC_law hC
  have hF := hC.2.2.1
  refine ⟨if (0 ≤ n ∧ n ≤ 60) ∧ -1 ≤ i then mSl i (mtY L i n.toNat 1 (mem 605) (0, -1)) else -1, fun Q hQ => ?_, fun m1 Q q1 hC1 hQ => ?_⟩
  · refine eX11_meets (k := 1198) hn hi (rX11_meets_0 hE fun _ => s_isWithin hE hn (by decide) (by decide) (fun a b => ⟨fun d => absurd d (by decide), fun _ => ⟨fun c _ _ => ?_, fun c => ?_⟩⟩) (fun a => ⟨fun _ => ?_, fun d => absurd rfl d⟩))
    · rw [if_pos ⟨⟨a, b⟩, c⟩] at hQ
      refine eX5_meeting (k := 1197) hn hi (rX5_meeting_0 hE isYd2 (s_begin (k := 1195) hE hF.2.1 hy fun m2 cP _ => ?_))
      refine s_mtY hE c hi b (fun m3 d => hQ m3 d) n.toNat m2 1 999 _ (0, -1) cP hF.1 (by omega) (by decide) (by omega) rfl ⟨Int.le_refl 0, by decide, ?_, rfl⟩ (by dsimp only; omega)
      dsimp only
      omega
    · rw [if_neg (by omega)] at hQ; exact hQ mem rEq_rf
    · rw [if_neg (by omega)] at hQ; exact hQ mem rEq_rf
  · obtain ⟨hC2, e, hL, h20, hth⟩ := thr_all hm q1 hC1
    refine eX12_meets (k := 1198) hn hi (rX12_meets_0 hE fun r => s_in hE r (by decide) (by decide) (fun a b => ⟨fun d => absurd d (by decide), fun _ => ⟨fun c => ?_, fun c => ?_⟩⟩) (fun a => ⟨fun _ => ?_, fun d => absurd rfl d⟩))
    · rw [if_pos ⟨⟨a, b⟩, c⟩] at hQ
      refine pMd_keep hE hth hL h20 fun m2 cP _ => ?_
      rw [e] at cP
      exact m_mtY hE c hi b n.toNat m2 1 999 _ (0, -1) cP hF.1 (by omega) (by decide) (by omega) (fun m3 d => hQ m3 d) (Int.le_refl 0) (by dsimp only; omega)
    · rw [if_neg (by omega)] at hQ; exact hQ _ hth
    · rw [if_neg (by omega)] at hQ; exact hQ _ hth
