-- hidden, spade
/-- are the first n things found for year k so -/
def rAf (r : Rw) (k : Int) : Nat → Bool
  | 0 => true
  | n + 1 => rAf r k n && (!(r (144 + 3 * (n : Int)) == k) || (rOc r (r (145 + 3 * (n : Int))) == (r (146 + 3 * (n : Int)) == 1)))
def rLt (r : Rw) : Nat → Int
  | 0 => 0
  | n + 1 => max (rLt r n) (r (144 + 3 * (n : Int)))
def rAl (L : LW) : Nat → Int → Rw → Bool
  | 0, k, r => rAf r k (r 0).toNat
  | n + 1, k, r => rAf r k (r 0).toNat && rAl L n (k + 1) (rTn L r).1
def rHd (L : LW) (r : Rw) (c : Int) : Bool := rFr r c && rAl L (rLt r (r 0).toNat).toNat 0 (rAd r 0 c 0)
/-- what is found, as row r has it -/
def rFo (r : Rw) : Prop := 0 ≤ r 0 ∧ r 0 ≤ 8 ∧ ∀ i, 0 ≤ i → i < 8 → 0 ≤ r (144 + 3 * i) ∧ r (144 + 3 * i) ≤ 9 ∧ 0 ≤ r (145 + 3 * i) ∧ r (145 + 3 * i) < 32 ∧ 0 ≤ r (146 + 3 * i) ∧ r (146 + 3 * i) ≤ 1
theorem fR_fo {m : Mm} {f : Int} {r : Rw} (h : fR m f r) : rFo r := ⟨h.2.1, h.2.2.1, fun i a b => (h.2.2.2 i a b).2.2.2⟩
theorem fR_cg {m : Mm} {f : Int} {r r2 : Rw} (h : ∀ i, i = 0 ∨ 144 ≤ i → r2 i = r i) (hf : fR m f r) : fR m f r2 := by
  obtain ⟨a, b, c, d⟩ := hf
  refine ⟨by rw [h 0 (Or.inl rfl)]; exact a, by rw [h 0 (Or.inl rfl)]; exact b, by rw [h 0 (Or.inl rfl)]; exact c, fun i u v => ?_⟩
  rw [h (144 + 3 * i) (by omega), h (145 + 3 * i) (by omega), h (146 + 3 * i) (by omega)]
  exact d i u v
theorem rFo_cg {r r2 : Rw} (h : ∀ i, i = 0 ∨ 144 ≤ i → r2 i = r i) (hf : rFo r) : rFo r2 := by
  obtain ⟨b, c, d⟩ := hf
  refine ⟨by rw [h 0 (Or.inl rfl)]; exact b, by rw [h 0 (Or.inl rfl)]; exact c, fun i u v => ?_⟩
  rw [h (144 + 3 * i) (by omega), h (145 + 3 * i) (by omega), h (146 + 3 * i) (by omega)]
  exact d i u v
theorem rLt_le {r : Rw} (h : rFo r) : ∀ n : Nat, n ≤ 8 → 0 ≤ rLt r n ∧ rLt r n ≤ 9 := by
  intro n
  induction n with
  | zero => intro _; unfold rLt; omega
  | succ n ih =>
    intro hn
    have a := ih (by omega)
    have b := h.2.2 n (by omega) (by omega)
    unfold rLt
    omega
theorem rAd_out {r : Rw} {fam c sm i : Int} (h0 : 0 ≤ r 7) (h1 : r 7 ≤ 10) (hi : i < 7 ∨ 49 ≤ i) : rAd r fam c sm i = r i := by
  rw [rAd_at, if_neg (by omega), if_neg (by omega), if_neg (by omega), if_neg (by omega), if_neg (by omega)]
theorem rKp_fo {r r2 : Rw} (h : rKp r r2) : ∀ i, i = 0 ∨ 144 ≤ i → r2 i = r i := fun i q => h i (by omega) (by omega)
theorem fR_fr {m m2 : Mm} {f : Int} {r : Rw} (h : ∀ o i, f ≤ o → o ≤ f + 3 → m2 o i = m o i) (hf : fR m f r) : fR m2 f r := by
  obtain ⟨a, b, c, d⟩ := hf
  refine ⟨(h f 0 (by omega) (by omega)).trans a, b, c, fun i u v => ?_⟩
  rw [h (f + 1) i (by omega) (by omega), h (f + 2) i (by omega) (by omega), h (f + 3) i (by omega) (by omega)]
  exact d i u v
theorem s_latest {E : EN} (hE : Ep E) {k : Nat} {mem : Mm} {Q : Int → Mm → Prop} {r : Rw} (hf : fR mem 349 r) (hQ : Q (rLt r (r 0).toNat) mem) : CI E mX1_latest (k + 1) mem [aR 349] Q := by
  have fd : isFd 349 := Or.inl rfl
  have h0 := hf.2.1
  have h8 := hf.2.2.1
  have lp : ∀ (d j : Nat), (r 0).toNat = j + d → VM E mX1_latest (k + 1) mem 4 [(0, aR 349), (1, aI (rLt r j)), (2, aI j)] [] (retI Q) := by
    intro d
    induction d with
    | zero =>
      intro j h
      rw [h, Nat.add_zero] at hQ
      have e := hf.1
      exact rX1_latest_4 hE fd ⟨fun _ => hQ, fun c => absurd c (by omega)⟩
    | succ d ih =>
      intro j h
      have e := hf.1
      have e1 := (hf.2.2.2 j (by omega) (by omega)).1
      refine rX1_latest_4 hE fd ⟨fun c => absurd c (by omega), fun _ => ⟨fun c => absurd c (by omega), fun _ => ⟨⟨by omega, by omega⟩, ⟨by omega, by omega⟩, ?_⟩⟩⟩
      rw [e1]
      exact ih (j + 1) (by omega)
  exact eX1_latest (rX1_latest_0 hE fd (lp (r 0).toNat 0 (by omega)))
theorem rAf_f {r : Rw} {k : Int} {a : Nat} (h : rAf r k a = false) : ∀ b : Nat, rAf r k (a + b) = false := by
  intro b
  induction b with
  | zero => exact h
  | succ b ih => show (rAf r k (a + b) && _) = false; rw [ih]; rfl
theorem s_agree {E : EN} (hE : Ep E) {k : Nat} {mem : Mm} {Q : Int → Mm → Prop} {r : Rw} {x : Int} (hf : fR mem 349 r) (hR : yR mem 553 r) (h10 : r 7 ≤ 10) (hx : R32 x) (hQ : Q (if rAf r x (r 0).toNat then 1 else 0) mem) : CI E mX1_agree (k + 1) mem [aR 349, aR 553, aI x] Q := by
  have fd : isFd 349 := Or.inl rfl
  have h0 := hf.2.1
  have h8 := hf.2.2.1
  have lp : ∀ (d j : Nat), (r 0).toNat = j + d → rAf r x j = true → VM E mX1_agree (k + 1) mem 2 [(0, aR 349), (1, aR 553), (2, aI x), (3, aI j)] [] (retI Q) := by
    intro d
    induction d with
    | zero =>
      intro j h ht
      rw [h, Nat.add_zero, ht] at hQ
      have e := hf.1
      exact rX1_agree_2 hE fd isYd553 ⟨fun _ => hQ, fun c => absurd c (by omega)⟩
    | succ d ih =>
      intro j h ht
      have e := hf.1
      obtain ⟨e1, e2, e3, -⟩ := hf.2.2.2 j (by omega) (by omega)
      have ef : rAf r x (j + 1) = (!(r (144 + 3 * (j : Int)) == x) || (rOc r (r (145 + 3 * (j : Int))) == (r (146 + 3 * (j : Int)) == 1))) := by
        show (rAf r x j && _) = _
        rw [ht]; rfl
      have no : rAf r x (j + 1) = false → Q 0 mem := by
        intro z
        rw [h, show j + (d + 1) = j + 1 + d by omega, rAf_f z d] at hQ
        exact hQ
      refine rX1_agree_2 hE fd isYd553 ⟨fun c => absurd c (by omega), fun _ => ⟨fun c => absurd c (by omega), fun _ => ⟨⟨by omega, by omega⟩, ?_⟩⟩⟩
      rw [e1, e2]
      refine ⟨fun c => ⟨⟨by omega, by omega⟩, ih (j + 1) (by omega) (by rw [ef]; simp [c])⟩, fun c r2 => s_yIn hE isYd553 hR h10 r2 fun z hz => ?_⟩
      rw [e3]
      refine ⟨fun u => ?_, fun u => ?_⟩
      · rcases hz with ⟨z1, -⟩ | ⟨-, -, z3⟩
        · exact absurd z1 u
        · exact ⟨fun v => no (by rw [ef, z3]; simp [c, v]), fun v => ⟨⟨by omega, by omega⟩, ih (j + 1) (by omega) (by rw [ef, z3]; simp [v])⟩⟩
      · rcases hz with ⟨-, z2⟩ | ⟨z1, -, -⟩
        · exact ⟨fun v => ⟨⟨by omega, by omega⟩, ih (j + 1) (by omega) (by rw [ef, z2]; simp [v])⟩, fun v => no (by rw [ef, z2]; simp [c, v])⟩
        · omega
  exact eX1_agree hx (rX1_agree_0 hE fd isYd553 (lp (r 0).toNat 0 (by omega) rfl))
theorem s_ag_l {E : EN} (hE : Ep E) {m0 : Mm} {Q : Int → Mm → Prop} {L : LW} {N : Int} : ∀ (n : Nat) (mem : Mm) (x Y : Int) (r : Rw), pYd m0 mem L r → yFr 553 m0 mem → fR m0 349 r → rOk Y r → Y + n ≤ 5000 → 0 ≤ x → x + n = N → N ≤ 9 → (∀ m1, rEq m0 m1 → yFr 553 m0 m1 → Q (if rAl L n x r then 1 else 0) m1) → VM E mX5_agrees 1197 mem 24 [(0, aR 552), (2, aR 349), (4, aI N), (5, aI x)] [] (retI Q) := by
  intro n
  induction n with
  | zero =>
    intro mem x Y r hP hf hfr hok hY h0 h1 hN hQ
    have hQ := hQ mem hP.1 hf
    unfold rAl at hQ
    have hfm : fR mem 349 r := fR_fr (fun o i u v => hf o i (by omega) (by unfold isTx; omega)) hfr
    refine rX5_agrees_24 (k := 1196) (p0 := 2) (p2 := 0) hE isYd2 (Or.inl rfl) ⟨fun d => absurd d (by omega), fun _ rx => s_agree (k := 1195) hE hfm hP.2.1 hok.2.1 rx ⟨fun u => ⟨fun _ => ⟨⟨by omega, by omega⟩, rX5_agrees_24 (k := 1196) (p0 := 2) (p2 := 0) hE isYd2 (Or.inl rfl) ⟨fun _ => ?_, fun d => absurd d (by omega)⟩⟩, fun d => absurd d (by omega)⟩, fun u => ?_⟩⟩
    · cases z : rAf r x (r 0).toNat with
      | true => rw [z] at hQ; exact hQ
      | false => rw [z] at u; exact absurd rfl u
    · cases z : rAf r x (r 0).toNat with
      | true => rw [z] at u; exact absurd u (by decide)
      | false => rw [z] at hQ; exact hQ
  | succ n ih =>
    intro mem x Y r hP hf hfr hok hY h0 h1 hN hQ
    unfold rAl at hQ
    have hfm : fR mem 349 r := fR_fr (fun o i u v => hf o i (by omega) (by unfold isTx; omega)) hfr
    refine rX5_agrees_24 (k := 1196) (p0 := 2) (p2 := 0) hE isYd2 (Or.inl rfl) ⟨fun d => absurd d (by omega), fun _ rx => s_agree (k := 1195) hE hfm hP.2.1 hok.2.1 rx ⟨fun u => ⟨fun d => absurd d (by omega), fun _ => ?_⟩, fun u => ?_⟩⟩
    · cases z : rAf r x (r 0).toNat with
      | true =>
        rw [z] at hQ
        simp only [Bool.true_and] at hQ
        exact pYd_turn (k := 1192) hE hP (by omega) hok fun m2 a _ b => ⟨⟨by omega, by omega⟩, ih m2 (x + 1) (Y + 1) _ a (yFr_tr hf b) (fR_cg (rKp_fo (rTn_ok hok).2) hfr) (rTn_ok hok).1 (by omega) (by omega) (by omega) hN hQ⟩
      | false => rw [z] at u; exact absurd rfl u
    · cases z : rAf r x (r 0).toNat with
      | true => rw [z] at u; exact absurd u (by decide)
      | false => rw [z] at hQ; exact hQ mem hP.1 hf
theorem s_agrees {E : EN} (hE : Ep E) {mem : Mm} {Q : Int → Mm → Prop} {L : LW} {c : Int} {r : Rw} (hR : yR mem 2 r) (hL : yL mem 2 L) (hf : fR mem 349 r) (hok : rOk 999 r) (h7 : r 7 < 10) (hc : 0 ≤ c) (hc2 : c < 32) (ho : rOc r c = false) (hQ : ∀ m1, rEq mem m1 → yFr 553 mem m1 → Q (if rAl L (rLt r (r 0).toNat).toNat 0 (rAd r 0 c 0) then 1 else 0) m1) : CI E mX5_agrees 1197 mem [aR 552, aR 2, aR 349, aI c] Q := by
  have h0 := hok.1
  have hlt := rLt_le (fR_fo hf) (r 0).toNat (by have := hf.2.2.1; omega)
  refine eX5_agrees (k := 1196) ⟨by omega, by omega⟩ (rX5_agrees_0 hE isYd2 (Or.inl rfl) (s_begin (k := 1194) hE hR hL fun m2 cP cf rc => pYd_add hE cP hok h7 (by decide) rc fun m3 aP af => ?_))
  have hf3 : fR m3 349 r := fR_fr (fun o i u v => (af o i (by omega)).trans (cf o i (by omega))) hf
  refine s_latest (k := 1195) hE hf3 ?_
  have hfa : fR mem 349 (rAd r 0 c 0) := fR_cg (fun i q => rAd_out h0 (by omega) (by omega)) hf
  exact s_ag_l hE _ m3 0 999 _ aP (fun o i u _ => (af o i u).trans (cf o i u)) hfa (rAd_ok hok h7 (by decide) (by decide) hc hc2 (by decide) (by decide) ho) (by omega) (by decide) (by omega) hlt.2 hQ
/-- the model's question -/
theorem m_asF {E : EN} (hE : Ep E) {k : Nat} {mem : Mm} {Q : Int → Mm → Prop} {x : Int} (hf : rFo (mem 605)) (h0 : 0 ≤ mem 605 7) (h10 : mem 605 7 ≤ 10) (hx : R32 x) (hQ : Q (if rAf (mem 605) x (mem 605 0).toNat then 1 else 0) mem) : CI E mX12_isAsFound (k + 1) mem [aR 603, aI x] Q := by
  have f0 := hf.1
  have f8 := hf.2.1
  have lp : ∀ (d j : Nat) (z : Int), (mem 605 0).toNat = j + d → z = (if rAf (mem 605) x j then 1 else 0) → VM E mX12_isAsFound (k + 1) mem 4 [(0, aR 603), (1, aI x), (2, aI z), (3, aI j)] [] (retI Q) := by
    intro d
    induction d with
    | zero =>
      intro j z h hz
      rw [h, Nat.add_zero, ← hz] at hQ
      exact rX12_isAsFound_4 hE ⟨fun _ => ⟨by rw [hz]; split; exact Or.inr rfl; exact Or.inl rfl, hQ⟩, fun c => absurd c (by omega)⟩
    | succ d ih =>
      intro j z h hz
      have b := hf.2.2 j (by omega) (by omega)
      have ef : rAf (mem 605) x (j + 1) = (rAf (mem 605) x j && (!(mem 605 (144 + 3 * (j : Int)) == x) || (rOc (mem 605) (mem 605 (145 + 3 * (j : Int))) == (mem 605 (146 + 3 * (j : Int)) == 1)))) := rfl
      have i1 : (144 : Int) + 3 * (j : Int) + 1 = 145 + 3 * (j : Int) := by omega
      have i2 : (144 : Int) + 3 * (j : Int) + 2 = 146 + 3 * (j : Int) := by omega
      refine rX12_isAsFound_4 hE ⟨fun c => absurd c (by omega), fun _ => ⟨⟨by omega, by omega⟩, ⟨by omega, by omega⟩, fun c => ⟨⟨by omega, by omega⟩, ih (j + 1) 0 (by omega) ?_⟩, fun c => ⟨⟨by omega, by omega⟩, fun d2 => ⟨⟨by omega, by omega⟩, ih (j + 1) 1 (by omega) ?_⟩, fun d2 => ⟨⟨by omega, by omega⟩, ⟨by omega, by omega⟩, fun r2 => m_yIn hE h0 h10 r2 fun w hw => ?_⟩⟩⟩⟩
      · have : rAf (mem 605) x j = false := by
          cases q : rAf (mem 605) x j with
          | false => rfl
          | true => rw [q] at hz; exact absurd (c.symm.trans hz) (by decide)
        rw [ef, this]; rfl
      · have : rAf (mem 605) x j = true := by
          cases q : rAf (mem 605) x j with
          | true => rfl
          | false => rw [q] at hz; exact absurd hz c
        rw [ef, this]; simp [d2]
      · have ht : rAf (mem 605) x j = true := by
          cases q : rAf (mem 605) x j with
          | true => rfl
          | false => rw [q] at hz; exact absurd hz c
        rw [i1] at hw
        rw [i2]
        refine ⟨fun u => ⟨⟨by omega, by omega⟩, ⟨by omega, by omega⟩, fun v => ⟨⟨by omega, by omega⟩, ih (j + 1) 1 (by omega) ?_⟩, fun v => ⟨⟨by omega, by omega⟩, ih (j + 1) 0 (by omega) ?_⟩⟩, fun u => ⟨⟨by omega, by omega⟩, ⟨by omega, by omega⟩, fun v => ⟨⟨by omega, by omega⟩, ih (j + 1) 0 (by omega) ?_⟩, fun v => ⟨⟨by omega, by omega⟩, ih (j + 1) 1 (by omega) ?_⟩⟩⟩
        · rcases hw with ⟨-, w2⟩ | ⟨w1, -, -⟩
          · rw [ef, ht, w2]; simp [v]
          · omega
        · rcases hw with ⟨-, w2⟩ | ⟨w1, -, -⟩
          · rw [ef, ht, w2]; simp [v, d2]
          · omega
        · rcases hw with ⟨w1, -⟩ | ⟨-, -, w3⟩
          · exact absurd w1 u
          · rw [ef, ht, w3]; simp [v, d2]
        · rcases hw with ⟨w1, -⟩ | ⟨-, -, w3⟩
          · exact absurd w1 u
          · rw [ef, ht, w3]; simp [v]
  exact eX12_isAsFound hx (rX12_isAsFound_0 hE (lp (mem 605 0).toNat 0 1 (by omega) rfl))
theorem m_hd_l {E : EN} (hE : Ep E) {m0 : Mm} {Q : Int → Mm → Prop} {L : LW} {N : Int} : ∀ (n : Nat) (mem : Mm) (x Y : Int) (r : Rw), pMd m0 mem L r → (∀ i, mem 632 i = m0 632 i) → rFo r → rOk Y r → Y + n ≤ 5000 → 0 ≤ x → x + n = N → N ≤ 9 → (∀ m1, rEq m0 m1 → (∀ i, m1 632 i = m0 632 i) → Q (if rAl L n x r then 1 else 0) m1) → VM E mX12_isHidden 1198 mem 98 [(0, aR 603), (2, aI N), (3, aI (if rAf r x (r 0).toNat then 1 else 0)), (4, aI (x + 1))] [] (retI Q) := by
  intro n
  induction n with
  | zero =>
    intro mem x Y r hP h6 hf hok hY h0 h1 hN hQ
    unfold rAl at hQ
    exact rX12_isHidden_98 (k := 1197) (p0 := 0) hE ⟨fun _ => m_putP hE hP.1 fun m2 a b => ⟨by split; exact Or.inr rfl; exact Or.inl rfl, hQ m2 a fun i => (b 632 i (by decide)).trans (h6 i)⟩, fun d => absurd d (by omega)⟩
  | succ n ih =>
    intro mem x Y r hP h6 hf hok hY h0 h1 hN hQ
    unfold rAl at hQ
    refine rX12_isHidden_98 (k := 1197) (p0 := 0) hE ⟨fun d => absurd d (by omega), fun _ => ⟨fun u => m_putP hE hP.1 fun m2 a b => ?_, fun u => pMd_turn (k := 1190) hE hP (by omega) hok fun m2 a _ b rx => ?_⟩⟩
    · have z : rAf r x (r 0).toNat = false := by
        cases z : rAf r x (r 0).toNat with
        | false => rfl
        | true => rw [z] at u; exact absurd u (by decide)
      rw [z] at hQ ⊢
      exact ⟨Or.inl rfl, hQ m2 a fun i => (b 632 i (by decide)).trans (h6 i)⟩
    · have z : rAf r x (r 0).toNat = true := by
        cases z : rAf r x (r 0).toNat with
        | true => rfl
        | false => rw [z] at u; exact absurd rfl u
      rw [z] at hQ
      simp only [Bool.true_and] at hQ
      have kp := (rTn_ok (L := L) hok)
      have hf2 : rFo (rTn L r).1 := rFo_cg (rKp_fo kp.2) hf
      refine m_asF (k := 1196) hE (by rw [a.2.1]; exact hf2) (by rw [a.2.1]; exact kp.1.1) (by rw [a.2.1]; exact kp.1.2.1) rx ⟨⟨by omega, by omega⟩, ?_⟩
      rw [a.2.1]
      exact ih m2 (x + 1) (Y + 1) _ a (fun i => (b 632 i (by decide) (by decide) (by decide) (by decide) (fun q => absurd q.1 (by decide))).trans (h6 i)) hf2 kp.1 (by omega) (by omega) (by omega) hN hQ
theorem m_hidden {E : EN} (hE : Ep E) {mem : Mm} {Q : Int → Mm → Prop} {L : LW} {c : Int} {r : Rw} (h5 : mem 605 = r) (hL : mL mem L) (h20 : mem 603 20 = 0) (hf : rFo r) (hok : rOk 999 r) (h7 : r 7 < 10) (hc : 0 ≤ c) (hc2 : c < 32) (hQ : ∀ m1, rEq mem m1 → (∀ i, m1 632 i = mem 632 i) → Q (if rHd L r c then 1 else 0) m1) : CI E mX12_isHidden 1198 mem [aR 603, aI c] Q := by
  subst h5
  have h0 := hok.1
  have f0 := hf.1
  have f8 := hf.2.1
  unfold rHd rFr at hQ
  have rest : rOc (mem 605) c = false → (∀ m1, rEq mem m1 → (∀ i, m1 632 i = mem 632 i) → Q (if rAl L (rLt (mem 605) (mem 605 0).toNat).toNat 0 (rAd (mem 605) 0 c 0) then 1 else 0) m1) → ∀ (d j : Nat), (mem 605 0).toNat = j + d → VM E mX12_isHidden 1198 mem 27 [(0, aR 603), (1, aI c), (2, aI (rLt (mem 605) j)), (3, aI j)] [] (retI Q) := by
    intro ho hQ d
    induction d with
    | zero =>
      intro j h
      have hlt := rLt_le hf (mem 605 0).toNat (by omega)
      rw [Nat.add_zero] at h
      rw [← h]
      refine rX12_isHidden_27 (k := 1197) hE ⟨fun _ => pMd_keep hE (m0 := mem) rEq_rf hL h20 fun m2 cP cf rc => pMd_lay hE cP hok h7 (by decide) rc fun m3 aP af => ?_, fun d => absurd d (by omega)⟩
      have hoka : rOk 999 (rAd (mem 605) 0 c 0) := rAd_ok hok h7 (by decide) (by decide) hc hc2 (by decide) (by decide) ho
      have hfa : rFo (rAd (mem 605) 0 c 0) := rFo_cg (fun i q => rAd_out h0 (by omega) (by omega)) hf
      refine m_asF (k := 1196) hE (by rw [aP.2.1]; exact hfa) (by rw [aP.2.1]; exact hoka.1) (by rw [aP.2.1]; exact hoka.2.1) (by decide) ?_
      rw [aP.2.1]
      exact m_hd_l hE (rLt (mem 605) (mem 605 0).toNat).toNat m3 0 999 _ aP (fun i => (af 632 i (by decide)).trans (cf 632 i (by decide))) hfa hoka (by omega) (by decide) (by omega) hlt.2 hQ
    | succ d ih =>
      intro j h
      have b := hf.2.2 j (by omega) (by omega)
      have e : rLt (mem 605) (j + 1) = max (rLt (mem 605) j) (mem 605 (144 + 3 * (j : Int))) := rfl
      refine rX12_isHidden_27 (k := 1197) hE ⟨fun d => absurd d (by omega), fun _ => ⟨⟨by omega, by omega⟩, ⟨by omega, by omega⟩, ⟨by omega, by omega⟩, fun u => ⟨⟨by omega, by omega⟩, ?_⟩, fun u => ⟨⟨by omega, by omega⟩, ?_⟩⟩⟩
      · have := ih (j + 1) (by omega)
        rw [e, show max (rLt (mem 605) j) (mem 605 (144 + 3 * (j : Int))) = rLt (mem 605) j by omega] at this
        exact this
      · have := ih (j + 1) (by omega)
        rw [e, show max (rLt (mem 605) j) (mem 605 (144 + 3 * (j : Int))) = mem 605 (144 + 3 * (j : Int)) by omega] at this
        exact this
  refine eX12_isHidden (k := 1197) ⟨by omega, by omega⟩ (rX12_isHidden_0 hE ⟨⟨by omega, by omega⟩, ⟨by omega, by omega⟩, fun a => ?_, fun a rc => m_yIn hE h0 hok.2.1 rc fun x hx => ⟨fun u => ?_, fun u => ?_⟩⟩)
  · have hQ := hQ mem rEq_rf fun _ => rfl
    simp [a] at hQ
    exact hQ
  · rcases hx with ⟨-, x2⟩ | ⟨x1, -, -⟩
    · rw [a, x2] at hQ
      simp only [Bool.not_false, Bool.and_true, show ((0 : Int) == 0) = true from rfl, Bool.true_and] at hQ
      exact rest x2 hQ (mem 605 0).toNat 0 (by omega)
    · omega
  · rcases hx with ⟨x1, -⟩ | ⟨-, -, x3⟩
    · exact absurd x1 u
    · have hQ := hQ mem rEq_rf fun _ => rfl
      rw [x3] at hQ
      simp at hQ
      exact hQ
def hdF (L : LW) (r : Rw) (i : Int) : Nat → Int → I2 → I2
  | 0, _, s => s
  | n + 1, c, s => hdF L r i n (c + 1) (if rHd L r c then (s.1 + 1, if s.1 = i then c else s.2) else s)
theorem hdF_k {L : LW} {r : Rw} {i : Int} : ∀ (n : Nat) (c : Int) (s : I2), i < s.1 → (hdF L r i n c s).2 = s.2 := by
  intro n
  induction n with
  | zero => intro c s _; rfl
  | succ n ih =>
    intro c s h
    unfold hdF
    split
    · rw [ih _ _ (by dsimp only; omega)]
      dsimp only
      rw [if_neg (by omega)]
    · exact ih _ _ h
theorem s_hid_l {E : EN} (hE : Ep E) {m0 : Mm} {Q : Int → Mm → Prop} {L : LW} {r : Rw} {i F : Int} (hR : yR m0 2 r) (hL : yL m0 2 L) (h29 : lw29 m0) (hf : fR m0 349 r) (hok : rOk 999 r) (h7 : r 7 < 10) (hi : -1 ≤ i) (hF : ∀ m1, rEq m0 m1 → Q F m1) : ∀ (n : Nat) (mem : Mm) (c : Int) (s : I2), rEq m0 mem → 0 ≤ c → c + n = 32 → F = mSl i (hdF L r i n c s) → mIv i s → s.1 ≤ c → VM E mX5_hiddenCell 1198 mem 6 [(0, aR 552), (1, aR 2), (2, aR 349), (3, aI i), (4, aI s.1), (5, aI c)] [] (retI Q) := by
  intro n
  induction n with
  | zero =>
    intro mem c s q1 c0 c1 hf1 hv hs
    have hF := hF mem q1
    rw [hf1] at hF
    unfold mSl hdF at hF
    refine rX5_hiddenCell_6 (k := 1197) hE isYd2 (Or.inl rfl) ⟨fun _ => ⟨fun u => ?_, fun u => ?_⟩, fun d => absurd d (by omega)⟩
    · rw [if_neg u, hv.2.2.2] at hF; exact hF
    · rw [if_pos u] at hF; exact hF
  | succ n ih =>
    intro mem c s q1 c0 c1 hf1 hv hs
    have hR1 : yR mem 2 r := rEk_yR (rEq_k q1) (Or.inl rfl) hR
    obtain ⟨hL1, h291⟩ := yL2_rEk h29 hL (rEq_k q1)
    have hfm : fR mem 349 r := fR_fr (fun o i u v => rEk_big (rEq_k q1) (by omega)) hf
    unfold hdF at hf1
    have no : ∀ m2, rEq m0 m2 → rHd L r c = false → VM E mX5_hiddenCell 1198 m2 6 [(0, aR 552), (1, aR 2), (2, aR 349), (3, aI i), (4, aI s.1), (5, aI (c + 1))] [] (retI Q) := by
      intro m2 a z
      rw [z] at hf1
      exact ih m2 (c + 1) s a (by omega) (by omega) hf1 hv (by omega)
    have ce : rHd L r c = (rFr r c && rAl L (rLt r (r 0).toNat).toNat 0 (rAd r 0 c 0)) := rfl
    refine rX5_hiddenCell_6 (k := 1197) hE isYd2 (Or.inl rfl) ⟨fun d => absurd d (by omega), fun _ _ => s_yFr (k := 1196) hE isYd2 hR1 hok.2.1 c0 (by omega) ⟨fun u => ⟨⟨by omega, by omega⟩, no mem q1 ?_⟩, fun u rc => ?_⟩⟩
    · have z : rFr r c = false := by
        cases z : rFr r c with
        | false => rfl
        | true => rw [z] at u; exact absurd u (by decide)
      rw [ce, z]; rfl
    · have z : rFr r c = true := by
        cases z : rFr r c with
        | true => rfl
        | false => rw [z] at u; exact absurd rfl u
      have ho : rOc r c = false := by
        unfold rFr at z
        cases w : rOc r c with
        | false => rfl
        | true => rw [w] at z; simp at z
      refine s_agrees hE hR1 hL1 hfm hok h7 c0 (by omega) ho fun m2 a b => ⟨fun v => ⟨⟨by omega, by omega⟩, no m2 (rEq_tr q1 a) ?_⟩, fun v => ?_⟩
      · have z2 : rAl L (rLt r (r 0).toNat).toNat 0 (rAd r 0 c 0) = false := by
          cases w : rAl L (rLt r (r 0).toNat).toNat 0 (rAd r 0 c 0) with
          | false => rfl
          | true => rw [w] at v; exact absurd v (by decide)
        rw [ce, z, z2]; rfl
      · have z2 : rAl L (rLt r (r 0).toNat).toNat 0 (rAd r 0 c 0) = true := by
          cases w : rAl L (rLt r (r 0).toNat).toNat 0 (rAd r 0 c 0) with
          | true => rfl
          | false => rw [w] at v; exact absurd rfl v
        have hh : rHd L r c = true := by rw [ce, z, z2]; rfl
        rw [hh, if_pos rfl] at hf1
        obtain ⟨v1, v2, v3, v4⟩ := hv
        refine ⟨fun w => ⟨⟨by omega, by omega⟩, ⟨by omega, by omega⟩, ?_⟩, fun w => ?_⟩
        · rw [if_neg w] at hf1
          exact ih m2 (c + 1) (s.1 + 1, s.2) (rEq_tr q1 a) (by omega) (by omega) hf1 ⟨by dsimp only; omega, by dsimp only; omega, by dsimp only; omega, v4⟩ (by dsimp only; omega)
        · rw [if_pos w] at hf1
          have e : F = c := by
            rw [hf1]
            unfold mSl
            rw [if_neg (by omega), hdF_k _ _ _ (by dsimp only; omega)]
          rw [← e]
          exact hF m2 (rEq_tr q1 a)
theorem m_hid_l {E : EN} (hE : Ep E) {m0 : Mm} {Q : Int → Mm → Prop} {L : LW} {r : Rw} {i : Int} (h5 : m0 605 = r) (hL : mL m0 L) (h20 : m0 603 20 = 0) (hf : rFo r) (hok : rOk 999 r) (h7 : r 7 < 10) : ∀ (n : Nat) (mem : Mm) (c : Int) (s : I2), rEq m0 mem → 0 ≤ c → c + n = 32 → (∀ m1, rEq m0 m1 → Q (mSl i (hdF L r i n c s)) m1) → 0 ≤ s.1 → s.1 ≤ c → VM E mX12_hidden 1199 mem 26 [(0, aR 603), (1, aI i), (2, aI s.1), (3, aI s.2), (4, aI c)] [] (retI Q) := by
  intro n
  induction n with
  | zero =>
    intro mem c s q1 c0 c1 hQ s0 s1
    have hQ := hQ mem q1
    unfold mSl hdF at hQ
    refine rX12_hidden_26 (k := 1198) hE ⟨fun _ => ⟨fun u => ?_, fun u => ?_⟩, fun d => absurd d (by omega)⟩
    · rw [if_neg u] at hQ; exact hQ
    · rw [if_pos u] at hQ; exact hQ
  | succ n ih =>
    intro mem c s q1 c0 c1 hQ s0 s1
    unfold hdF at hQ
    refine rX12_hidden_26 (k := 1198) hE ⟨fun d => absurd d (by omega), fun _ _ => m_hidden hE ((rEq_605 q1).trans h5) (mL_eq (rEq_605 q1) hL) ((rEk_sm (rEq_k q1) (by omega)).trans h20) hf hok h7 c0 (by omega) fun m2 a b => ?_⟩
    cases z : rHd L r c with
    | false =>
      rw [z] at hQ
      exact ⟨fun _ => ⟨⟨by omega, by omega⟩, ih m2 (c + 1) s (rEq_tr q1 a) (by omega) (by omega) hQ s0 (by omega)⟩, fun u => absurd rfl u⟩
    | true =>
      rw [z, if_pos rfl] at hQ
      refine ⟨fun u => absurd u (by decide), fun _ => ⟨fun w => ⟨⟨by omega, by omega⟩, ⟨by omega, by omega⟩, ?_⟩, fun w => ⟨⟨by omega, by omega⟩, ⟨by omega, by omega⟩, ?_⟩⟩⟩
      · rw [if_neg w] at hQ
        exact ih m2 (c + 1) (s.1 + 1, s.2) (rEq_tr q1 a) (by omega) (by omega) hQ (by dsimp only; omega) (by dsimp only; omega)
      · rw [if_pos w] at hQ
        exact ih m2 (c + 1) (s.1 + 1, c) (rEq_tr q1 a) (by omega) (by omega) hQ (by dsimp only; omega) (by dsimp only; omega)
theorem st_hidden {E : EN} (hE : Ep E) : stI E 1199 (iAll jC) mX11_hidden mX12_hidden 1 := by
  refine obs_pair fun mem av hl hr hC => ?_
  obtain ⟨i, rfl⟩ := one_arg hl
  have hi : R32 i := hr i List.mem_cons_self
  obtain ⟨L, hy, hm⟩ := jC_law hC
  have hF := hC.2.2.1
  have h7 := hF.1.2.1
  have e10 := hF.2.1.1
  -- below -1 the class says NONE at once; the model's fold never comes to i
  have neg : i < -1 → ∀ (n : Nat) (c : Int) (s : I2), 0 ≤ s.1 → s.2 = -1 → (hdF L (mem 605) i n c s).2 = -1 := fun hn n c s h0 h1 => by rw [hdF_k n c s (by omega)]; exact h1
  refine ⟨if mem 605 7 < 10 then mSl i (hdF L (mem 605) i 32 0 (0, -1)) else -1, fun Q hQ => ?_, fun m1 Q q1 hC1 hQ => ?_⟩
  · refine eX11_hidden (k := 1198) hi (rX11_hidden_0 hE ⟨fun u => ?_, fun u => ⟨fun v _ => ?_, fun v => ?_⟩⟩)
    · have hQ := hQ mem rEq_rf
      unfold mSl at hQ
      rw [if_neg (show ¬ i = -1 by omega), neg u 32 0 (0, -1) (Int.le_refl 0) rfl] at hQ
      rw [show (if mem 605 7 < 10 then (-1 : Int) else -1) = -1 by split <;> rfl] at hQ
      exact hQ
    · rw [e10] at v
      rw [if_pos v] at hQ
      refine eX5_hiddenCell (k := 1197) hi (rX5_hiddenCell_0 hE isYd2 (Or.inl rfl) (s_hid_l hE hF.2.1 hy (jC_29 hC) hF.2.2.1 hF.1 v u (fun m1 a => hQ m1 a) 32 mem 0 (0, -1) rEq_rf (by decide) (by decide) rfl ⟨Int.le_refl 0, by decide, ?_, rfl⟩ (Int.le_refl 0)))
      dsimp only; omega
    · rw [e10] at v
      rw [if_neg (by omega)] at hQ
      exact hQ mem rEq_rf
  · obtain ⟨hC2, e, hL, h20, hth⟩ := thr_all hm q1 hC1
    have e5 : m1 605 7 = mem 605 7 := congrFun (rEq_605 q1) 7
    refine eX12_hidden (k := 1198) hi (rX12_hidden_0 hE ⟨fun u => ?_, fun u => ?_⟩)
    · rw [e5] at u
      rw [if_pos (by omega)] at hQ
      exact m_hid_l hE (m0 := aUp m1 603 0 0) e hL h20 (fR_fo hF.2.2.1) hF.1 (by omega) 32 _ 0 (0, -1) rEq_rf (by decide) (by decide) (fun m2 a => hQ m2 (rEq_tr hth a)) (Int.le_refl 0) (Int.le_refl 0)
    · rw [e5] at u
      rw [if_neg (by omega)] at hQ
      exact hQ _ hth
