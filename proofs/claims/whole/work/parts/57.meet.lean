-- one plot more; meet
theorem rAd_at {r : Rw} {fam c sm i : Int} : rAd r fam c sm i = if i = 7 then r 7 + 1 else if i = 38 + r 7 then 0 else if i = 28 + r 7 then sm else if i = 18 + r 7 then fam else if i = 8 + r 7 then c else r i := rfl
theorem rAd_ok {Y : Int} {r : Rw} {fam c sm : Int} (h : rOk Y r) (h7 : r 7 < 10) (hf : 0 ≤ fam) (hf2 : fam < 6) (hc : 0 ≤ c) (hc2 : c < 32) (hs : 0 ≤ sm) (hs2 : sm ≤ 1) (ho : rOc r c = false) : rOk Y (rAd r fam c sm) := by
  obtain ⟨a1, a2, a3, a4, a5, a6, a7, a8, a9, a10, a11, a12, a13⟩ := h
  have ho := rOc_f.mp ho
  have g : ∀ i, i ≠ 7 → i < 8 ∨ 48 ≤ i → rAd r fam c sm i = r i := fun i u v => by
    rw [rAd_at, if_neg u, if_neg (by omega), if_neg (by omega), if_neg (by omega), if_neg (by omega)]
  have g7 : rAd r fam c sm 7 = r 7 + 1 := by rw [rAd_at, if_pos rfl]
  have g8 : ∀ p, 0 ≤ p → p < 10 → rAd r fam c sm (8 + p) = if p = r 7 then c else r (8 + p) := fun p u v => by
    rw [rAd_at, if_neg (by omega), if_neg (by omega), if_neg (by omega), if_neg (by omega)]
    by_cases q : p = r 7
    · rw [if_pos q, if_pos (by omega)]
    · rw [if_neg q, if_neg (by omega)]
  refine ⟨by rw [g7]; omega, by rw [g7]; omega, fun p u v => ?_, fun p u v => ?_, by rw [g 3 (by omega) (by omega)]; exact a5, by rw [g 3 (by omega) (by omega)]; exact a6, by rw [g 4 (by omega) (by omega)]; exact a7, by rw [g 4 (by omega) (by omega)]; exact a8, by rw [g 5 (by omega) (by omega)]; exact a9, by rw [g 5 (by omega) (by omega)]; exact a10, by rw [g 6 (by omega) (by omega)]; exact a11, by rw [g 6 (by omega) (by omega)]; exact a12, fun p q b1 b2 b3 b4 b5 => ?_⟩
  · have b := a3 p u v
    by_cases z : p = r 7
    · have e1 : rAd r fam c sm (8 + p) = c := by rw [rAd_at, if_neg (by omega), if_neg (by omega), if_neg (by omega), if_neg (by omega), if_pos (by omega)]
      have e2 : rAd r fam c sm (18 + p) = fam := by rw [rAd_at, if_neg (by omega), if_neg (by omega), if_neg (by omega), if_pos (by omega)]
      have e3 : rAd r fam c sm (28 + p) = sm := by rw [rAd_at, if_neg (by omega), if_neg (by omega), if_pos (by omega)]
      have e4 : rAd r fam c sm (38 + p) = 0 := by rw [rAd_at, if_neg (by omega), if_pos (by omega)]
      rw [e1, e2, e3, e4]
      omega
    · have o : ∀ i, i = 8 + p ∨ i = 18 + p ∨ i = 28 + p ∨ i = 38 + p → rAd r fam c sm i = r i := fun i q => by rw [rAd_at, if_neg (by omega), if_neg (by omega), if_neg (by omega), if_neg (by omega), if_neg (by omega)]
      rw [o _ (Or.inl rfl), o _ (Or.inr (Or.inl rfl)), o _ (Or.inr (Or.inr (Or.inl rfl))), o _ (Or.inr (Or.inr (Or.inr rfl)))]
      exact b
  · rw [g (80 + p) (by omega) (by omega), g (112 + p) (by omega) (by omega), g (48 + p) (by omega) (by omega)]
    exact a4 p u v
  · rw [g7] at b2 b4
    rw [g8 p b1 (by omega), g8 q b3 (by omega)] at b5
    by_cases z : p = r 7
    · rw [if_pos z] at b5
      by_cases z2 : q = r 7
      · omega
      · rw [if_neg z2] at b5
        exact absurd b5.symm (ho q b3 (by omega))
    · rw [if_neg z] at b5
      by_cases z2 : q = r 7
      · rw [if_pos z2] at b5
        exact absurd b5 (ho p b1 (by omega))
      · rw [if_neg z2] at b5
        exact a13 p q b1 (by omega) b3 (by omega) b5
theorem s_yAd {E : EN} (hE : Ep E) {k : Nat} {mem : Mm} {Q : Mm → Prop} {y fam c sm Y : Int} {r : Rw} (hy : isYd y) (hR : yR mem y r) (hok : rOk Y r) (h7 : r 7 < 10) (hf : R32 fam) (hc : R32 c) (hs : R32 sm) (hQ : ∀ m2 : Mm, (∀ o i, ¬ (y + 4 ≤ o ∧ o ≤ y + 7) → ¬ (o = y ∧ i = 10) → m2 o i = mem o i) → yR m2 y (rAd r fam c sm) → Q m2) : CV E mX10_add k mem [aR y, aI fam, aI c, aI sm] Q := by
  obtain ⟨a, b, d, e⟩ := hR
  have h0 := hok.1
  refine eX10_add hf hc hs (rX10_add_0 hE hy ⟨fun z => absurd z (by omega), fun _ => ?_⟩)
  rw [a]
  refine ⟨⟨h0, h7⟩, ⟨by omega, by omega⟩, hQ _ (fun o i u v => ?_) ⟨?_, fun i u v => ?_, fun i u v => ?_, fun i u v => ?_⟩⟩
  · rw [aUp_at, if_neg v, aUp_rn (by omega), aUp_rn (by omega), aUp_rn (by omega), aUp_rn (by omega)]
  · rw [aUp_re, rAd_at, if_pos rfl]
  · rw [rAd_at, rAd_at, rAd_at, if_neg (by omega), if_neg (by omega), if_neg (by omega), if_neg (by omega), if_neg (by omega), if_neg (by omega), if_neg (by omega), if_neg (by omega), if_neg (by omega), if_neg (by omega), if_neg (by omega), if_neg (by omega), if_neg (by omega), if_neg (by omega), if_neg (by omega)]
    rw [aUp_rn (by omega), aUp_rn (by omega), aUp_rn (by omega), aUp_rn (by omega), aUp_rn (by omega), aUp_rn (by omega), aUp_rn (by omega), aUp_rn (by omega), aUp_rn (by omega), aUp_rn (by omega), aUp_rn (by omega), aUp_rn (by omega), aUp_rn (by omega), aUp_rn (by omega), aUp_rn (by omega)]
    exact b i u v
  · obtain ⟨d1, d2, d3, d4⟩ := d i u v
    refine ⟨?_, ?_, ?_, ?_⟩
    · rw [rAd_at, if_neg (by omega), if_neg (by omega), if_neg (by omega), if_neg (by omega), aUp_rn (by omega), aUp_rn (by omega), aUp_rn (by omega), aUp_rn (by omega), aUp_at, d1]
      by_cases z : i = r 7
      · rw [if_pos ⟨rfl, z⟩, if_pos (by omega)]
      · rw [if_neg (fun q => z q.2), if_neg (by omega)]
    · rw [rAd_at, if_neg (by omega), if_neg (by omega), if_neg (by omega), aUp_rn (by omega), aUp_rn (by omega), aUp_rn (by omega), aUp_at, aUp_rn (by omega), d2]
      by_cases z : i = r 7
      · rw [if_pos ⟨rfl, z⟩, if_pos (by omega)]
      · rw [if_neg (fun q => z q.2), if_neg (by omega), if_neg (by omega)]
    · rw [rAd_at, if_neg (by omega), if_neg (by omega), aUp_rn (by omega), aUp_rn (by omega), aUp_at, aUp_rn (by omega), aUp_rn (by omega), d3]
      by_cases z : i = r 7
      · rw [if_pos ⟨rfl, z⟩, if_pos (by omega)]
      · rw [if_neg (fun q => z q.2), if_neg (by omega), if_neg (by omega), if_neg (by omega)]
    · rw [rAd_at, if_neg (by omega), aUp_rn (by omega), aUp_at, aUp_rn (by omega), aUp_rn (by omega), aUp_rn (by omega), d4]
      by_cases z : i = r 7
      · rw [if_pos ⟨rfl, z⟩, if_pos (by omega)]
      · rw [if_neg (fun q => z q.2), if_neg (by omega), if_neg (by omega), if_neg (by omega), if_neg (by omega)]
  · rw [rAd_at, if_neg (by omega), if_neg (by omega), if_neg (by omega), if_neg (by omega), if_neg (by omega), aUp_rn (by omega), aUp_rn (by omega), aUp_rn (by omega), aUp_rn (by omega), aUp_rn (by omega)]
    exact e i u v
theorem m_lay {E : EN} (hE : Ep E) {k : Nat} {mem : Mm} {Q : Mm → Prop} {fam c sm : Int} (h0 : 0 ≤ mem 605 7) (h1 : mem 605 7 < 10) (hf : R32 fam) (hc : R32 c) (hs : R32 sm) (hQ : ∀ m2 : Mm, (∀ o i, o ≠ 605 → m2 o i = mem o i) → m2 605 = rAd (mem 605) fam c sm → Q m2) : CV E mX12_lay k mem [aR 603, aI fam, aI c, aI sm] Q := by
  have e : (aUp (aUp (aUp (aUp mem 605 (8 + (mem 605 7)) c) 605 (18 + (mem 605 7)) fam) 605 (28 + (mem 605 7)) sm) 605 (38 + (mem 605 7)) 0) 605 7 = mem 605 7 := by
    rw [aUp_ri (by omega), aUp_ri (by omega), aUp_ri (by omega), aUp_ri (by omega)]
  refine eX12_lay hf hc hs (rX12_lay_0 hE ⟨⟨by omega, by omega⟩, ⟨by omega, by omega⟩, ⟨by omega, by omega⟩, ⟨by omega, by omega⟩, ⟨by omega, by omega⟩, ⟨by omega, by omega⟩, ⟨by omega, by omega⟩, ⟨by omega, by omega⟩, by rw [e]; exact ⟨by omega, by omega⟩, ?_⟩)
  rw [e]
  refine hQ _ (fun o i u => by rw [aUp_rn u, aUp_rn u, aUp_rn u, aUp_rn u, aUp_rn u]) ?_
  rw [aUp_rUp, aUp_rUp, aUp_rUp, aUp_rUp, aUp_rUp]
  rfl
theorem pYd_add {E : EN} (hE : Ep E) {k : Nat} {m0 mem : Mm} {Q : Mm → Prop} {L : LW} {fam c Y : Int} {r : Rw} (hP : pYd m0 mem L r) (hok : rOk Y r) (h7 : r 7 < 10) (hf : R32 fam) (hc : R32 c) (hQ : ∀ m2 : Mm, pYd m0 m2 L (rAd r fam c 0) → (∀ o i, (o < 553 ∨ 562 < o) → m2 o i = mem o i) → Q m2) : CV E mX10_add k mem [aR 553, aI fam, aI c, aI 0] Q :=
  s_yAd hE isYd553 hP.2.1 hok h7 hf hc (by decide) fun m2 a b => hQ m2 ⟨fun o i u => (a o i (fun z => u (by unfold scr; omega)) (fun z => u (by unfold scr; omega))).trans (hP.1 o i u), b, yL_q isYd553 hP.2.2 (a 553 9 (by omega) (by omega)) fun o i u v => a o i (by omega) (by omega)⟩ fun o i u => a o i (by omega) (by omega)
theorem pMd_lay {E : EN} (hE : Ep E) {k : Nat} {m0 mem : Mm} {Q : Mm → Prop} {L : LW} {fam c Y : Int} {r : Rw} (hP : pMd m0 mem L r) (hok : rOk Y r) (h7 : r 7 < 10) (hf : R32 fam) (hc : R32 c) (hQ : ∀ m2 : Mm, pMd m0 m2 L (rAd r fam c 0) → (∀ o i, o ≠ 605 → m2 o i = mem o i) → Q m2) : CV E mX12_lay k mem [aR 603, aI fam, aI c, aI 0] Q := by
  obtain ⟨⟨p1, p2, p3⟩, rfl, p5, p6⟩ := hP
  have h0 := hok.1
  refine m_lay hE h0 h7 hf hc (by decide) fun m2 a b => ?_
  have g : ∀ i, i < 7 ∨ 48 ≤ i → m2 605 i = mem 605 i := fun i q => by
    rw [b, rAd_at, if_neg (by omega), if_neg (by omega), if_neg (by omega), if_neg (by omega), if_neg (by omega)]
  exact hQ m2 ⟨⟨fun o i u v => (a o i v).trans (p1 o i u v), fun i u => (g i (by omega)).trans (p2 i u), fun i u v => (a 608 _ (by decide)).trans (p3 i u v)⟩, b, mL_fr (g 2 (by omega)) (fun i u => g i (by omega)) p5, (a 603 20 (by decide)).trans p6⟩ a
/-- the first year in which p and q lie beside one another, from x on, n years more; -1 -/
def rBy (L : LW) (p q : Int) : Nat → Int → Rw → Int
  | 0, x, r => if rBs r p q then x else -1
  | n + 1, x, r => if rBs r p q then x else rBy L p q n (x + 1) (rTn L r).1
theorem rBy_le {L : LW} {p q : Int} : ∀ (n : Nat) (x : Int) (r : Rw), rBy L p q n x r = -1 ∨ (x ≤ rBy L p q n x r ∧ rBy L p q n x r ≤ x + n) := by
  intro n
  induction n with
  | zero => intro x r; unfold rBy; split <;> omega
  | succ n ih =>
    intro x r
    unfold rBy
    split
    · omega
    · have := ih (x + 1) (rTn L r).1
      omega
theorem s_by_l {E : EN} (hE : Ep E) {m0 : Mm} {Q : Int → Mm → Prop} {L : LW} {p q N : Int} (hp : 0 ≤ p) (hp2 : p < 10) (hq : 0 ≤ q) (hq2 : q < 10) : ∀ (n : Nat) (mem : Mm) (x Y : Int) (r : Rw), pYd m0 mem L r → rOk Y r → Y + n ≤ 5000 → 0 ≤ x → x + n = N → N < 1000 → (∀ i, mem 552 i = m0 552 i) → (∀ m1, rEq m0 m1 → (∀ i, m1 552 i = m0 552 i) → Q (rBy L p q n x r) m1) → VM E mX5_yearBeside 1197 mem 28 [(0, aR 552), (2, aI p), (5, aI N), (6, aI q), (7, aI x)] [] (retI Q) := by
  intro n
  induction n with
  | zero =>
    intro mem x Y r hP hok hY h0 h1 hN hf hQ
    unfold rBy at hQ
    have hQ := hQ mem hP.1 hf
    refine rX5_yearBeside_28 (k := 1196) (p0 := 2) (p2 := 0) (p3 := 0) hE isYd2 ⟨fun d => absurd d (by omega), fun _ _ _ => s_bs (k := 1195) hE isYd553 hP.2.1 hok hp hp2 hq hq2 ?_⟩
    cases z : rBs r p q with
    | true =>
      rw [z, if_pos rfl] at hQ
      exact ⟨fun c => absurd c (by decide), fun _ => hQ⟩
    | false =>
      rw [z, if_neg (by decide)] at hQ
      exact ⟨fun _ => ⟨fun _ => ⟨⟨by omega, by omega⟩, rX5_yearBeside_28 (k := 1196) (p0 := 2) (p2 := 0) (p3 := 0) hE isYd2 ⟨fun _ => hQ, fun d => absurd d (by omega)⟩⟩, fun d => absurd d (by omega)⟩, fun c => absurd rfl c⟩
  | succ n ih =>
    intro mem x Y r hP hok hY h0 h1 hN hf hQ
    unfold rBy at hQ
    refine rX5_yearBeside_28 (k := 1196) (p0 := 2) (p2 := 0) (p3 := 0) hE isYd2 ⟨fun d => absurd d (by omega), fun _ _ _ => s_bs (k := 1195) hE isYd553 hP.2.1 hok hp hp2 hq hq2 ?_⟩
    cases z : rBs r p q with
    | true =>
      rw [z, if_pos rfl] at hQ
      exact ⟨fun c => absurd c (by decide), fun _ => hQ mem hP.1 hf⟩
    | false =>
      rw [z, if_neg (by decide)] at hQ
      exact ⟨fun _ => ⟨fun d => absurd d (by omega), fun _ => pYd_turn (k := 1192) hE hP (by omega) hok fun m2 a _ b => ⟨⟨by omega, by omega⟩, ih m2 (x + 1) (Y + 1) _ a (rTn_ok hok).1 (by omega) (by omega) (by omega) hN (fun i => (b 552 i (by omega) (by unfold isTx; omega)).trans (hf i)) hQ⟩⟩, fun c => absurd rfl c⟩
/-- the cell where to meet: over the cells -/
def rMt (L : LW) (r : Rw) (p fam : Int) (N : Nat) : Nat → Int → I2 → I2
  | 0, _, b => b
  | n + 1, c, b => rMt L r p fam N n (c + 1) (if rLi L r fam c ∧ ¬ rBy L p (r 7) N 0 (rAd r fam c 0) = -1 ∧ rBy L p (r 7) N 0 (rAd r fam c 0) < b.1 then (rBy L p (r 7) N 0 (rAd r fam c 0), c) else b)
theorem rLi_oc {L : LW} {r : Rw} {f c : Int} (h : rLi L r f c = true) : rOc r c = false := by
  unfold rLi rFr at h
  cases z : rOc r c with
  | false => rfl
  | true => rw [z] at h; simp at h
def rMtV (w : Int) (b : I2) : Int := if b.2 = -1 then -1 else if w = 0 then b.2 else b.1
theorem s_mt_l {E : EN} (hE : Ep E) {m0 : Mm} {Q : Int → Mm → Prop} {L : LW} {r : Rw} {p fam N : Int} (hR : yR m0 2 r) (hL : yL m0 2 L) (h29 : lw29 m0) (hok : rOk 999 r) (h7 : r 7 < 10) (hp : 0 ≤ p) (hp2 : p < r 7) (hf : 0 ≤ fam) (hf2 : fam < 6) (hN : 0 ≤ N) (hN2 : N ≤ 60)
    (hZ : ∀ (b : I2) (m2 : Mm), b = rMt L r p fam N.toNat 32 0 (100000000, -1) → rEq m0 m2 → (b.2 = -1 → Q 0 m2) ∧ (¬ b.2 = -1 → m2 552 7 = b.2 → m2 552 8 = b.1 → Q 1 m2)) : ∀ (n : Nat) (mem : Mm) (c : Int) (b : I2), rEq m0 mem → 0 ≤ c → c + n = 32 → rMt L r p fam N.toNat 32 0 (100000000, -1) = rMt L r p fam N.toNat n c b → ((mem 552 7 = -1 ∧ b = (100000000, -1)) ∨ (mem 552 7 = b.2 ∧ mem 552 8 = b.1 ∧ 0 ≤ b.2)) → VM E mX5_findMeet 1198 mem 19 [(0, aR 552), (1, aR 2), (2, aI p), (3, aI fam), (4, aI N), (5, aI c)] [] (retI Q) := by
  have h0 := hok.1
  intro n
  induction n with
  | zero =>
    intro mem c b q1 c0 c1 hb hx
    have hz := hZ b mem hb.symm q1
    refine rX5_findMeet_19 (k := 1197) hE isYd2 ⟨fun _ => ⟨fun u => ?_, fun u => ?_⟩, fun d => absurd d (by omega)⟩
    · rcases hx with ⟨x1, x2⟩ | ⟨x1, x2, x3⟩
      · exact hz.1 (by rw [x2])
      · omega
    · rcases hx with ⟨x1, x2⟩ | ⟨x1, x2, x3⟩
      · omega
      · exact hz.2 (by omega) x1 x2
  | succ n ih =>
    intro mem c b q1 c0 c1 hb hx
    have hR1 : yR mem 2 r := rEk_yR (rEq_k q1) (Or.inl rfl) hR
    obtain ⟨hL1, h291⟩ := yL2_rEk h29 hL (rEq_k q1)
    rw [show rMt L r p fam N.toNat (n + 1) c b = rMt L r p fam N.toNat n (c + 1) (if rLi L r fam c ∧ ¬ rBy L p (r 7) N.toNat 0 (rAd r fam c 0) = -1 ∧ rBy L p (r 7) N.toNat 0 (rAd r fam c 0) < b.1 then (rBy L p (r 7) N.toNat 0 (rAd r fam c 0), c) else b) from rfl] at hb
    refine rX5_findMeet_19 (k := 1197) hE isYd2 ⟨fun d => absurd d (by omega), fun _ _ _ => s_yLi (k := 1193) hE isYd2 hR1 hL1 (by decide) hok hf hf2 c0 (by omega) fun m1 z1 => ?_⟩
    have q2 : rEq mem m1 := qFr2_rEq z1
    have e552 : ∀ i, m1 552 i = mem 552 i := fun i => z1 552 i (by decide) (by unfold isTx; omega)
    cases hl : rLi L r fam c with
    | false =>
      rw [hl, if_neg (fun u => absurd u.1 (by decide))] at hb
      refine ⟨fun _ => ⟨⟨by omega, by omega⟩, ih m1 (c + 1) b (rEq_tr q1 q2) (by omega) (by omega) hb ?_⟩, fun u => absurd rfl u⟩
      rw [e552, e552]; exact hx
    | true =>
      rw [hl] at hb
      have hR2 : yR m1 2 r := rEk_yR (rEq_k q2) (Or.inl rfl) hR1
      obtain ⟨hL2, -⟩ := yL2_rEk h291 hL1 (rEq_k q2)
      have hok2 : rOk 999 (rAd r fam c 0) := rAd_ok hok h7 hf hf2 c0 (by omega) (by decide) (by decide) (rLi_oc hl)
      refine ⟨fun u => absurd u (by decide), fun _ rp _ _ rN => eX5_yearBeside (k := 1196) rp ⟨by omega, by omega⟩ ⟨by omega, by omega⟩ rN (rX5_yearBeside_0 hE isYd2 (s_begin (k := 1194) hE hR2 hL2 fun m2 cP cf rf rc => pYd_add hE cP hok h7 rf rc fun m3 aP af => ?_))⟩
      have e10 : m2 553 10 = r 7 := cP.2.1.1
      rw [e10]
      have hle := rBy_le (L := L) (p := p) (q := r 7) N.toNat 0 (rAd r fam c 0)
      refine s_by_l hE (m0 := m1) hp (by omega) h0 h7 N.toNat m3 0 999 _ aP hok2 (by omega) (by decide) (by omega) (by omega) (fun i => (af 552 i (by omega)).trans (cf 552 i (by omega))) fun m4 w1 w2 => ?_
      have e7 : m4 552 7 = mem 552 7 := (w2 7).trans (e552 7)
      have e8 : m4 552 8 = mem 552 8 := (w2 8).trans (e552 8)
      have q4 : rEq m0 m4 := rEq_tr q1 (rEq_tr q2 w1)
      have up : rBy L p (r 7) N.toNat 0 (rAd r fam c 0) ≠ -1 → rBy L p (r 7) N.toNat 0 (rAd r fam c 0) < b.1 → VM E mX5_findMeet 1198 (aUp (aUp m4 552 7 c) 552 8 (rBy L p (r 7) N.toNat 0 (rAd r fam c 0))) 19 [(0, aR 552), (1, aR 2), (2, aI p), (3, aI fam), (4, aI N), (5, aI (c + 1))] [] (retI Q) := by
        intro u v
        rw [if_pos ⟨rfl, u, v⟩] at hb
        refine ih _ (c + 1) _ (fun o i q => ?_) (by omega) (by omega) hb (Or.inr ⟨(aUp_ri (by decide)).trans aUp_re, aUp_re, c0⟩)
        rw [aUp_rn (fun z => q (by unfold scr; omega)), aUp_rn (fun z => q (by unfold scr; omega))]; exact q4 o i q
      have st : ¬ (rBy L p (r 7) N.toNat 0 (rAd r fam c 0) ≠ -1 ∧ rBy L p (r 7) N.toNat 0 (rAd r fam c 0) < b.1) → VM E mX5_findMeet 1198 m4 19 [(0, aR 552), (1, aR 2), (2, aI p), (3, aI fam), (4, aI N), (5, aI (c + 1))] [] (retI Q) := by
        intro u
        rw [if_neg (fun v => u v.2)] at hb
        refine ih m4 (c + 1) b q4 (by omega) (by omega) hb ?_
        rw [e7, e8]; exact hx
      refine ⟨fun u => ⟨⟨by omega, by omega⟩, st fun v => v.1 u⟩, fun u => ⟨fun v => ⟨⟨by omega, by omega⟩, up u ?_⟩, fun v => ⟨fun w => ⟨⟨by omega, by omega⟩, st ?_⟩, fun w => ⟨⟨by omega, by omega⟩, up u ?_⟩⟩⟩⟩
      · rw [e7] at v
        rcases hx with ⟨x1, x2⟩ | ⟨x1, x2, x3⟩
        · rw [x2]; dsimp only; omega
        · omega
      · rw [e7] at v
        rw [e8] at w
        rcases hx with ⟨x1, x2⟩ | ⟨x1, x2, x3⟩
        · exact absurd x1 v
        · intro z; omega
      · rw [e7] at v
        rw [e8] at w
        rcases hx with ⟨x1, x2⟩ | ⟨x1, x2, x3⟩
        · exact absurd x1 v
        · omega
theorem m_by_l {E : EN} (hE : Ep E) {m0 : Mm} {Q : Int → Mm → Prop} {L : LW} {p q fam w x5 x6 c N : Int} (hp : 0 ≤ p) (hp2 : p < 10) (hq : 0 ≤ q) (hq2 : q < 10) : ∀ (n : Nat) (mem : Mm) (x Y : Int) (r : Rw), pMd m0 mem L r → r 7 = q + 1 → rOk Y r → Y + n ≤ 5000 → 0 ≤ x → x + n = N → N < 1000 → (∀ m1 r1 z, pMd m0 m1 L r1 → (rBy L p q n x r = -1 → N < z) → (¬ rBy L p q n x r = -1 → z = rBy L p q n x r ∧ z ≤ N) → VM E mX12_meet 1199 m1 141 [(0, aR 603), (1, aI p), (2, aI fam), (3, aI N), (4, aI w), (5, aI x5), (6, aI x6), (7, aI c), (8, aI z)] [] (retI Q)) → VM E mX12_meet 1199 mem 107 [(0, aR 603), (1, aI p), (2, aI fam), (3, aI N), (4, aI w), (5, aI x5), (6, aI x6), (7, aI c), (8, aI x)] [] (retI Q) := by
  intro n
  induction n with
  | zero =>
    intro mem x Y r hP h7 hok hY h0 h1 hN hQ
    unfold rBy at hQ
    have e5 := hP.2.1
    refine rX12_meet_107 (k := 1198) hE ⟨fun d => absurd d (by omega), fun _ => ⟨by rw [e5]; exact ⟨by omega, by omega⟩, fun _ _ => ?_⟩⟩
    rw [e5, h7, show q + 1 - 1 = q by omega]
    refine m_bs hE (by rw [e5]; exact hok) hp hp2 hq hq2 ?_
    rw [e5]
    cases z : rBs r p q with
    | true =>
      rw [z] at hQ
      simp only [if_pos] at hQ
      exact ⟨fun _ => hQ mem r x hP (fun u => by omega) (fun _ => ⟨rfl, by omega⟩), fun c => absurd c (by decide)⟩
    | false =>
      rw [z] at hQ
      refine ⟨fun c => absurd rfl c, fun _ => pMd_turn (k := 1191) hE hP (by omega) hok fun m2 a _ _ => ⟨⟨by omega, by omega⟩, rX12_meet_107 (k := 1198) hE ⟨fun _ => hQ m2 _ _ a (fun _ => by omega) (fun u => absurd rfl u), fun d => absurd d (by omega)⟩⟩⟩
  | succ n ih =>
    intro mem x Y r hP h7 hok hY h0 h1 hN hQ
    unfold rBy at hQ
    have e5 := hP.2.1
    refine rX12_meet_107 (k := 1198) hE ⟨fun d => absurd d (by omega), fun _ => ⟨by rw [e5]; exact ⟨by omega, by omega⟩, fun _ _ => ?_⟩⟩
    rw [e5, h7, show q + 1 - 1 = q by omega]
    refine m_bs hE (by rw [e5]; exact hok) hp hp2 hq hq2 ?_
    rw [e5]
    cases z : rBs r p q with
    | true =>
      rw [z] at hQ
      exact ⟨fun _ => hQ mem r x hP (fun u => by rw [if_pos rfl] at u; omega) (fun _ => ⟨by rw [if_pos rfl], by omega⟩), fun c => absurd c (by decide)⟩
    | false =>
      rw [z, if_neg (by decide)] at hQ
      exact ⟨fun c => absurd rfl c, fun _ => pMd_turn (k := 1191) hE hP (by omega) hok fun m2 a _ _ => ⟨⟨by omega, by omega⟩, ih m2 (x + 1) (Y + 1) _ a (by rw [rTn_7 hok]; exact h7) (rTn_ok hok).1 (by omega) (by omega) (by omega) hN hQ⟩⟩
theorem m_mt_l {E : EN} (hE : Ep E) {m0 : Mm} {Q : Int → Mm → Prop} {L : LW} {r : Rw} {p fam N w : Int} (h5 : m0 605 = r) (hL : mL m0 L) (h20 : m0 603 20 = 0) (hok : rOk 999 r) (h7 : r 7 < 10) (hp : 0 ≤ p) (hp2 : p < r 7) (hf : 0 ≤ fam) (hf2 : fam < 6) (hN : 0 ≤ N) (hN2 : N ≤ 60)
    (hZ : ∀ m2 : Mm, rEq m0 m2 → Q (rMtV w (rMt L r p fam N.toNat 32 0 (100000000, -1))) m2) : ∀ (n : Nat) (mem : Mm) (c : Int) (b : I2), rEq m0 mem → 0 ≤ c → c + n = 32 → rMt L r p fam N.toNat 32 0 (100000000, -1) = rMt L r p fam N.toNat n c b → b.1 ≤ 100000000 → VM E mX12_meet 1199 mem 73 [(0, aR 603), (1, aI p), (2, aI fam), (3, aI N), (4, aI w), (5, aI b.1), (6, aI b.2), (7, aI c)] [] (retI Q) := by
  have h0 := hok.1
  intro n
  induction n with
  | zero =>
    intro mem c b q1 c0 c1 hb hb1
    have hz := hZ mem q1
    rw [hb] at hz
    unfold rMtV rMt at hz
    refine rX12_meet_73 (k := 1198) hE ⟨fun _ => ⟨fun u => rX12_meet_208 (k := 1198) (p0 := 0) (p1 := 0) (p2 := 0) (p3 := 0) hE ?_, fun u => ⟨fun v => ?_, fun v => rX12_meet_208 (k := 1198) (p0 := 0) (p1 := 0) (p2 := 0) (p3 := 0) hE ?_⟩⟩, fun d => absurd d (by omega)⟩
    · rw [if_pos u] at hz; rw [u]; exact hz
    · rw [if_neg u, if_neg v] at hz; exact hz
    · rw [if_neg u, if_pos v] at hz; exact hz
  | succ n ih =>
    intro mem c b q1 c0 c1 hb hb1
    have e5 : mem 605 = r := (rEq_605 q1).trans h5
    have hL1 : mL mem L := mL_eq (rEq_605 q1) hL
    have h201 : mem 603 20 = 0 := (rEk_sm (rEq_k q1) (by omega)).trans h20
    rw [show rMt L r p fam N.toNat (n + 1) c b = rMt L r p fam N.toNat n (c + 1) (if rLi L r fam c ∧ ¬ rBy L p (r 7) N.toNat 0 (rAd r fam c 0) = -1 ∧ rBy L p (r 7) N.toNat 0 (rAd r fam c 0) < b.1 then (rBy L p (r 7) N.toNat 0 (rAd r fam c 0), c) else b) from rfl] at hb
    have go : ∀ (m2 : Mm) (b2 : I2), b2 = (if rLi L r fam c ∧ ¬ rBy L p (r 7) N.toNat 0 (rAd r fam c 0) = -1 ∧ rBy L p (r 7) N.toNat 0 (rAd r fam c 0) < b.1 then (rBy L p (r 7) N.toNat 0 (rAd r fam c 0), c) else b) → rEq m0 m2 → VM E mX12_meet 1199 m2 191 [(0, aR 603), (1, aI p), (2, aI fam), (3, aI N), (4, aI w), (5, aI b2.1), (6, aI b2.2), (7, aI c)] [] (retI Q) := by
      intro m2 b2 u v
      subst u
      refine rX12_meet_191 (k := 1198) hE ⟨⟨by omega, by omega⟩, ih m2 (c + 1) _ v (by omega) (by omega) hb ?_⟩
      split
      · rename_i z
        dsimp only
        omega
      · exact hb1
    refine rX12_meet_73 (k := 1198) hE ⟨fun d => absurd d (by omega), fun _ _ _ => m_canLie (k := 1192) (Y := 999) hE h201 hL1 (by decide) (by rw [e5]; exact hok) hf hf2 c0 (by omega) fun m1 z1 => ?_⟩
    rw [e5]
    have q2 : rEq mem m1 := gFr_rEq z1
    have e51 : m1 605 = r := (gFr_605 z1).trans e5
    cases hl : rLi L r fam c with
    | false => exact ⟨fun _ => go m1 b (by rw [hl, if_neg (fun u => absurd u.1 (by decide))]) (rEq_tr q1 q2), fun u => absurd rfl u⟩
    | true =>
      refine ⟨fun u => absurd u (by decide), fun _ => pMd_keep hE (m0 := m1) rEq_rf (mL_eq (gFr_605 z1) hL1) ((rEk_sm (rEq_k q2) (by omega)).trans h201) fun m2 cP _ rf rc => ?_⟩
      rw [e51] at cP
      have hok2 : rOk 999 (rAd r fam c 0) := rAd_ok hok h7 hf hf2 c0 (by omega) (by decide) (by decide) (rLi_oc hl)
      have hle := rBy_le (L := L) (p := p) (q := r 7) N.toNat 0 (rAd r fam c 0)
      refine pMd_lay hE cP hok h7 rf rc fun m3 aP _ => m_by_l hE (q := r 7) hp (by omega) h0 h7 N.toNat m3 0 999 _ aP (by rw [rAd_at, if_pos rfl]) hok2 (by omega) (by decide) (by omega) (by omega) fun m4 r4 z w1 w2 w3 => ?_
      refine rX12_meet_141 (k := 1198) hE (m_putP hE w1.1 fun m5 y1 _ => ?_)
      have q5 : rEq m0 m5 := rEq_tr q1 (rEq_tr q2 y1)
      have keep : ¬ (¬ rBy L p (r 7) N.toNat 0 (rAd r fam c 0) = -1 ∧ rBy L p (r 7) N.toNat 0 (rAd r fam c 0) < b.1) → VM E mX12_meet 1199 m5 191 [(0, aR 603), (1, aI p), (2, aI fam), (3, aI N), (4, aI w), (5, aI b.1), (6, aI b.2), (7, aI c)] [] (retI Q) := fun u => go m5 b (by rw [if_neg (fun v => u v.2)]) q5
      refine ⟨fun u => ?_, fun u => ⟨fun v => ?_, fun v => ⟨fun d => absurd d (by omega), fun _ => ⟨fun d => absurd d (by omega), fun _ => ?_⟩⟩⟩⟩
      · have : rBy L p (r 7) N.toNat 0 (rAd r fam c 0) = -1 := Classical.byContradiction fun q => by have := (w3 q).2; omega
        exact rX12_meet_165 (k := 1198) hE ⟨fun _ => rX12_meet_187 (k := 1198) hE (keep fun q => q.1 this), fun d => absurd d (by omega)⟩
      · exact rX12_meet_165 (k := 1198) hE ⟨fun d => absurd d (by omega), fun _ => ⟨fun _ => rX12_meet_187 (k := 1198) hE (keep fun q => by have := (w3 q.1).1; omega), fun d => absurd d (by omega)⟩⟩
      · have hne : ¬ rBy L p (r 7) N.toNat 0 (rAd r fam c 0) = -1 := fun q => by have := w2 q; omega
        have ez := (w3 hne).1
        have := go m5 (z, c) (by rw [if_pos ⟨hl, hne, by omega⟩, ez]) q5
        exact this
theorem st_meet {E : EN} (hE : Ep E) : stI E 1199 (iAll jC) mX11_meet mX12_meet 4 := by
  refine obs_pair fun mem av hl hr hC => ?_
  obtain ⟨p, f, n, w, rfl⟩ := four_arg hl
  have hp : R32 p := hr p (by simp)
  have hf : R32 f := hr f (by simp)
  have hn : R32 n := hr n (by simp)
  have hw : R32 w := hr w (by simp)
  obtain ⟨L, hy, hm⟩ := jC_law hC
  have hF := hC.2.2.1
  have h7 := hF.1.2.1
  refine ⟨if (0 ≤ p ∧ p < mem 605 7) ∧ (0 ≤ f ∧ f < 6) ∧ (0 ≤ n ∧ n ≤ 60) ∧ (w = 0 ∨ w = 1) ∧ mem 605 7 < 10 then rMtV w (rMt L (mem 605) p f n.toNat 32 0 (100000000, -1)) else -1, fun Q hQ => ?_, fun m1 Q q1 hC1 hQ => ?_⟩
  · refine eX11_meet (k := 1198) hp hf hn hw (rX11_meet_0 hE fun _ => s_has2 hE hC hp (fun a b => ⟨fun d => absurd d (by decide), fun _ _ => s_isFamily hE hf (fun a2 b2 => ⟨fun d => absurd d (by decide), fun _ _ => s_isWithin hE hn (by decide) (by decide) (fun a3 b3 => ⟨fun d => absurd d (by decide), fun _ _ => s_isYesNo hE hw (fun a4 => ⟨fun _ _ _ _ => ?_, fun d => absurd d (by decide)⟩) (fun a4 => ⟨fun d => absurd rfl d, fun _ => ?_⟩)⟩) (fun a3 => ⟨fun _ => ?_, fun d => absurd rfl d⟩)⟩) (fun a2 => ⟨fun _ => ?_, fun d => absurd rfl d⟩)⟩) (fun a => ⟨fun _ => ?_, fun d => absurd rfl d⟩))
    · have e10 : (aUp mem 552 7 (-1)) 2 10 = mem 605 7 := (aUp_rn (by decide)).trans hF.2.1.1
      have hq : rEq mem (aUp mem 552 7 (-1)) := fun o i u => aUp_rn fun z => u (by unfold scr; omega)
      refine eX5_findMeet (k := 1197) hp hf hn (rX5_findMeet_0 hE isYd2 ⟨fun c => ?_, fun c => ?_⟩)
      · rw [e10] at c
        rw [if_pos ⟨⟨a, b⟩, ⟨a2, b2⟩, ⟨a3, b3⟩, a4, c⟩] at hQ
        refine s_mt_l hE (m0 := aUp mem 552 7 (-1)) (L := L) (r := mem 605) (rEk_yR (rEq_k hq) (Or.inl rfl) hF.2.1) (yL2_rEk (jC_29 hC) hy (rEq_k hq)).1 (yL2_rEk (jC_29 hC) hy (rEq_k hq)).2 hF.1 c a b a2 b2 a3 b3 (fun bb m3 e1 e2 => ?_) 32 _ 0 (100000000, -1) rEq_rf (by decide) (by decide) rfl (Or.inl ⟨aUp_re, rfl⟩)
        have hQ := hQ m3 (rEq_tr hq e2)
        rw [← e1] at hQ
        unfold rMtV at hQ
        refine ⟨fun u => ?_, fun u v1 v2 => ?_⟩
        · rw [if_pos u] at hQ
          exact ⟨fun d => absurd rfl d, fun _ => hQ⟩
        · rw [if_neg u] at hQ
          refine ⟨fun _ => ⟨fun d => ?_, fun d => ?_⟩, fun d => absurd d (by decide)⟩
          · rw [if_neg d] at hQ; rw [v2]; exact hQ
          · rw [if_pos d] at hQ; rw [v1]; exact hQ
      · rw [e10] at c
        rw [if_neg (by omega)] at hQ
        have hQ := hQ _ hq
        exact ⟨fun d => absurd rfl d, fun _ => hQ⟩
    · rw [if_neg (by omega)] at hQ; exact hQ mem rEq_rf
    · rw [if_neg (by omega)] at hQ; exact hQ mem rEq_rf
    · rw [if_neg (by omega)] at hQ; exact hQ mem rEq_rf
    · rw [if_neg (by omega)] at hQ; exact hQ mem rEq_rf
  · obtain ⟨hC2, e, hL, h20, hth⟩ := thr_all hm q1 hC1
    have no : ¬ ((0 ≤ p ∧ p < mem 605 7) ∧ (0 ≤ f ∧ f < 6) ∧ (0 ≤ n ∧ n ≤ 60) ∧ (w = 0 ∨ w = 1) ∧ mem 605 7 < 10) → VM E mX12_meet 1199 (aUp m1 603 0 0) 60 [] [] (retI Q) := by
      intro z
      rw [if_neg z] at hQ
      exact rX12_meet_60 (k := 1198) (p0 := 0) (p1 := 0) (p2 := 0) (p3 := 0) hE (hQ _ hth)
    refine eX12_meet (k := 1198) hp hf hn hw (rX12_meet_0 hE fun _ => m_isP2 (k := 1197) hE hC2 hp (fun a b => ⟨fun d => absurd d (by decide), fun _ r2 => s_in hE r2 (by decide) (by decide) (fun a2 b2 => ⟨fun d => absurd d (by decide), fun _ r => s_in hE r (by decide) (by decide) (fun a3 b3 => ⟨fun d => absurd d (by decide), fun _ r4 => s_in hE r4 (by decide) (by decide) (fun a4 b4 => ⟨fun d => absurd d (by decide), fun _ => ⟨fun c => ?_, fun c => no (by rw [e] at c; omega)⟩⟩) (fun a4 => ⟨fun _ => no (by omega), fun d => absurd rfl d⟩)⟩) (fun a3 => ⟨fun _ => no (by omega), fun d => absurd rfl d⟩)⟩) (fun a2 => ⟨fun _ => no (by omega), fun d => absurd rfl d⟩)⟩) (fun a => ⟨fun _ => no (by rw [e] at a; omega), fun d => absurd rfl d⟩))
    rw [e] at b c
    rw [if_pos ⟨⟨a, b⟩, ⟨a2, by omega⟩, ⟨a3, b3⟩, by omega, by omega⟩] at hQ
    exact m_mt_l hE (m0 := aUp m1 603 0 0) (L := L) (r := mem 605) e hL h20 hF.1 (by omega) a b a2 (by omega) a3 b3 (fun m2 z => hQ m2 (rEq_tr hth z)) 32 _ 0 (100000000, -1) rEq_rf (by decide) (by decide) rfl (by decide)
