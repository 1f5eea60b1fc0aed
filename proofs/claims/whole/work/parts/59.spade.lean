-- spade
def rSw (L : LW) (r : Rw) (n : Nat) (c : Int) (A : Int → Int) : Int → Int := fun w => A w + (if rOc (rYr L n (rAd r 0 c 0)) w then 1 else 0)
def spF (L : LW) (r : Rw) (n : Nat) : Nat → Int → Int × (Int → Int) → Int × (Int → Int)
  | 0, _, s => s
  | k + 1, c, s => spF L r n k (c + 1) (if rHd L r c then (s.1 + 1, rSw L r n c s.2) else s)
def spB (A : Int → Int) (al : Int) : Nat → Int → I2 → I2
  | 0, _, b => b
  | k + 1, c, b => spB A al k (c + 1) (if max (A c) (al - A c) < b.1 then (max (A c) (al - A c), c) else b)
/-- the counts of cells, in a row at o -/
def cvR (m : Mm) (o : Int) (A : Int → Int) : Prop := ∀ w, 0 ≤ w → w < 32 → m o w = A w
def cvB (A : Int → Int) (n : Int) : Prop := ∀ w, 0 ≤ w → w < 32 → 0 ≤ A w ∧ A w ≤ n
theorem rSw_b {L : LW} {r : Rw} {n : Nat} {c k : Int} {A : Int → Int} (h : cvB A k) : cvB (rSw L r n c A) (k + 1) := by
  intro w a b
  have := h w a b
  unfold rSw
  split <;> omega
theorem cvB_up {A : Int → Int} {n k : Int} (h : cvB A n) (hk : n ≤ k) : cvB A k := fun w a b => ⟨(h w a b).1, by have := (h w a b).2; omega⟩
theorem s_see_w {E : EN} (hE : Ep E) {m0 : Mm} {Q : Mm → Prop} {A : Int → Int} {r2 : Rw} {K : Int} (h10 : r2 7 ≤ 10) (hA : cvB A K) (hK : K ≤ 1000) (hQ : ∀ m2, rEq m0 m2 → (∀ w, 0 ≤ w → w < 32 → m2 574 w = A w + (if rOc r2 w then 1 else 0)) → (∀ i, m2 552 i = m0 552 i) → Q m2) : ∀ (n : Nat) (mem : Mm) (x : Int), 0 ≤ x → x + n = 32 → rEq m0 mem ∧ yR mem 553 r2 → (∀ i, mem 552 i = m0 552 i) → (∀ w, 0 ≤ w → w < 32 → mem 574 w = if w < x then A w + (if rOc r2 w then 1 else 0) else A w) → VM E mX5_seeBehind 1197 mem 40 [(0, aR 552), (4, aI x)] [] (retV Q) := by
  intro n
  induction n with
  | zero =>
    intro mem x h0 h1 hP h5 hw
    exact rX5_seeBehind_40 (k := 1196) (p0 := 2) (p1 := 0) (p2 := 0) hE isYd2 ⟨fun _ => hQ mem hP.1 (fun w a b => by rw [hw w a b, if_pos (by omega)]) h5, fun d => absurd d (by omega)⟩
  | succ n ih =>
    intro mem x h0 h1 hP h5 hw
    have ex := hw x h0 (by omega)
    rw [if_neg (by omega)] at ex
    have b := hA x h0 (by omega)
    have go : ∀ v : Int, v = (if rOc r2 x then 1 else 0) → VM E mX5_seeBehind 1197 (aUp mem 574 x (A x + v)) 40 [(0, aR 552), (4, aI (x + 1))] [] (retV Q) := by
      intro v hv
      refine ih _ (x + 1) (by omega) (by omega) ⟨fun o i u => ?_, yR_fr hP.2 (aUp_rn (by decide)) (fun o i u v => aUp_rn (by omega))⟩ (fun i => (aUp_rn (by decide)).trans (h5 i)) fun w c d => ?_
      · rw [aUp_rn (fun z => u (by unfold scr; omega))]; exact hP.1 o i u
      · by_cases e : w = x
        · rw [e, aUp_re, if_pos (show x < x + 1 by omega), hv]
        · rw [aUp_ri e, hw w c d]
          by_cases q : w < x
          · rw [if_pos q, if_pos (show w < x + 1 by omega)]
          · rw [if_neg q, if_neg (show ¬ w < x + 1 by omega)]
    refine rX5_seeBehind_40 (k := 1196) (p0 := 2) (p1 := 0) (p2 := 0) hE isYd2 ⟨fun d => absurd d (by omega), fun _ => ⟨⟨h0, by omega⟩, fun rx => s_yIn hE isYd553 hP.2 h10 rx fun z hz => ?_⟩⟩
    rw [ex]
    refine ⟨fun u => ⟨⟨by omega, by omega⟩, ⟨by omega, by omega⟩, go 1 ?_⟩, fun u => ⟨⟨by omega, by omega⟩, ⟨by omega, by omega⟩, go 0 ?_⟩⟩
    · rcases hz with ⟨z1, -⟩ | ⟨-, -, z3⟩
      · exact absurd z1 u
      · rw [z3]; rfl
    · rcases hz with ⟨-, z2⟩ | ⟨z1, -, -⟩
      · rw [z2]; rfl
      · omega
theorem s_see_y {E : EN} (hE : Ep E) {m0 : Mm} {Q : Mm → Prop} {L : LW} {N : Int} (hQ : ∀ m2 rr, pYd m0 m2 L rr → True) : ∀ (n : Nat) (mem : Mm) (x Y : Int) (r : Rw), pYd m0 mem L r → yFr 553 m0 mem → rOk Y r → Y + n ≤ 5000 → 0 ≤ x → x + n = N → N < 1000 → (∀ m2, pYd m0 m2 L (rYr L n r) → yFr 553 m0 m2 → rOk (Y + n) (rYr L n r) → VM E mX5_seeBehind 1197 m2 40 [(0, aR 552), (4, aI 0)] [] (retV Q)) → VM E mX5_seeBehind 1197 mem 18 [(0, aR 552), (3, aI N), (4, aI x)] [] (retV Q) := by
  intro n
  induction n with
  | zero =>
    intro mem x Y r hP hf hok hY h0 h1 hN hk
    exact rX5_seeBehind_18 (k := 1196) (p0 := 2) (p1 := 0) hE isYd2 ⟨fun _ => hk mem hP hf (by show rOk (Y + ((0 : Nat) : Int)) r; rw [Int.natCast_zero, Int.add_zero]; exact hok), fun d => absurd d (by omega)⟩
  | succ n ih =>
    intro mem x Y r hP hf hok hY h0 h1 hN hk
    refine rX5_seeBehind_18 (k := 1196) (p0 := 2) (p1 := 0) hE isYd2 ⟨fun d => absurd d (by omega), fun _ => pYd_turn (k := 1192) hE hP (by omega) hok fun m2 a _ b => ⟨⟨by omega, by omega⟩, ih m2 (x + 1) (Y + 1) _ a (yFr_tr hf b) (rTn_ok hok).1 (by omega) (by omega) (by omega) hN fun m3 c d e => hk m3 c d (by rw [show Y + ((n + 1 : Nat) : Int) = Y + 1 + (n : Int) by omega]; exact e)⟩⟩
theorem s_see {E : EN} (hE : Ep E) {mem : Mm} {Q : Mm → Prop} {L : LW} {r : Rw} {c N K : Int} {A : Int → Int} (hR : yR mem 2 r) (hL : yL mem 2 L) (hok : rOk 999 r) (h7 : r 7 < 10) (hc : 0 ≤ c) (hc2 : c < 32) (ho : rOc r c = false) (hN : 0 ≤ N) (hN2 : N ≤ 20) (hA : cvB A K) (hK : K ≤ 1000) (hw : cvR mem 574 A) (hQ : ∀ m2, rEq mem m2 → cvR m2 574 (rSw L r N.toNat c A) → (∀ i, m2 552 i = mem 552 i) → Q m2) : CV E mX5_seeBehind 1197 mem [aR 552, aR 2, aI c, aI N] Q := by
  have h0 := hok.1
  refine eX5_seeBehind (k := 1196) ⟨by omega, by omega⟩ ⟨by omega, by omega⟩ (rX5_seeBehind_0 hE isYd2 (s_begin (k := 1194) hE hR hL fun m2 cP cf rc => pYd_add hE cP hok h7 (by decide) rc fun m3 aP af => ?_))
  have hoka : rOk 999 (rAd r 0 c 0) := rAd_ok hok h7 (by decide) (by decide) hc hc2 (by decide) (by decide) ho
  refine s_see_y hE (fun _ _ _ => trivial) N.toNat m3 0 999 _ aP (fun o i u _ => (af o i u).trans (cf o i u)) hoka (by omega) (by decide) (by omega) (by omega) fun m4 a b d => ?_
  refine s_see_w hE (m0 := mem) (A := A) d.2.1 hA hK (fun m5 e1 e2 e3 => hQ m5 e1 e2 e3) 32 m4 0 (by decide) (by decide) ⟨a.1, a.2.1⟩ (fun i => b 552 i (by omega) (by unfold isTx; omega)) fun w u v => ?_
  rw [if_neg (by omega)]
  exact (b 574 w (by omega) (by unfold isTx; omega)).trans (hw w u v)
theorem s_spF {E : EN} (hE : Ep E) {m0 : Mm} {Q : Int → Mm → Prop} {L : LW} {r : Rw} {N : Int} (hR : yR m0 2 r) (hL : yL m0 2 L) (h29 : lw29 m0) (hf : fR m0 349 r) (hok : rOk 999 r) (h7 : r 7 < 10) (hN : 0 ≤ N) (hN2 : N ≤ 20) : ∀ (n : Nat) (mem : Mm) (c : Int) (s : Int × (Int → Int)), rEq m0 mem → 0 ≤ c → c + n = 32 → 0 ≤ s.1 → s.1 ≤ c → cvB s.2 s.1 → cvR mem 574 s.2 → (∀ m1, rEq m0 m1 → cvR m1 574 (spF L r N.toNat n c s).2 → cvB (spF L r N.toNat n c s).2 (spF L r N.toNat n c s).1 → 0 ≤ (spF L r N.toNat n c s).1 → (spF L r N.toNat n c s).1 ≤ 32 → VM E mX5_findSpade 1198 (aUp m1 552 7 (-1)) 82 [(0, aR 552), (4, aI (spF L r N.toNat n c s).1), (5, aI 0)] [] (retI Q)) → VM E mX5_findSpade 1198 mem 30 [(0, aR 552), (1, aR 2), (2, aR 349), (3, aI N), (4, aI s.1), (5, aI c)] [] (retI Q) := by
  intro n
  induction n with
  | zero =>
    intro mem c s q1 c0 c1 s0 s1 hb hw hk
    exact rX5_findSpade_30 (k := 1197) hE isYd2 (Or.inl rfl) ⟨fun _ => hk mem q1 hw hb s0 (by show s.1 ≤ 32; omega), fun d => absurd d (by omega)⟩
  | succ n ih =>
    intro mem c s q1 c0 c1 s0 s1 hb hw hk
    have hR1 : yR mem 2 r := rEk_yR (rEq_k q1) (Or.inl rfl) hR
    obtain ⟨hL1, h291⟩ := yL2_rEk h29 hL (rEq_k q1)
    have hfm : fR mem 349 r := fR_fr (fun o i u v => rEk_big (rEq_k q1) (by omega)) hf
    unfold spF at hk
    have no : ∀ m2, rEq m0 m2 → cvR m2 574 s.2 → rHd L r c = false → VM E mX5_findSpade 1198 m2 30 [(0, aR 552), (1, aR 2), (2, aR 349), (3, aI N), (4, aI s.1), (5, aI (c + 1))] [] (retI Q) := by
      intro m2 a b z
      rw [z] at hk
      exact ih m2 (c + 1) s a (by omega) (by omega) s0 (by omega) hb b hk
    have ce : rHd L r c = (rFr r c && rAl L (rLt r (r 0).toNat).toNat 0 (rAd r 0 c 0)) := rfl
    refine rX5_findSpade_30 (k := 1197) hE isYd2 (Or.inl rfl) ⟨fun d => absurd d (by omega), fun _ _ => s_yFr (k := 1196) hE isYd2 hR1 hok.2.1 c0 (by omega) ⟨fun u => ⟨⟨by omega, by omega⟩, no mem q1 hw ?_⟩, fun u rc => ?_⟩⟩
    · have z : rFr r c = false := by
        cases z : rFr r c with
        | false => rfl
        | true => rw [z] at u; exact absurd u (by decide)
      rw [ce, z]; rfl
    · have z : rFr r c = true := by
        cases z : rFr r c with
        | true => rfl
        | false => rw [z] at u; exact absurd rfl u
      have ho : rOc r c = false := by
        unfold rFr at z
        cases w : rOc r c with
        | false => rfl
        | true => rw [w] at z; simp at z
      refine s_agrees hE hR1 hL1 hfm hok h7 c0 (by omega) ho fun m2 a b => ?_
      have hw2 : cvR m2 574 s.2 := fun w u v => (b 574 w (by omega) (by unfold isTx; omega)).trans (hw w u v)
      refine ⟨fun v => ⟨⟨by omega, by omega⟩, no m2 (rEq_tr q1 a) hw2 ?_⟩, fun v => ⟨⟨by omega, by omega⟩, fun _ _ => ?_⟩⟩
      · have z2 : rAl L (rLt r (r 0).toNat).toNat 0 (rAd r 0 c 0) = false := by
          cases w : rAl L (rLt r (r 0).toNat).toNat 0 (rAd r 0 c 0) with
          | false => rfl
          | true => rw [w] at v; exact absurd v (by decide)
        rw [ce, z, z2]; rfl
      · have z2 : rAl L (rLt r (r 0).toNat).toNat 0 (rAd r 0 c 0) = true := by
          cases w : rAl L (rLt r (r 0).toNat).toNat 0 (rAd r 0 c 0) with
          | true => rfl
          | false => rw [w] at v; exact absurd rfl v
        have hh : rHd L r c = true := by rw [ce, z, z2]; rfl
        rw [hh, if_pos rfl] at hk
        obtain ⟨hL2, -⟩ := yL2_rEk h291 hL1 (rEq_k a)
        refine s_see hE (rEk_yR (rEq_k a) (Or.inl rfl) hR1) hL2 hok h7 c0 (by omega) ho hN hN2 hb (by omega) hw2 fun m3 e1 e2 _ => ⟨⟨by omega, by omega⟩, ?_⟩
        exact ih m3 (c + 1) (s.1 + 1, rSw L r N.toNat c s.2) (rEq_tr q1 (rEq_tr a e1)) (by omega) (by omega) (by dsimp only; omega) (by dsimp only; omega) (rSw_b hb) e2 hk
theorem s_spB {E : EN} (hE : Ep E) {m0 : Mm} {Q : Int → Mm → Prop} {A : Int → Int} {al : Int} (hA : cvB A al) (ha : 0 ≤ al) (ha2 : al ≤ 32) (hQ : ∀ (m2 : Mm) (b : I2), b = spB A al 32 0 (100000000, -1) → rEq m0 m2 → m2 552 7 = b.2 → m2 552 8 = b.1 → Q (if 0 < al then 1 else 0) m2) : ∀ (n : Nat) (mem : Mm) (c : Int) (b : I2), rEq m0 mem → 0 ≤ c → c + n = 32 → spB A al 32 0 (100000000, -1) = spB A al n c b → cvR mem 574 A → ((c = 0 ∧ mem 552 7 = -1 ∧ b = (100000000, -1)) ∨ (mem 552 7 = b.2 ∧ mem 552 8 = b.1 ∧ 0 ≤ b.2)) → VM E mX5_findSpade 1198 mem 82 [(0, aR 552), (4, aI al), (5, aI c)] [] (retI Q) := by
  intro n
  induction n with
  | zero =>
    intro mem c b q1 c0 c1 hb hw hx
    rcases hx with ⟨x1, -⟩ | ⟨x1, x2, x3⟩
    · omega
    · have := hQ mem b hb.symm q1 x1 x2
      refine rX5_findSpade_82 (k := 1197) (p0 := 2) (p1 := 349) (p2 := 0) hE isYd2 (Or.inl rfl) ⟨fun _ => ⟨fun u => ?_, fun u => ?_⟩, fun d => absurd d (by omega)⟩
      · rw [if_neg (by omega)] at this; exact this
      · rw [if_pos u] at this; exact this
  | succ n ih =>
    intro mem c b q1 c0 c1 hb hw hx
    have e := hw c c0 (by omega)
    have bd := hA c c0 (by omega)
    rw [show spB A al (n + 1) c b = spB A al n (c + 1) (if max (A c) (al - A c) < b.1 then (max (A c) (al - A c), c) else b) from rfl] at hb
    have up : max (A c) (al - A c) < b.1 → VM E mX5_findSpade 1198 (aUp (aUp mem 552 7 c) 552 8 (max (A c) (al - A c))) 82 [(0, aR 552), (4, aI al), (5, aI (c + 1))] [] (retI Q) := by
      intro u
      rw [if_pos u] at hb
      refine ih _ (c + 1) _ (fun o i q => ?_) (by omega) (by omega) hb (fun w a d => ?_) (Or.inr ⟨(aUp_ri (by decide)).trans aUp_re, aUp_re, c0⟩)
      · rw [aUp_rn (fun z => q (by unfold scr; omega)), aUp_rn (fun z => q (by unfold scr; omega))]; exact q1 o i q
      · rw [aUp_rn (by decide), aUp_rn (by decide)]; exact hw w a d
    refine rX5_findSpade_82 (k := 1197) (p0 := 2) (p1 := 349) (p2 := 0) hE isYd2 (Or.inl rfl) ⟨fun d => absurd d (by omega), fun _ => ⟨⟨c0, by omega⟩, by rw [e]; exact ⟨by omega, by omega⟩, fun u => ⟨⟨by omega, by omega⟩, ?_⟩, fun u => ⟨fun v => ⟨⟨by omega, by omega⟩, ?_⟩, fun v => ⟨⟨by omega, by omega⟩, ?_⟩⟩⟩⟩
    · rw [e]
      rcases hx with ⟨-, -, x3⟩ | ⟨x1, x2, x3⟩
      · exact up (by rw [x3]; dsimp only; omega)
      · omega
    · rw [e] at v
      rcases hx with ⟨-, x2, -⟩ | ⟨x1, x2, x3⟩
      · exact absurd x2 u
      · rw [if_neg (by omega)] at hb
        exact ih mem (c + 1) b q1 (by omega) (by omega) hb hw (Or.inr ⟨x1, x2, x3⟩)
    · rw [e] at v ⊢
      rcases hx with ⟨-, x2, -⟩ | ⟨x1, x2, x3⟩
      · exact absurd x2 u
      · exact up (by omega)
def oN (r : Rw) (w : Int) : Nat → Bool
  | 0 => false
  | n + 1 => oN r w n || r (8 + (n : Int)) == w
theorem oN_t {r : Rw} {w : Int} : ∀ n : Nat, oN r w n = true ↔ ∃ p : Int, 0 ≤ p ∧ p < n ∧ r (8 + p) = w := by
  intro n
  induction n with
  | zero => exact ⟨fun h => (by cases h), fun ⟨p, a, b, _⟩ => (by omega)⟩
  | succ n ih =>
    show (oN r w n || r (8 + (n : Int)) == w) = true ↔ _
    rw [Bool.or_eq_true, ih]
    constructor
    · rintro (⟨p, a, b, c⟩ | h)
      · exact ⟨p, a, by omega, c⟩
      · exact ⟨n, by omega, by omega, by simpa using h⟩
    · rintro ⟨p, a, b, c⟩
      by_cases e : p = n
      · exact Or.inr (by rw [← e]; simpa using c)
      · exact Or.inl ⟨p, a, by omega, c⟩
theorem oN_oc {r : Rw} {w : Int} (h : 0 ≤ r 7) : oN r w (r 7).toNat = rOc r w := by
  cases q : rOc r w with
  | true =>
    obtain ⟨p, a, b, c⟩ := rOc_t.mp q
    exact (oN_t _).mpr ⟨p, a, by omega, c⟩
  | false =>
    have hf := rOc_f.mp q
    cases z : oN r w (r 7).toNat with
    | false => rfl
    | true =>
      obtain ⟨p, a, b, c⟩ := (oN_t _).mp z
      exact absurd c (hf p a (by omega))
theorem m_cov {E : EN} (hE : Ep E) {m0 : Mm} {Q : Int → Mm → Prop} {L : LW} {A : Int → Int} {r2 : Rw} {N w al c K Y : Int} (hok : rOk Y r2) (hA : cvB A K) (hK : K ≤ 1000) (hc : R32 (c + 1)) (hk : ∀ m2, rEq m0 m2 → (∀ u, 0 ≤ u → u < 32 → m2 632 u = A u + (if rOc r2 u then 1 else 0)) → VM E mX12_spade 1199 m2 70 [(0, aR 603), (1, aI N), (2, aI w), (3, aI al), (4, aI (c + 1))] [] (retI Q)) : ∀ (n j : Nat) (mem : Mm), (r2 7).toNat = j + n → pMd m0 mem L r2 → (∀ u, 0 ≤ u → u < 32 → mem 632 u = A u + (if oN r2 u j then 1 else 0)) → VM E mX12_spade 1199 mem 126 [(0, aR 603), (1, aI N), (2, aI w), (3, aI al), (4, aI c), (5, aI j)] [] (retI Q) := by
  have h7 := hok.1
  have h10 := hok.2.1
  intro n
  induction n with
  | zero =>
    intro j mem h hP hw
    have e5 := hP.2.1
    refine rX12_spade_126 (k := 1198) hE ⟨fun _ => m_putP hE hP.1 fun m2 a b => ⟨hc, hk m2 a fun u c d => ?_⟩, fun d => absurd d (by rw [e5]; omega)⟩
    rw [b 632 u (by decide), hw u c d, ← oN_oc h7, h, Nat.add_zero]
  | succ n ih =>
    intro j mem h hP hw
    have e5 := hP.2.1
    have bj := hok.2.2.1 j (by omega) (by omega)
    refine rX12_spade_126 (k := 1198) hE ⟨fun d => absurd d (by rw [e5]; omega), fun _ => ⟨⟨by omega, by omega⟩, ⟨by omega, by omega⟩, ?_⟩⟩
    rw [e5]
    have hno : oN r2 (r2 (8 + (j : Int))) j = false := by
      cases z : oN r2 (r2 (8 + (j : Int))) j with
      | false => rfl
      | true =>
        obtain ⟨p, a, b, d⟩ := (oN_t _).mp z
        have := hok.2.2.2.2.2.2.2.2.2.2.2.2 p j a (by omega) (by omega) (by omega) d
        omega
    have ew := hw (r2 (8 + (j : Int))) bj.1 bj.2.1
    rw [hno, if_neg (by decide), Int.add_zero] at ew
    have bd := hA (r2 (8 + (j : Int))) bj.1 bj.2.1
    rw [ew]
    refine ⟨⟨bj.1, bj.2.1⟩, ⟨by omega, by omega⟩, ⟨by omega, by omega⟩, ih (j + 1) _ (by omega) ?_ fun u a d => ?_⟩
    · obtain ⟨⟨p1, p2, p3⟩, p4, p5, p6⟩ := hP
      exact ⟨⟨fun o i u v => (aUp_rn (fun z => u (by unfold scr; omega))).trans (p1 o i u v), fun i u => (aUp_rn (by decide)).trans (p2 i u), fun i u v => (aUp_rn (by decide)).trans (p3 i u v)⟩, (aUp_ne (by decide)).trans p4, mL_eq (aUp_ne (by decide)) p5, (aUp_rn (by decide)).trans p6⟩
    · have e1 : oN r2 u (j + 1) = (oN r2 u j || r2 (8 + (j : Int)) == u) := rfl
      by_cases z : u = r2 (8 + (j : Int))
      · rw [← z] at hno ⊢
        rw [aUp_re, e1, ← z, hno]
        simp
      · rw [aUp_ri z, hw u a d, e1, show (r2 (8 + (j : Int)) == u) = false by simp; exact fun q => z q.symm, Bool.or_false]
theorem m_cy {E : EN} (hE : Ep E) {m0 : Mm} {Q : Int → Mm → Prop} {L : LW} {N w al c : Int} : ∀ (n : Nat) (mem : Mm) (x Y : Int) (r : Rw), pMd m0 mem L r → (∀ i, mem 632 i = m0 632 i) → rOk Y r → Y + n ≤ 5000 → 0 ≤ x → x + n = N → N < 1000 → (∀ m2, pMd m0 m2 L (rYr L n r) → (∀ i, m2 632 i = m0 632 i) → rOk (Y + n) (rYr L n r) → VM E mX12_spade 1199 m2 126 [(0, aR 603), (1, aI N), (2, aI w), (3, aI al), (4, aI c), (5, aI 0)] [] (retI Q)) → VM E mX12_spade 1199 mem 106 [(0, aR 603), (1, aI N), (2, aI w), (3, aI al), (4, aI c), (5, aI x)] [] (retI Q) := by
  intro n
  induction n with
  | zero =>
    intro mem x Y r hP hf hok hY h0 h1 hN hk
    exact rX12_spade_106 (k := 1198) hE ⟨fun _ => hk mem hP hf (by show rOk (Y + ((0 : Nat) : Int)) r; rw [Int.natCast_zero, Int.add_zero]; exact hok), fun d => absurd d (by omega)⟩
  | succ n ih =>
    intro mem x Y r hP hf hok hY h0 h1 hN hk
    refine rX12_spade_106 (k := 1198) hE ⟨fun d => absurd d (by omega), fun _ => pMd_turn (k := 1191) hE hP (by omega) hok fun m2 a _ b => ⟨⟨by omega, by omega⟩, ih m2 (x + 1) (Y + 1) _ a (fun i => (b 632 i (by decide) (by decide) (by decide) (by decide) (fun q => absurd q.1 (by decide))).trans (hf i)) (rTn_ok hok).1 (by omega) (by omega) (by omega) hN fun m3 c d e => hk m3 c d (by rw [show Y + ((n + 1 : Nat) : Int) = Y + 1 + (n : Int) by omega]; exact e)⟩⟩
theorem m_spF {E : EN} (hE : Ep E) {m0 : Mm} {Q : Int → Mm → Prop} {L : LW} {r : Rw} {N w : Int} (h5 : m0 605 = r) (hL : mL m0 L) (h20 : m0 603 20 = 0) (hf : rFo r) (hok : rOk 999 r) (h7 : r 7 < 10) (hN : 0 ≤ N) (hN2 : N ≤ 20) : ∀ (n : Nat) (mem : Mm) (c : Int) (s : Int × (Int → Int)), rEq m0 mem → 0 ≤ c → c + n = 32 → 0 ≤ s.1 → s.1 ≤ c → cvB s.2 s.1 → cvR mem 632 s.2 → (∀ m1, rEq m0 m1 → cvR m1 632 (spF L r N.toNat n c s).2 → cvB (spF L r N.toNat n c s).2 (spF L r N.toNat n c s).1 → 0 ≤ (spF L r N.toNat n c s).1 → (spF L r N.toNat n c s).1 ≤ 32 → VM E mX12_spade 1199 m1 186 [(0, aR 603), (2, aI w), (3, aI (spF L r N.toNat n c s).1), (4, aI 100000000), (5, aI (-1)), (6, aI 0)] [] (retI Q)) → VM E mX12_spade 1199 mem 70 [(0, aR 603), (1, aI N), (2, aI w), (3, aI s.1), (4, aI c)] [] (retI Q) := by
  have h70 := hok.1
  intro n
  induction n with
  | zero =>
    intro mem c s q1 c0 c1 s0 s1 hb hw hk
    exact rX12_spade_70 (k := 1198) hE ⟨fun _ => hk mem q1 hw hb s0 (by show s.1 ≤ 32; omega), fun d => absurd d (by omega)⟩
  | succ n ih =>
    intro mem c s q1 c0 c1 s0 s1 hb hw hk
    have e5 := (rEq_605 q1).trans h5
    have hL1 : mL mem L := mL_eq (rEq_605 q1) hL
    have h201 : mem 603 20 = 0 := (rEk_sm (rEq_k q1) (by omega)).trans h20
    unfold spF at hk
    refine rX12_spade_70 (k := 1198) hE ⟨fun d => absurd d (by omega), fun _ _ => m_hidden hE e5 hL1 h201 hf hok h7 c0 (by omega) fun m2 a b => ?_⟩
    have hw2 : cvR m2 632 s.2 := fun u v z => (b u).trans (hw u v z)
    cases z : rHd L r c with
    | false =>
      rw [z] at hk
      exact ⟨fun _ => ⟨⟨by omega, by omega⟩, ih m2 (c + 1) s (rEq_tr q1 a) (by omega) (by omega) s0 (by omega) hb hw2 hk⟩, fun u => absurd rfl u⟩
    | true =>
      rw [z, if_pos rfl] at hk
      have ho : rOc r c = false := by
        unfold rHd rFr at z
        cases w : rOc r c with
        | false => rfl
        | true => rw [w] at z; simp at z
      refine ⟨fun u => absurd u (by decide), fun _ => ⟨⟨by omega, by omega⟩, pMd_keep hE (m0 := m2) rEq_rf (mL_eq (rEq_605 a) hL1) ((rEk_sm (rEq_k a) (by omega)).trans h201) fun m3 cP cf rc => ?_⟩⟩
      rw [rEq_605 a, e5] at cP
      refine pMd_lay hE cP hok h7 (by decide) rc fun m4 aP af => ?_
      have hoka : rOk 999 (rAd r 0 c 0) := rAd_ok hok h7 (by decide) (by decide) c0 (by omega) (by decide) (by decide) ho
      refine m_cy hE N.toNat m4 0 999 _ aP (fun i => (af 632 i (by decide)).trans (cf 632 i (by decide))) hoka (by omega) (by decide) (by omega) (by omega) fun m5 y1 y2 y3 => ?_
      refine m_cov hE (m0 := m2) (A := s.2) (K := s.1) y3 hb (by omega) ⟨by omega, by omega⟩ (fun m6 g1 g2 => ?_) (rYr L N.toNat (rAd r 0 c 0) 7).toNat 0 m5 (by omega) y1 fun u v q => ?_
      · exact ih m6 (c + 1) (s.1 + 1, rSw L r N.toNat c s.2) (rEq_tr q1 (rEq_tr a g1)) (by omega) (by omega) (by dsimp only; omega) (by dsimp only; omega) (rSw_b hb) g2 hk
      · show m5 632 u = s.2 u + (if false = true then 1 else 0)
        rw [if_neg (by decide), Int.add_zero, y2 u]
        exact hw2 u v q
theorem m_spB {E : EN} (hE : Ep E) {m0 : Mm} {Q : Int → Mm → Prop} {A : Int → Int} {al w : Int} (hA : cvB A al) (ha : 0 ≤ al) (ha2 : al ≤ 32) (hQ : ∀ (m2 : Mm) (b : I2), (al ≤ 0 → b = (100000000, -1)) → (0 < al → b = spB A al 32 0 (100000000, -1)) → rEq m0 m2 → Q (rMtV w b) m2) : ∀ (n : Nat) (mem : Mm) (c : Int) (b : I2), rEq m0 mem → 0 ≤ c → c + n = 32 → (0 < al → spB A al 32 0 (100000000, -1) = spB A al n c b) → (al ≤ 0 → b = (100000000, -1)) → cvR mem 632 A → VM E mX12_spade 1199 mem 186 [(0, aR 603), (2, aI w), (3, aI al), (4, aI b.1), (5, aI b.2), (6, aI c)] [] (retI Q) := by
  intro n
  have fin : ∀ (mem : Mm) (b : I2), Q (rMtV w b) mem → ((b.2 = (-1) → Q b.2 mem) ∧ (¬ b.2 = (-1) → ((¬ w = 0 → Q b.1 mem) ∧ (w = 0 → Q b.2 mem)))) := by
    intro mem b h
    unfold rMtV at h
    refine ⟨fun u => ?_, fun u => ⟨fun v => ?_, fun v => ?_⟩⟩
    · rw [if_pos u] at h; rw [u]; exact h
    · rw [if_neg u, if_neg v] at h; exact h
    · rw [if_neg u, if_pos v] at h; exact h
  induction n with
  | zero =>
    intro mem c b q1 c0 c1 hb hb0 hw
    exact rX12_spade_186 (k := 1198) (p0 := 0) hE ⟨fun _ => fin mem b (hQ mem b hb0 (fun u => (hb u).symm) q1), fun d => absurd d (by omega)⟩
  | succ n ih =>
    intro mem c b q1 c0 c1 hb hb0 hw
    have e := hw c c0 (by omega)
    have bd := hA c c0 (by omega)
    by_cases hal : al ≤ 0
    · exact rX12_spade_186 (k := 1198) (p0 := 0) hE ⟨fun d => absurd d (by omega), fun _ => ⟨fun _ => fin mem b (hQ mem b hb0 (fun u => absurd u (by omega)) q1), fun d => absurd d (by omega)⟩⟩
    · have hb := hb (by omega)
      rw [show spB A al (n + 1) c b = spB A al n (c + 1) (if max (A c) (al - A c) < b.1 then (max (A c) (al - A c), c) else b) from rfl] at hb
      have up : ∀ v : Int, v = max (A c) (al - A c) → v < b.1 → VM E mX12_spade 1199 mem 186 [(0, aR 603), (2, aI w), (3, aI al), (4, aI v), (5, aI c), (6, aI (c + 1))] [] (retI Q) := by
        intro v hv u
        rw [if_pos (by omega), ← hv] at hb
        exact ih mem (c + 1) (v, c) q1 (by omega) (by omega) (fun _ => hb) (fun q => absurd q hal) hw
      have kp : ¬ max (A c) (al - A c) < b.1 → VM E mX12_spade 1199 mem 186 [(0, aR 603), (2, aI w), (3, aI al), (4, aI b.1), (5, aI b.2), (6, aI (c + 1))] [] (retI Q) := by
        intro u
        rw [if_neg u] at hb
        exact ih mem (c + 1) b q1 (by omega) (by omega) (fun _ => hb) (fun q => absurd q hal) hw
      refine rX12_spade_186 (k := 1198) (p0 := 0) hE ⟨fun d => absurd d (by omega), fun _ => ⟨fun d => absurd d hal, fun _ => ⟨⟨c0, by omega⟩, ?_⟩⟩⟩
      rw [e]
      refine ⟨⟨by omega, by omega⟩, fun u => ⟨fun v => ⟨fun _ => ⟨⟨by omega, by omega⟩, kp (by omega)⟩, fun d => absurd d (by omega)⟩, fun v => ⟨fun d => absurd d (by omega), fun _ => ⟨⟨by omega, by omega⟩, up _ (by omega) v⟩⟩⟩, fun u => ⟨fun v => ⟨fun _ => ⟨⟨by omega, by omega⟩, kp (by omega)⟩, fun d => absurd d (by omega)⟩, fun v => ⟨fun d => absurd d (by omega), fun _ => ⟨⟨by omega, by omega⟩, up _ (by omega) v⟩⟩⟩⟩
theorem s_sp0 {E : EN} (hE : Ep E) {m0 : Mm} {Q : Int → Mm → Prop} {N : Int} (hk : ∀ m2, rEq m0 m2 → cvR m2 574 (fun _ => 0) → VM E mX5_findSpade 1198 m2 30 [(0, aR 552), (1, aR 2), (2, aR 349), (3, aI N), (4, aI 0), (5, aI 0)] [] (retI Q)) : ∀ (n : Nat) (mem : Mm) (x : Int), 0 ≤ x → x + n = 32 → rEq m0 mem → (∀ j, 0 ≤ j → j < x → mem 574 j = 0) → VM E mX5_findSpade 1198 mem 3 [(0, aR 552), (1, aR 2), (2, aR 349), (3, aI N), (4, aI x)] [] (retI Q) := by
  intro n
  induction n with
  | zero =>
    intro mem x h0 h1 h2 h3
    exact rX5_findSpade_3 (k := 1197) hE isYd2 (Or.inl rfl) ⟨fun _ => hk mem h2 fun w a b => h3 w a (by omega), fun c => absurd c (by omega)⟩
  | succ n ih =>
    intro mem x h0 h1 h2 h3
    refine rX5_findSpade_3 (k := 1197) hE isYd2 (Or.inl rfl) ⟨fun c => absurd c (by omega), fun _ => ⟨⟨by omega, by omega⟩, ⟨by omega, by omega⟩, ih _ (x + 1) (by omega) (by omega) (fun o i u => ?_) (fun j u v => ?_)⟩⟩
    · rw [aUp_rn (fun w => u (by unfold scr; omega))]; exact h2 o i u
    · by_cases w : j = x
      · rw [w, aUp_re]
      · rw [aUp_ri w]; exact h3 j u (by omega)
theorem m_sp0 {E : EN} (hE : Ep E) {m0 : Mm} {Q : Int → Mm → Prop} {N w : Int} (hk : ∀ m2, rEq m0 m2 → cvR m2 632 (fun _ => 0) → VM E mX12_spade 1199 m2 70 [(0, aR 603), (1, aI N), (2, aI w), (3, aI 0), (4, aI 0)] [] (retI Q)) : ∀ (n : Nat) (mem : Mm) (x : Int), 0 ≤ x → x + n = 32 → rEq m0 mem → (∀ j, 0 ≤ j → j < x → mem 632 j = 0) → VM E mX12_spade 1199 mem 46 [(0, aR 603), (1, aI N), (2, aI w), (3, aI 0), (4, aI x)] [] (retI Q) := by
  intro n
  induction n with
  | zero =>
    intro mem x h0 h1 h2 h3
    exact rX12_spade_46 (k := 1198) hE ⟨fun _ => hk mem h2 fun w a b => h3 w a (by omega), fun c => absurd c (by omega)⟩
  | succ n ih =>
    intro mem x h0 h1 h2 h3
    refine rX12_spade_46 (k := 1198) hE ⟨fun c => absurd c (by omega), fun _ => ⟨⟨by omega, by omega⟩, ⟨by omega, by omega⟩, ih _ (x + 1) (by omega) (by omega) (fun o i u => ?_) (fun j u v => ?_)⟩⟩
    · rw [aUp_rn (fun w => u (by unfold scr; omega))]; exact h2 o i u
    · by_cases w : j = x
      · rw [w, aUp_re]
      · rw [aUp_ri w]; exact h3 j u (by omega)
theorem cvB0 : cvB (fun _ => 0) 0 := fun _ _ _ => ⟨Int.le_refl 0, Int.le_refl 0⟩
def rSp (L : LW) (r : Rw) (n w : Int) : Int := if (spF L r n.toNat 32 0 (0, fun _ => 0)).1 ≤ 0 then -1 else rMtV w (spB (spF L r n.toNat 32 0 (0, fun _ => 0)).2 (spF L r n.toNat 32 0 (0, fun _ => 0)).1 32 0 (100000000, -1))
theorem spB_c {A : Int → Int} {al : Int} (hA : cvB A al) (ha2 : al ≤ 32) : ∀ (n : Nat) (c : Int) (b : I2), 0 ≤ c → c + n = 32 → (0 ≤ b.2 ∨ (b = (100000000, -1) ∧ 0 < n)) → 0 ≤ (spB A al n c b).2 := by
  intro n
  induction n with
  | zero =>
    intro c b _ _ h
    rcases h with h | h
    · exact h
    · omega
  | succ n ih =>
    intro c b c0 c1 h
    have bd := hA c c0 (by omega)
    unfold spB
    refine ih (c + 1) _ (by omega) (by omega) ?_
    split
    · exact Or.inl c0
    · rename_i q
      rcases h with h | ⟨h, -⟩
      · exact Or.inl h
      · rw [h] at q
        dsimp only at q
        omega
theorem st_spade {E : EN} (hE : Ep E) : stI E 1199 (iAll jC) mX11_spade mX12_spade 2 := by
  refine obs_pair fun mem av hl hr hC => ?_
  obtain ⟨n, w, rfl⟩ := two_arg hl
  have hn : R32 n := hr n List.mem_cons_self
  have hw : R32 w := hr w (List.mem_cons_of_mem _ List.mem_cons_self)
  obtain ⟨L, hy, hm⟩ := jC_law hC
  have hF := hC.2.2.1
  have h7 := hF.1.2.1
  have e10 := hF.2.1.1
  refine ⟨if (0 ≤ n ∧ n ≤ 20) ∧ (w = 0 ∨ w = 1) ∧ mem 605 7 < 10 then rSp L (mem 605) n w else -1, fun Q hQ => ?_, fun m1 Q q1 hC1 hQ => ?_⟩
  · refine eX11_spade (k := 1198) hn hw (rX11_spade_0 hE fun _ => s_isWithin hE hn (by decide) (by decide) (fun a b => ⟨fun d => absurd d (by decide), fun _ _ => s_isYesNo hE hw (fun c => ⟨fun d => absurd d (by decide), fun _ => ⟨fun u _ => ?_, fun u => ?_⟩⟩) (fun c => ⟨fun _ => ?_, fun d => absurd rfl d⟩)⟩) (fun a => ⟨fun _ => ?_, fun d => absurd rfl d⟩))
    · rw [e10] at u
      rw [if_pos ⟨⟨a, b⟩, c, u⟩] at hQ
      refine eX5_findSpade (k := 1197) hn (rX5_findSpade_0 hE isYd2 (Or.inl rfl) (s_sp0 hE (m0 := mem) (fun m2 y1 y2 => ?_) 32 mem 0 (by decide) (by decide) rEq_rf (fun j p q => absurd q (by omega))))
      refine s_spF hE (m0 := mem) (L := L) (r := mem 605) hF.2.1 hy (jC_29 hC) hF.2.2.1 hF.1 u a b 32 m2 0 (0, fun _ => 0) y1 (by decide) (by decide) (Int.le_refl 0) (Int.le_refl 0) cvB0 y2 fun m3 z1 z2 z3 z4 z5 => ?_
      unfold rSp at hQ
      generalize hs : spF L (mem 605) n.toNat 32 0 (0, fun _ => 0) = s at hQ z2 z3 z4 z5 ⊢
      refine s_spB hE (m0 := mem) z3 z4 z5 (fun m4 b4 f1 f2 f3 f4 => ?_) 32 _ 0 (100000000, -1) (fun o i q => ?_) (by decide) (by decide) rfl (fun w p q => (aUp_rn (by decide)).trans (z2 w p q)) (Or.inl ⟨rfl, aUp_re, rfl⟩)
      · have hQ := hQ m4 f2
        have hb2 : 0 ≤ b4.2 := by rw [f1]; exact spB_c z3 z5 32 0 _ (by decide) (by decide) (Or.inr ⟨rfl, by decide⟩)
        by_cases g : 0 < s.1
        · rw [if_pos g]
          rw [if_neg (by omega), ← f1] at hQ
          unfold rMtV at hQ
          rw [if_neg (by omega)] at hQ
          refine ⟨fun _ => ⟨fun d => ?_, fun d => ?_⟩, fun d => absurd d (by decide)⟩
          · rw [if_neg d] at hQ; rw [f4]; exact hQ
          · rw [if_pos d] at hQ; rw [f3]; exact hQ
        · rw [if_neg g]
          rw [if_pos (by omega)] at hQ
          exact ⟨fun d => absurd rfl d, fun _ => hQ⟩
      · rw [aUp_rn (fun z => q (by unfold scr; omega))]; exact z1 o i q
    · rw [e10] at u
      rw [if_neg (by omega)] at hQ
      exact hQ mem rEq_rf
    · rw [if_neg (by omega)] at hQ; exact hQ mem rEq_rf
    · rw [if_neg (by omega)] at hQ; exact hQ mem rEq_rf
  · obtain ⟨hC2, e, hL, h20, hth⟩ := thr_all hm q1 hC1
    refine eX12_spade (k := 1198) hn hw (rX12_spade_0 hE fun r1 => s_in hE r1 (by decide) (by decide) (fun a b => ⟨fun d => absurd d (by decide), fun _ r2 => s_in hE r2 (by decide) (by decide) (fun c1 c2 => ⟨fun d => absurd d (by decide), fun _ => ⟨fun u => ?_, fun u => ?_⟩⟩) (fun c => ⟨fun _ => ?_, fun d => absurd rfl d⟩)⟩) (fun a => ⟨fun _ => ?_, fun d => absurd rfl d⟩))
    · rw [e] at u
      rw [if_pos ⟨⟨a, b⟩, by omega, by omega⟩] at hQ
      refine m_sp0 hE (m0 := aUp m1 603 0 0) (fun m2 y1 y2 => ?_) 32 _ 0 (by decide) (by decide) rEq_rf (fun j p q => absurd q (by omega))
      refine m_spF hE (m0 := aUp m1 603 0 0) (L := L) (r := mem 605) e hL h20 (fR_fo hF.2.2.1) hF.1 (by omega) a b 32 m2 0 (0, fun _ => 0) y1 (by decide) (by decide) (Int.le_refl 0) (Int.le_refl 0) cvB0 y2 fun m3 z1 z2 z3 z4 z5 => ?_
      unfold rSp at hQ
      generalize hs : spF L (mem 605) n.toNat 32 0 (0, fun _ => 0) = s at hQ z2 z3 z4 z5 ⊢
      refine m_spB hE (m0 := aUp m1 603 0 0) z3 z4 z5 (fun m4 b4 f1 f2 f3 => ?_) 32 m3 0 (100000000, -1) z1 (by decide) (by decide) (fun _ => rfl) (fun _ => rfl) z2
      have hQ := hQ m4 (rEq_tr hth f3)
      by_cases g : 0 < s.1
      · rw [if_neg (by omega), ← f2 g] at hQ
        exact hQ
      · rw [if_pos (by omega)] at hQ
        rw [f1 (by omega)]
        exact hQ
    · rw [e] at u
      rw [if_neg (by omega)] at hQ
      exact hQ _ hth
    · rw [if_neg (by omega)] at hQ; exact hQ _ hth
    · rw [if_neg (by omega)] at hQ; exact hQ _ hth
