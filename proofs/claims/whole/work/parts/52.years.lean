-- where, indoors, compare, round
theorem s_where_l {E : EN} (hE : Ep E) {m0 : Mm} {Q : Int → Mm → Prop} {L : LW} {p N : Int} (hp : 0 ≤ p) (hp2 : p < 10) : ∀ (n : Nat) (mem : Mm) (x Y : Int) (r : Rw), pYd m0 mem L r → rOk Y r → Y + n ≤ 5000 → 0 ≤ x → x + n = N → N < 1000 → (∀ m1, rEq m0 m1 → Q (rYr L n r (8 + p)) m1) → VM E mX5_cellBehind 1198 mem 8 [(0, aR 552), (2, aI p), (3, aI N), (4, aI x)] [] (retI Q) := by
  intro n
  induction n with
  | zero =>
    intro mem x Y r hP hok hY h0 h1 hN hQ
    refine rX5_cellBehind_8 (k := 1197) (p0 := 2) hE isYd2 ⟨fun _ => ⟨⟨hp, hp2⟩, ?_⟩, fun c => absurd c (by omega)⟩
    have e : mem 557 p = r (8 + p) := (hP.2.1.2.2.1 p hp hp2).1
    rw [e]
    exact hQ mem hP.1
  | succ n ih =>
    intro mem x Y r hP hok hY h0 h1 hN hQ
    refine rX5_cellBehind_8 (k := 1197) (p0 := 2) hE isYd2 ⟨fun c => absurd c (by omega), fun _ => pYd_turn (k := 1193) hE hP (by omega) hok fun m2 a _ _ => ⟨⟨by omega, by omega⟩, ih m2 (x + 1) (Y + 1) _ a (rTn_ok hok).1 (by omega) (by omega) (by omega) hN hQ⟩⟩
theorem m_where_l {E : EN} (hE : Ep E) {m0 : Mm} {Q : Int → Mm → Prop} {L : LW} {p N : Int} (hp : 0 ≤ p) (hp2 : p < 10) : ∀ (n : Nat) (mem : Mm) (x Y : Int) (r : Rw), pMd m0 mem L r → rOk Y r → Y + n ≤ 5000 → 0 ≤ x → x + n = N → N < 1000 → (∀ m1, rEq m0 m1 → Q (rYr L n r (8 + p)) m1) → VM E mX12_where 1199 mem 35 [(0, aR 603), (1, aI p), (2, aI N), (3, aI x)] [] (retI Q) := by
  intro n
  induction n with
  | zero =>
    intro mem x Y r hP hok hY h0 h1 hN hQ
    refine rX12_where_35 (k := 1198) hE ⟨fun _ => ⟨⟨by omega, by omega⟩, ⟨by omega, by omega⟩, m_putP hE hP.1 fun m2 a _ => ?_⟩, fun c => absurd c (by omega)⟩
    rw [hP.2.1]
    exact hQ m2 a
  | succ n ih =>
    intro mem x Y r hP hok hY h0 h1 hN hQ
    refine rX12_where_35 (k := 1198) hE ⟨fun c => absurd c (by omega), fun _ => pMd_turn (k := 1191) hE hP (by omega) hok fun m2 a _ _ => ⟨⟨by omega, by omega⟩, ih m2 (x + 1) (Y + 1) _ a (rTn_ok hok).1 (by omega) (by omega) (by omega) hN hQ⟩⟩
theorem st_where {E : EN} (hE : Ep E) : stI E 1199 (iAll jC) mX11_where mX12_where 2 := by
  refine obs_pair fun mem av hl hr hC => ?_
  obtain ⟨p, n, rfl⟩ := two_arg hl
  have hp : R32 p := hr p List.mem_cons_self
  have hn : R32 n := hr n (List.mem_cons_of_mem _ List.mem_cons_self)
  obtain ⟨L, hy, hm⟩ := jC_law hC
  have hF := hC.2.2.1
  have h7 := hF.1.2.1
  refine ⟨if (0 ≤ p ∧ p < mem 605 7) ∧ 0 ≤ n ∧ n ≤ 100 then rYr L n.toNat (mem 605) (8 + p) else -1, fun Q hQ => ?_, fun m1 Q q1 hC1 hQ => ?_⟩
  · refine eX11_where (k := 1198) hp hn (rX11_where_0 hE fun _ => s_has2 hE hC hp (fun a b => ⟨fun d => absurd d (by decide), fun _ _ => s_isWithin hE hn (by decide) (by decide) (fun a2 b2 => ⟨fun _ _ _ => ?_, fun d => absurd d (by decide)⟩) (fun a2 => ⟨fun d => absurd rfl d, fun _ => ?_⟩)⟩) (fun a => ⟨fun _ => ?_, fun d => absurd rfl d⟩))
    · rw [if_pos ⟨⟨a, b⟩, a2, b2⟩] at hQ
      refine eX5_cellBehind (k := 1197) hp hn (rX5_cellBehind_0 hE isYd2 (s_begin (k := 1195) hE hF.2.1 hy fun m2 c _ => ?_))
      exact s_where_l hE a (by omega) n.toNat m2 0 999 _ c hF.1 (by omega) (by omega) (by omega) (by omega) fun m3 d => hQ m3 d
    · rw [if_neg (by omega)] at hQ
      exact hQ mem rEq_rf
    · rw [if_neg (by omega)] at hQ
      exact hQ mem rEq_rf
  · obtain ⟨hC2, e, hL, h20, hth⟩ := thr_all hm q1 hC1
    refine eX12_where (k := 1198) hp hn (rX12_where_0 hE fun _ => m_isP2 (k := 1197) hE hC2 hp (fun a b => ⟨fun d => absurd d (by decide), fun _ r => s_in hE r (by decide) (by decide) (fun a2 b2 => ⟨fun _ => ?_, fun d => absurd d (by decide)⟩) (fun a2 => ⟨fun d => absurd rfl d, fun _ => ?_⟩)⟩) (fun a => ⟨fun _ => ?_, fun d => absurd rfl d⟩))
    · rw [e] at b
      rw [if_pos ⟨⟨a, b⟩, a2, b2⟩] at hQ
      refine pMd_keep hE hth hL h20 fun m2 c _ => ?_
      rw [e] at c
      exact m_where_l hE a (by omega) n.toNat m2 0 999 _ c hF.1 (by omega) (by omega) (by omega) (by omega) fun m3 d => hQ m3 d
    · rw [if_neg (by omega)] at hQ
      exact hQ _ hth
    · rw [e] at a
      rw [if_neg (by omega)] at hQ
      exact hQ _ hth
/-- does some plot lie in a wall -/
def rIw (r : Rw) : Nat → Bool
  | 0 => false
  | n + 1 => rIw r n || r (80 + r (8 + (n : Int))) == 1
theorem rIw_up {r : Rw} {a : Nat} (h : rIw r a = true) : ∀ b : Nat, rIw r (a + b) = true := by
  intro b
  induction b with
  | zero => exact h
  | succ b ih => show (rIw r (a + b) || _) = true; rw [ih]; rfl
theorem s_isW {E : EN} (hE : Ep E) {k : Nat} {mem : Mm} {Q : Int → Mm → Prop} {y Y : Int} {r : Rw} (hy : isYd y) (hR : yR mem y r) (hok : rOk Y r) (hQ : Q (if rIw r (r 7).toNat then 1 else 0) mem) : CI E mX10_isAnyInWall k mem [aR y] Q := by
  have h7 := hok.2.1
  have h0 := hok.1
  have lp : ∀ (d j : Nat), (r 7).toNat = j + d → rIw r j = false → VM E mX10_isAnyInWall k mem 2 [(0, aR y), (1, aI j)] [] (retI Q) := by
    intro d
    induction d with
    | zero =>
      intro j h1 h2
      rw [h1, Nat.add_zero, h2] at hQ
      have e := hR.1
      exact rX10_isAnyInWall_2 hE hy ⟨fun _ => hQ, fun c => absurd c (by omega)⟩
    | succ d ih =>
      intro j h1 h2
      have e := hR.1
      have e1 := (hR.2.2.1 j (by omega) (by omega)).1
      have hb := hok.2.2.1 j (by omega) (by omega)
      have e2 := (hR.2.1 (r (8 + (j : Int))) hb.1 hb.2.1).1
      refine rX10_isAnyInWall_2 hE hy ⟨fun c => absurd c (by omega), fun _ => ⟨fun c => absurd c (by omega), fun _ => ⟨⟨by omega, by omega⟩, by rw [e1]; exact ⟨hb.1, hb.2.1⟩, ?_⟩⟩⟩
      rw [e1, e2]
      refine ⟨fun c => ⟨⟨by omega, by omega⟩, ih (j + 1) (by omega) ?_⟩, fun c => ?_⟩
      · show (rIw r j || _) = false
        simp [h2, c]
      · rw [h1, show j + (d + 1) = j + 1 + d by omega, rIw_up (show rIw r (j + 1) = true by show (rIw r j || _) = true; simp [c]) d] at hQ
        exact hQ
  exact eX10_isAnyInWall (rX10_isAnyInWall_0 hE hy (lp (r 7).toNat 0 (by omega) rfl))
theorem m_isW {E : EN} (hE : Ep E) {k : Nat} {mem : Mm} {Q : Int → Mm → Prop} {Y : Int} (hok : rOk Y (mem 605)) (hQ : Q (if rIw (mem 605) ((mem 605) 7).toNat then 1 else 0) mem) : CI E mX12_isIndoors k mem [aR 603] Q := by
  have h7 := hok.2.1
  have h0 := hok.1
  have lp : ∀ (d j : Nat) (x : Int), (mem 605 7).toNat = j + d → x = (if rIw (mem 605) j then 1 else 0) → VM E mX12_isIndoors k mem 4 [(0, aR 603), (1, aI x), (2, aI j)] [] (retI Q) := by
    intro d
    induction d with
    | zero =>
      intro j x h1 h2
      rw [h1, Nat.add_zero, ← h2] at hQ
      exact rX12_isIndoors_4 hE ⟨fun _ => ⟨by rw [h2]; split; exact Or.inr rfl; exact Or.inl rfl, hQ⟩, fun c => absurd c (by omega)⟩
    | succ d ih =>
      intro j x h1 h2
      have hb := hok.2.2.1 j (by omega) (by omega)
      refine rX12_isIndoors_4 hE ⟨fun c => absurd c (by omega), fun _ => ⟨fun c => ⟨⟨by omega, by omega⟩, ih (j + 1) 1 (by omega) ?_⟩, fun c => ⟨⟨by omega, by omega⟩, ⟨by omega, by omega⟩, ⟨by omega, by omega⟩, ⟨by omega, by omega⟩, fun d2 => ⟨⟨by omega, by omega⟩, ih (j + 1) 0 (by omega) ?_⟩, fun d2 => ⟨⟨by omega, by omega⟩, ih (j + 1) 1 (by omega) ?_⟩⟩⟩⟩
      · have : rIw (mem 605) j = true := by
          cases z : rIw (mem 605) j with
          | true => rfl
          | false => rw [z] at h2; exact absurd h2 c
        rw [show rIw (mem 605) (j + 1) = true by show (rIw (mem 605) j || _) = true; simp [this], if_pos rfl]
      · have : rIw (mem 605) j = false := by
          cases z : rIw (mem 605) j with
          | false => rfl
          | true => rw [z] at h2; exact absurd (c.symm.trans h2) (by decide)
        rw [show rIw (mem 605) (j + 1) = false by show (rIw (mem 605) j || _) = false; simp [this, d2]]
        rfl
      · rw [show rIw (mem 605) (j + 1) = true by show (rIw (mem 605) j || _) = true; simp [d2], if_pos rfl]
  exact eX12_isIndoors (rX12_isIndoors_0 hE (lp (mem 605 7).toNat 0 0 (by omega) rfl))
/-- the first year, from x on, n years to look at -/
def rId (L : LW) : Nat → Int → Rw → Int
  | 0, _, _ => -1
  | n + 1, x, r => if rIw r (r 7).toNat then x else rId L n (x + 1) (rTn L r).1
theorem s_ind_l {E : EN} (hE : Ep E) {m0 : Mm} {Q : Int → Mm → Prop} {L : LW} : ∀ (n : Nat) (mem : Mm) (x Y : Int) (r : Rw), pYd m0 mem L r → rOk Y r → Y + n ≤ 5000 → 0 ≤ x → x + n = 201 → (∀ m1, rEq m0 m1 → Q (rId L n x r) m1) → VM E mX5_firstIndoors 1198 mem 7 [(0, aR 552), (2, aI x)] [] (retI Q) := by
  intro n
  induction n with
  | zero =>
    intro mem x Y r hP hok hY h0 h1 hQ
    exact rX5_firstIndoors_7 (k := 1197) (p0 := 2) hE isYd2 ⟨fun _ => hQ mem hP.1, fun c => absurd c (by omega)⟩
  | succ n ih =>
    intro mem x Y r hP hok hY h0 h1 hQ
    unfold rId at hQ
    refine rX5_firstIndoors_7 (k := 1197) (p0 := 2) hE isYd2 ⟨fun c => absurd c (by omega), fun _ => s_isW hE isYd553 hP.2.1 hok ?_⟩
    cases z : rIw r (r 7).toNat with
    | true =>
      rw [z, if_pos rfl] at hQ
      exact ⟨fun c => absurd c (by decide), fun _ => hQ mem hP.1⟩
    | false =>
      rw [z, if_neg (by decide)] at hQ
      exact ⟨fun _ => pYd_turn (k := 1193) hE hP (by omega) hok fun m2 a _ _ => ⟨⟨by omega, by omega⟩, ih m2 (x + 1) (Y + 1) _ a (rTn_ok hok).1 (by omega) (by omega) (by omega) hQ⟩, fun c => absurd rfl c⟩
theorem m_ind_l {E : EN} (hE : Ep E) {m0 : Mm} {Q : Int → Mm → Prop} {L : LW} : ∀ (n : Nat) (mem : Mm) (x Y : Int) (r : Rw), pMd m0 mem L r → rOk Y r → Y + n ≤ 5000 → 0 ≤ x → x + n = 201 → (∀ m1, rEq m0 m1 → Q (rId L n x r) m1) → VM E mX12_indoors 1199 mem 13 [(0, aR 603), (1, aI x)] [] (retI Q) := by
  intro n
  induction n with
  | zero =>
    intro mem x Y r hP hok hY h0 h1 hQ
    exact rX12_indoors_13 (k := 1198) hE ⟨fun _ => m_putP hE hP.1 fun m2 a _ => ⟨fun c => absurd c (by omega), fun _ => hQ m2 a⟩, fun c => absurd c (by omega)⟩
  | succ n ih =>
    intro mem x Y r hP hok hY h0 h1 hQ
    unfold rId at hQ
    refine rX12_indoors_13 (k := 1198) hE ⟨fun c => absurd c (by omega), fun _ => m_isW hE (by rw [hP.2.1]; exact hok) ?_⟩
    rw [hP.2.1]
    cases z : rIw r (r 7).toNat with
    | true =>
      rw [z, if_pos rfl] at hQ
      exact ⟨fun _ => m_putP hE hP.1 fun m2 a _ => ⟨fun _ => hQ m2 a, fun c => absurd c (by omega)⟩, fun c => absurd c (by decide)⟩
    | false =>
      rw [z, if_neg (by decide)] at hQ
      exact ⟨fun c => absurd rfl c, fun _ => pMd_turn (k := 1191) hE hP (by omega) hok fun m2 a _ _ => ⟨⟨by omega, by omega⟩, ih m2 (x + 1) (Y + 1) _ a (rTn_ok hok).1 (by omega) (by omega) (by omega) hQ⟩⟩
theorem st_indoors {E : EN} (hE : Ep E) : stI E 1199 (iAll jC) mX11_indoors mX12_indoors 0 := by
  refine obs_pair fun mem av hl hr hC => ?_
  obtain rfl := no_args hl
  obtain ⟨L, hy, hm⟩ := jC_law hC
  have hF := hC.2.2.1
  refine ⟨rId L 201 0 (mem 605), fun Q hQ => ?_, fun m1 Q q1 hC1 hQ => ?_⟩
  · exact eX11_indoors (k := 1198) (rX11_indoors_0 hE (eX5_firstIndoors (k := 1197) (rX5_firstIndoors_0 hE isYd2 (s_begin (k := 1195) hE hF.2.1 hy fun m2 c _ => s_ind_l hE 201 m2 0 999 _ c hF.1 (by decide) (by decide) (by decide) fun m3 d => hQ m3 d))))
  · obtain ⟨hC2, e, hL, h20, hth⟩ := thr_all hm q1 hC1
    refine eX12_indoors (k := 1198) (rX12_indoors_0 hE (pMd_keep hE hth hL h20 fun m2 c _ => ?_))
    rw [e] at c
    exact m_ind_l hE 201 m2 0 999 _ c hF.1 (by decide) (by decide) (by decide) fun m3 d => hQ m3 d
/-- in how many years a plot has come round: n years to look at, the next is x, v cells so far -/
def rRd (L : LW) (p : Int) : Nat → Int → Int → Rw → Int
  | 0, _, _, _ => -1
  | n + 1, x, v, r => if 32 ≤ v + ((rTn L r).1 (8 + p) - r (8 + p)) % 32 then x else rRd L p n (x + 1) (v + ((rTn L r).1 (8 + p) - r (8 + p)) % 32) (rTn L r).1
theorem s_rnd_l {E : EN} (hE : Ep E) {m0 : Mm} {Q : Int → Mm → Prop} {L : LW} {p : Int} (hp : 0 ≤ p) (hp2 : p < 10) : ∀ (n : Nat) (mem : Mm) (x v Y : Int) (r : Rw), pYd m0 mem L r → rOk Y r → Y + n ≤ 5000 → 0 ≤ x → x + n = 201 → 0 ≤ v → v < 32 → (∀ m1, rEq m0 m1 → Q (rRd L p n x v r) m1) → VM E mX5_yearsRound 1198 mem 10 [(0, aR 552), (2, aI p), (3, aI v), (4, aI x)] [] (retI Q) := by
  intro n
  induction n with
  | zero =>
    intro mem x v Y r hP hok hY h0 h1 v0 v1 hQ
    exact rX5_yearsRound_10 (k := 1197) (p0 := 2) hE isYd2 ⟨fun _ => hQ mem hP.1, fun c => absurd c (by omega)⟩
  | succ n ih =>
    intro mem x v Y r hP hok hY h0 h1 v0 v1 hQ
    unfold rRd at hQ
    have e : mem 557 p = r (8 + p) := (hP.2.1.2.2.1 p hp hp2).1
    have b := hok.2.2.1 p hp hp2
    have ok2 := (rTn_ok (L := L) hok).1
    have b2 := ok2.2.2.1 p hp hp2
    refine rX5_yearsRound_10 (k := 1197) (p0 := 2) hE isYd2 ⟨fun c => absurd c (by omega), fun _ => ⟨⟨hp, hp2⟩, pYd_turn (k := 1193) hE hP (by omega) hok fun m2 a _ _ => ?_⟩⟩
    have e2 : m2 557 p = (rTn L r).1 (8 + p) := (a.2.1.2.2.1 p hp hp2).1
    rw [e, e2]
    refine ⟨⟨by omega, by omega⟩, fun r5 => s_floorMod r5 (by decide) ⟨⟨by omega, by omega⟩, fun c => ⟨⟨by omega, by omega⟩, ?_⟩, fun c => ?_⟩⟩
    · rw [if_neg (by omega)] at hQ
      exact ih m2 (x + 1) _ (Y + 1) _ a ok2 (by omega) (by omega) (by omega) (by omega) (by omega) hQ
    · rw [if_pos c] at hQ
      exact hQ m2 a.1
theorem m_rnd_l {E : EN} (hE : Ep E) {m0 : Mm} {Q : Int → Mm → Prop} {L : LW} {p : Int} (hp : 0 ≤ p) : ∀ (n : Nat) (mem : Mm) (x v Y : Int) (r : Rw), pMd m0 mem L r → rOk Y r → p < r 7 → Y + n ≤ 5000 → 1 ≤ x → x + n = 201 → 0 ≤ v → v < 32 → (∀ m1, rEq m0 m1 → Q (rRd L p n x v r) m1) → ∀ z : Int, z = x - 1 → VM E mX12_round 1199 mem 25 [(0, aR 603), (1, aI p), (2, aI z), (3, aI v)] [] (retI Q) := by
  intro n
  induction n with
  | zero =>
    intro mem x v Y r hP hok hp2 hY h0 h1 v0 v1 hQ z hz
    have h7 := hok.2.1
    have b := hok.2.2.1 p hp (by omega)
    have b2 := (rTn_ok (L := L) hok).1.2.2.1 p hp (by omega)
    have go : ∀ (m2 : Mm) (v2 : Int), pMd m0 m2 L (rTn L r).1 → VM E mX12_round 1199 m2 25 [(0, aR 603), (1, aI p), (2, aI 201), (3, aI v2)] [] (retI Q) := fun m2 v2 a => rX12_round_25 (k := 1198) hE ⟨fun _ => m_putP hE a.1 fun m3 b _ => ⟨fun c => absurd c (by decide), fun _ => hQ m3 b⟩, fun c => absurd c (by decide)⟩
    obtain rfl : z = 200 := by omega
    refine rX12_round_25 (k := 1198) hE ⟨fun c => absurd c (by decide), fun _ => ⟨fun c => absurd c (by omega), fun _ => pMd_turn (k := 1191) hE hP (by omega) hok fun m2 a g _ => ?_⟩⟩
    obtain ⟨g1, g2, g3⟩ := g p hp hp2
    exact ⟨⟨hp, by omega⟩, ⟨by omega, by omega⟩, ⟨by omega, by omega⟩, go m2 _ a⟩
  | succ n ih =>
    intro mem x v Y r hP hok hp2 hY h0 h1 v0 v1 hQ z hz
    unfold rRd at hQ
    have h7 := hok.2.1
    have b := hok.2.2.1 p hp (by omega)
    obtain ⟨ok2, kp⟩ := rTn_ok (L := L) hok
    have b2 := ok2.2.2.1 p hp (by omega)
    have e7 : (rTn L r).1 7 = r 7 := kp 7 (by decide) (by decide)
    refine rX12_round_25 (k := 1198) hE ⟨fun c => absurd c (by omega), fun _ => ⟨fun c => absurd c (by omega), fun _ => pMd_turn (k := 1191) hE hP (by omega) hok fun m2 a g _ => ?_⟩⟩
    obtain ⟨g1, g2, g3⟩ := g p hp hp2
    rw [← g1]
    refine ⟨⟨hp, by omega⟩, ⟨by omega, by omega⟩, ⟨by omega, by omega⟩, ?_⟩
    by_cases c : 32 ≤ v + ((rTn L r).1 (8 + p) - r (8 + p)) % 32
    · rw [if_pos c] at hQ
      have ez : z + 1 = x := by omega
      refine rX12_round_25 (k := 1198) hE ⟨fun d => absurd d (by omega), fun _ => ⟨fun _ => m_putP hE a.1 fun m3 b _ => ⟨fun _ => ?_, fun d => absurd d (by omega)⟩, fun d => absurd d (by omega)⟩⟩
      rw [ez]
      exact hQ m3 b
    · rw [if_neg c] at hQ
      exact ih m2 (x + 1) _ (Y + 1) _ a ok2 (by omega) (by omega) (by omega) (by omega) (by omega) (by omega) hQ _ (by omega)
theorem st_round {E : EN} (hE : Ep E) : stI E 1199 (iAll jC) mX11_round mX12_round 1 := by
  refine obs_pair fun mem av hl hr hC => ?_
  obtain ⟨p, rfl⟩ := one_arg hl
  have hp : R32 p := hr p List.mem_cons_self
  obtain ⟨L, hy, hm⟩ := jC_law hC
  have hF := hC.2.2.1
  have h7 := hF.1.2.1
  refine ⟨if 0 ≤ p ∧ p < mem 605 7 then rRd L p 200 1 0 (mem 605) else -1, fun Q hQ => ?_, fun m1 Q q1 hC1 hQ => ?_⟩
  · refine eX11_round (k := 1198) hp (rX11_round_0 hE fun _ => s_has2 hE hC hp (fun a b => ⟨fun d => absurd d (by decide), fun _ _ => ?_⟩) (fun a => ⟨fun _ => ?_, fun d => absurd rfl d⟩))
    · rw [if_pos ⟨a, b⟩] at hQ
      refine eX5_yearsRound (k := 1197) hp (rX5_yearsRound_0 hE isYd2 (s_begin (k := 1195) hE hF.2.1 hy fun m2 c _ => ?_))
      exact s_rnd_l hE a (by omega) 200 m2 1 0 999 _ c hF.1 (by decide) (by decide) (by decide) (by decide) (by decide) fun m3 d => hQ m3 d
    · rw [if_neg (by omega)] at hQ
      exact hQ mem rEq_rf
  · obtain ⟨hC2, e, hL, h20, hth⟩ := thr_all hm q1 hC1
    refine eX12_round (k := 1198) hp (rX12_round_0 hE fun _ => m_isP2 (k := 1197) hE hC2 hp (fun a b => ⟨fun _ => ?_, fun d => absurd d (by decide)⟩) (fun a => ⟨fun d => absurd rfl d, fun _ => ?_⟩))
    · rw [e] at b
      rw [if_pos ⟨a, b⟩] at hQ
      refine pMd_keep hE hth hL h20 fun m2 c _ => ?_
      rw [e] at c
      exact m_rnd_l hE a 200 m2 1 0 999 _ c hF.1 b (by decide) (by decide) (by decide) (by decide) (by decide) (fun m3 d => hQ m3 d) 0 (by decide)
    · rw [e] at a
      rw [if_neg (by omega)] at hQ
      exact hQ _ hth
