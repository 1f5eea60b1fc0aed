-- arrives: the chances by years that were not lost
def chS (f : Int) (j : Int) (a : Int → Int) : Int → Int := rUp (rUp a (j + 1) (a (j + 1) + (a j * (10 - f)).tdiv 10)) j ((a j * f).tdiv 10)
def chI (f : Int) : Nat → (Int → Int) → Int → Int
  | 0, a => a
  | n + 1, a => chI f n (chS f n a)
def chY (f : Int) (g : Nat) : Nat → (Int → Int) → Int → Int
  | 0, a => a
  | y + 1, a => chY f g y (chI f g a)
def chZ : Int → Int := fun j => if j = 0 then 1000000000000 else 0
def arR (m : Mm) (o : Int) (a : Int → Int) : Prop := ∀ j, 0 ≤ j → j ≤ 40 → m o j = a j
/-- bounds: items n and on of g are done in year y -/
def bdI (f : Int) (g : Nat) (y : Int) (n : Nat) (a : Int → Int) : Prop := (∀ i : Int, 0 ≤ i → i < g → 0 ≤ a i ∧ a i ≤ 1000000000000) ∧ 0 ≤ a g ∧ (n = g → a g ≤ y * 1000000000000) ∧ (n < g → a g ≤ (y + 1) * 1000000000000 ∧ 10 * a n ≤ f * 1000000000000)
theorem fr_cases {f : Int} (h0 : 0 ≤ f) (h1 : f ≤ 10) : f = 0 ∨ f = 1 ∨ f = 2 ∨ f = 3 ∨ f = 4 ∨ f = 5 ∨ f = 6 ∨ f = 7 ∨ f = 8 ∨ f = 9 ∨ f = 10 := by omega
theorem td_b {x f : Int} (hx : 0 ≤ x) (hx2 : x ≤ 1000000000000) (h0 : 0 ≤ f) (h1 : f ≤ 10) : 0 ≤ x * f ∧ x * f ≤ 10000000000000 ∧ 0 ≤ (x * f).tdiv 10 ∧ 10 * (x * f).tdiv 10 ≤ f * 1000000000000 := by
  have hn : 0 ≤ x * f := Int.mul_nonneg hx h0
  rw [Int.tdiv_eq_ediv_of_nonneg hn]
  rcases fr_cases h0 h1 with rfl | rfl | rfl | rfl | rfl | rfl | rfl | rfl | rfl | rfl | rfl <;> omega
theorem chS_bd {f : Int} {g : Nat} {y : Int} {n : Nat} {a : Int → Int} (h0 : 0 ≤ f) (h1 : f ≤ 10) (hn : n < g) (hy : 0 ≤ y) (hb : bdI f g y (n + 1) a) : bdI f g y n (chS f n a) := by
  obtain ⟨b1, b2, b3, b4⟩ := hb
  obtain ⟨c1, c2⟩ := b1 n (by omega) (by omega)
  obtain ⟨d1, d2, d3, d4⟩ := td_b c1 c2 h0 h1
  obtain ⟨e1, e2, e3, e4⟩ := td_b (f := 10 - f) c1 c2 (by omega) (by omega)
  have en : chS f n a n = (a n * f).tdiv 10 := rUp_e
  have en1 : chS f n a ((n : Int) + 1) = a ((n : Int) + 1) + (a n * (10 - f)).tdiv 10 := (rUp_n (by omega)).trans rUp_e
  have eo : ∀ i, i ≠ (n : Int) → i ≠ (n : Int) + 1 → chS f n a i = a i := fun i u v => (rUp_n u).trans (rUp_n v)
  have key : ∀ i : Int, i = (n : Int) + 1 → 0 ≤ chS f n a i ∧ (i < g → chS f n a i ≤ 1000000000000) ∧ (i = g → chS f n a i ≤ (y + 1) * 1000000000000) := by
    intro i hi
    subst hi
    rw [en1]
    refine ⟨?_, fun q => ?_, fun q => ?_⟩
    · by_cases z : ((n : Int) + 1) = g
      · rw [z]; omega
      · have := b1 ((n : Int) + 1) (by omega) (by omega)
        omega
    · have := (b4 (by omega)).2
      rw [show (((n + 1 : Nat)) : Int) = (n : Int) + 1 by omega] at this
      omega
    · have := b3 (by omega)
      rw [q]
      omega
  refine ⟨fun i u v => ?_, ?_, fun q => by omega, fun _ => ⟨?_, ?_⟩⟩
  · by_cases z : i = n
    · rw [z, en]; omega
    · by_cases z2 : i = (n : Int) + 1
      · exact ⟨(key i z2).1, (key i z2).2.1 v⟩
      · rw [eo i z z2]; exact b1 i u v
  · by_cases z2 : (g : Int) = (n : Int) + 1
    · exact (key g z2).1
    · rw [eo _ (by omega) z2]; exact b2
  · by_cases z2 : (g : Int) = (n : Int) + 1
    · exact (key g z2).2.2 rfl
    · rw [eo _ (by omega) z2]; exact (b4 (by omega)).1
  · rw [en]; omega
theorem bd_next {f : Int} {g : Nat} {y : Int} {a : Int → Int} (hb : bdI f g y 0 a) : bdI f g (y + 1) g a := by
  obtain ⟨b1, b2, b3, b4⟩ := hb
  refine ⟨b1, b2, fun _ => ?_, fun q => absurd q (Nat.lt_irrefl _)⟩
  by_cases z : 0 = g
  · have := b3 z
    omega
  · exact (b4 (by omega)).1
/-- the class's inner loop, n items to go -/
theorem s_chI {E : EN} (hE : Ep E) {m0 : Mm} {Q : Int → Mm → Prop} {f N x y : Int} {g : Nat} (h0 : 0 ≤ f) (h1 : f ≤ 10) (hg : g ≤ 40) (hy : 0 ≤ y) (hy2 : y ≤ 100) (hx : R32 (x + 1)) : ∀ (n : Nat) (mem : Mm) (a : Int → Int), n ≤ g → rEq m0 mem → arR mem 575 a → bdI f g y n a → (∀ m2, rEq m0 m2 → arR m2 575 (chI f n a) → bdI f g y 0 (chI f n a) → VM E mX5_chanceOf 1198 m2 83 [(0, aR 552), (4, aI N), (5, aI g), (6, aI f), (7, aI (x + 1))] [] (retL Q)) → ∀ z : Int, z = (n : Int) - 1 → VM E mX5_chanceOf 1198 mem 96 [(0, aR 552), (4, aI N), (5, aI g), (6, aI f), (7, aI x), (8, aI z)] [] (retL Q) := by
  intro n
  induction n with
  | zero =>
    intro mem a hn q1 q2 q3 hQ z hz
    exact rX5_chanceOf_96 (k := 1197) (p0 := 2) (p1 := 0) (p2 := 0) hE isYd2 ⟨fun _ => ⟨hx, hQ mem q1 q2 q3⟩, fun c => absurd c (by omega)⟩
  | succ n ih =>
    intro mem a hn q1 q2 q3 hQ z hz
    obtain rfl : z = n := by omega
    have b := q3
    obtain ⟨b1, b2, b3, b4⟩ := b
    obtain ⟨c1, c2⟩ := b1 n (by omega) (by omega)
    obtain ⟨d1, d2, d3, d4⟩ := td_b c1 c2 h0 h1
    obtain ⟨e1, e2, e3, e4⟩ := td_b (f := 10 - f) c1 c2 (by omega) (by omega)
    have ea : mem 575 n = a n := q2 n (by omega) (by omega)
    have ea1 : mem 575 ((n : Int) + 1) = a ((n : Int) + 1) := q2 _ (by omega) (by omega)
    have hb1 : 0 ≤ a ((n : Int) + 1) ∧ a ((n : Int) + 1) ≤ 200000000000000 := by
      by_cases u : ((n : Int) + 1) = g
      · have := b3 (by omega)
        rw [u]
        omega
      · have := b1 ((n : Int) + 1) (by omega) (by omega)
        omega
    refine rX5_chanceOf_96 (k := 1197) (p0 := 2) (p1 := 0) (p2 := 0) hE isYd2 ⟨fun c => absurd c (by omega), fun _ => ?_⟩
    rw [aUp_ri (j := (n : Int)) (by omega), ea, ea1, w64_id (x := (a n * (10 - f)).tdiv 10) (by omega) (by omega), w64_id (x := (a n * f).tdiv 10) (by omega) (by omega)]
    refine ⟨⟨by omega, by omega⟩, ⟨by omega, by omega⟩, ⟨by omega, by omega⟩, ⟨by omega, by omega⟩, ⟨by omega, by omega⟩, ⟨by omega, by omega⟩, ⟨by omega, by omega⟩, ⟨by omega, by omega⟩, ih _ (chS f n a) (by omega) (fun o i u => ?_) (fun j u v => ?_) (chS_bd h0 h1 (by omega) hy q3) hQ _ (by omega)⟩
    · rw [aUp_rn (fun w => u (by unfold scr; omega)), aUp_rn (fun w => u (by unfold scr; omega))]
      exact q1 o i u
    · unfold chS
      by_cases w : j = n
      · rw [w, aUp_re, rUp_e]
      · rw [aUp_ri w, rUp_n w]
        by_cases w2 : j = (n : Int) + 1
        · rw [w2, aUp_re, rUp_e]
        · rw [aUp_ri w2, rUp_n w2]
          exact q2 j u v
theorem s_chY {E : EN} (hE : Ep E) {m0 : Mm} {Q : Int → Mm → Prop} {f N : Int} {g : Nat} (h0 : 0 ≤ f) (h1 : f ≤ 10) (hg : g ≤ 40) (hN : N ≤ 40) : ∀ (n : Nat) (mem : Mm) (a : Int → Int) (x : Int), 0 ≤ x → x + n = N → rEq m0 mem → arR mem 575 a → bdI f g (x + 1) g a → (∀ m2, rEq m0 m2 → Q (chY f g n a g) m2) → VM E mX5_chanceOf 1198 mem 83 [(0, aR 552), (4, aI N), (5, aI g), (6, aI f), (7, aI x)] [] (retL Q) := by
  intro n
  induction n with
  | zero =>
    intro mem a x u v q1 q2 q3 hQ
    refine rX5_chanceOf_83 (k := 1197) (p0 := 2) (p1 := 0) (p2 := 0) hE isYd2 ⟨fun _ => ⟨⟨by omega, by omega⟩, ?_⟩, fun c => absurd c (by omega)⟩
    rw [q2 g (by omega) (by omega)]
    exact hQ mem q1
  | succ n ih =>
    intro mem a x u v q1 q2 q3 hQ
    refine rX5_chanceOf_83 (k := 1197) (p0 := 2) (p1 := 0) (p2 := 0) hE isYd2 ⟨fun c => absurd c (by omega), fun _ => ⟨⟨by omega, by omega⟩, s_chI hE h0 h1 hg (y := x + 1) (by omega) (by omega) ⟨by omega, by omega⟩ g mem a (Nat.le_refl _) q1 q2 q3 (fun m2 z1 z2 z3 => ih m2 _ (x + 1) (by omega) (by omega) z1 z2 (bd_next z3) hQ) _ rfl⟩⟩
theorem m_chI {E : EN} (hE : Ep E) {m0 : Mm} {Q : Int → Mm → Prop} {f N x y : Int} {g : Nat} (hf : m0 605 5 = f) (h0 : 0 ≤ f) (h1 : f ≤ 10) (hg : g ≤ 40) (hy : 0 ≤ y) (hy2 : y ≤ 100) (hx : R32 (x + 1)) : ∀ (n : Nat) (mem : Mm) (a : Int → Int), n ≤ g → rEq m0 mem → arR mem 626 a → bdI f g y n a → (∀ m2, rEq m0 m2 → arR m2 626 (chI f n a) → bdI f g y 0 (chI f n a) → VM E mX12_arrives 1199 m2 103 [(0, aR 603), (3, aI N), (4, aI g), (5, aI (x + 1))] [] (retL Q)) → ∀ z : Int, z = (n : Int) - 1 → VM E mX12_arrives 1199 mem 115 [(0, aR 603), (3, aI N), (4, aI g), (5, aI x), (6, aI z)] [] (retL Q) := by
  intro n
  induction n with
  | zero =>
    intro mem a hn q1 q2 q3 hQ z hz
    exact rX12_arrives_115 (k := 1198) (p0 := 0) (p1 := 0) hE ⟨fun _ => ⟨hx, hQ mem q1 q2 q3⟩, fun c => absurd c (by omega)⟩
  | succ n ih =>
    intro mem a hn q1 q2 q3 hQ z hz
    obtain rfl : z = n := by omega
    have b := q3
    obtain ⟨b1, b2, b3, b4⟩ := b
    obtain ⟨c1, c2⟩ := b1 n (by omega) (by omega)
    obtain ⟨d1, d2, d3, d4⟩ := td_b c1 c2 h0 h1
    obtain ⟨e1, e2, e3, e4⟩ := td_b (f := 10 - f) c1 c2 (by omega) (by omega)
    have ea : mem 626 n = a n := q2 n (by omega) (by omega)
    have ea1 : mem 626 ((n : Int) + 1) = a ((n : Int) + 1) := q2 _ (by omega) (by omega)
    have e5 : mem 605 5 = f := (congrFun (rEq_605 q1) 5).trans hf
    have hb1 : 0 ≤ a ((n : Int) + 1) ∧ a ((n : Int) + 1) ≤ 200000000000000 := by
      by_cases u : ((n : Int) + 1) = g
      · have := b3 (by omega)
        rw [u]
        omega
      · have := b1 ((n : Int) + 1) (by omega) (by omega)
        omega
    refine rX12_arrives_115 (k := 1198) (p0 := 0) (p1 := 0) hE ⟨fun c => absurd c (by omega), fun _ => ⟨⟨by omega, by omega⟩, m_term hE (by decide) (by decide) ?_⟩⟩
    rw [show (3 : Int) + 2 = 5 from rfl, e5, ea, w64_id (x := (a n * f).tdiv 10) (by omega) (by omega)]
    refine ⟨⟨by omega, by omega⟩, ⟨by omega, by omega⟩, ⟨by omega, by omega⟩, m_term hE (by decide) (by decide) ?_⟩
    rw [show (3 : Int) + 2 = 5 from rfl, aUp_rn (b := 605) (by decide), e5, aUp_ri (j := (n : Int) + 1) (by omega), ea1, w64_id (x := (a n * (10 - f)).tdiv 10) (by omega) (by omega)]
    refine ⟨⟨by omega, by omega⟩, ⟨by omega, by omega⟩, ⟨by omega, by omega⟩, ⟨by omega, by omega⟩, ih _ (chS f n a) (by omega) (fun o i u => ?_) (fun j u v => ?_) (chS_bd h0 h1 (by omega) hy q3) hQ _ (by omega)⟩
    · rw [aUp_rn (fun w => u (by unfold scr; omega)), aUp_rn (fun w => u (by unfold scr; omega))]
      exact q1 o i u
    · unfold chS
      by_cases w : j = n
      · rw [w, aUp_ri (by omega), aUp_re, rUp_e]
      · rw [rUp_n w]
        by_cases w2 : j = (n : Int) + 1
        · rw [w2, aUp_re, rUp_e]
        · rw [aUp_ri w2, aUp_ri w, rUp_n w2]
          exact q2 j u v
theorem m_chY {E : EN} (hE : Ep E) {m0 : Mm} {Q : Int → Mm → Prop} {f N : Int} {g : Nat} (hf : m0 605 5 = f) (h0 : 0 ≤ f) (h1 : f ≤ 10) (hg : g ≤ 40) (hN : N ≤ 40) : ∀ (n : Nat) (mem : Mm) (a : Int → Int) (x : Int), 0 ≤ x → x + n = N → rEq m0 mem → arR mem 626 a → bdI f g (x + 1) g a → (∀ m2, rEq m0 m2 → Q (chY f g n a g) m2) → VM E mX12_arrives 1199 mem 103 [(0, aR 603), (3, aI N), (4, aI g), (5, aI x)] [] (retL Q) := by
  intro n
  induction n with
  | zero =>
    intro mem a x u v q1 q2 q3 hQ
    refine rX12_arrives_103 (k := 1198) (p0 := 0) (p1 := 0) hE ⟨fun _ => ⟨⟨by omega, by omega⟩, ?_⟩, fun c => absurd c (by omega)⟩
    rw [q2 g (by omega) (by omega)]
    exact hQ mem q1
  | succ n ih =>
    intro mem a x u v q1 q2 q3 hQ
    refine rX12_arrives_103 (k := 1198) (p0 := 0) (p1 := 0) hE ⟨fun c => absurd c (by omega), fun _ => ⟨⟨by omega, by omega⟩, m_chI hE hf h0 h1 hg (y := x + 1) (by omega) (by omega) ⟨by omega, by omega⟩ g mem a (Nat.le_refl _) q1 q2 q3 (fun m2 z1 z2 z3 => ih m2 _ (x + 1) (by omega) (by omega) z1 z2 (bd_next z3) hQ) _ rfl⟩⟩
theorem chZ_bd {f : Int} {g : Nat} (h0 : 0 ≤ f) : bdI f g 1 g chZ := by
  unfold chZ
  refine ⟨fun i u v => ?_, ?_, fun _ => ?_, fun q => absurd q (Nat.lt_irrefl _)⟩
  · dsimp only; split <;> omega
  · dsimp only; split <;> omega
  · dsimp only; split <;> omega
/-- the rows are emptied -/
theorem s_ch0 {E : EN} (hE : Ep E) {m0 : Mm} {Q : Int → Mm → Prop} {f N g : Int} (hQ : ∀ m2, rEq m0 m2 → arR m2 575 chZ → VM E mX5_chanceOf 1198 m2 83 [(0, aR 552), (4, aI N), (5, aI g), (6, aI f), (7, aI 0)] [] (retL Q)) : ∀ (n : Nat) (mem : Mm) (x : Int), 0 ≤ x → x + n = 41 → rEq m0 mem → (∀ j, 0 ≤ j → j < x → mem 575 j = 0) → VM E mX5_chanceOf 1198 mem 50 [(0, aR 552), (4, aI N), (5, aI g), (6, aI f), (7, aI x)] [] (retL Q) := by
  intro n
  induction n with
  | zero =>
    intro mem x h0 h1 h2 h3
    refine rX5_chanceOf_50 (k := 1197) (p0 := 2) (p1 := 0) (p2 := 0) hE isYd2 ⟨fun _ => hQ _ (fun o i u => ?_) (fun j u v => ?_), fun c => absurd c (by omega)⟩
    · rw [aUp_rn (fun w => u (by unfold scr; omega))]; exact h2 o i u
    · unfold chZ
      by_cases w : j = 0
      · rw [w, aUp_re]; rfl
      · rw [aUp_ri w, if_neg w]; exact h3 j u (by omega)
  | succ n ih =>
    intro mem x h0 h1 h2 h3
    refine rX5_chanceOf_50 (k := 1197) (p0 := 2) (p1 := 0) (p2 := 0) hE isYd2 ⟨fun c => absurd c (by omega), fun _ => ⟨⟨by omega, by omega⟩, ⟨by omega, by omega⟩, ih _ (x + 1) (by omega) (by omega) (fun o i u => ?_) (fun j u v => ?_)⟩⟩
    · rw [aUp_rn (fun w => u (by unfold scr; omega))]; exact h2 o i u
    · by_cases w : j = x
      · rw [w, aUp_re]
      · rw [aUp_ri w]; exact h3 j u (by omega)
theorem m_ch0 {E : EN} (hE : Ep E) {m0 : Mm} {Q : Int → Mm → Prop} {N g : Int} (hQ : ∀ m2, rEq m0 m2 → arR m2 626 chZ → VM E mX12_arrives 1199 m2 103 [(0, aR 603), (3, aI N), (4, aI g), (5, aI 0)] [] (retL Q)) : ∀ (n : Nat) (mem : Mm) (x : Int), 0 ≤ x → x + n = 42 → rEq m0 mem → (∀ j, 0 ≤ j → j < x → mem 626 j = 0) → VM E mX12_arrives 1199 mem 70 [(0, aR 603), (3, aI N), (4, aI g), (5, aI x)] [] (retL Q) := by
  intro n
  induction n with
  | zero =>
    intro mem x h0 h1 h2 h3
    refine rX12_arrives_70 (k := 1198) (p0 := 0) (p1 := 0) hE ⟨fun _ => hQ _ (fun o i u => ?_) (fun j u v => ?_), fun c => absurd c (by omega)⟩
    · rw [aUp_rn (fun w => u (by unfold scr; omega))]; exact h2 o i u
    · unfold chZ
      by_cases w : j = 0
      · rw [w, aUp_re]; rfl
      · rw [aUp_ri w, if_neg w]; exact h3 j u (by omega)
  | succ n ih =>
    intro mem x h0 h1 h2 h3
    refine rX12_arrives_70 (k := 1198) (p0 := 0) (p1 := 0) hE ⟨fun c => absurd c (by omega), fun _ => ⟨⟨by omega, by omega⟩, ⟨by omega, by omega⟩, ih _ (x + 1) (by omega) (by omega) (fun o i u => ?_) (fun j u v => ?_)⟩⟩
    · rw [aUp_rn (fun w => u (by unfold scr; omega))]; exact h2 o i u
    · by_cases w : j = x
      · rw [w, aUp_re]
      · rw [aUp_ri w]; exact h3 j u (by omega)
def rAr (L : LW) (r : Rw) (p c n : Int) : Int := if rYi L p c n.toNat 0 r = -1 then 0 else if rYi L p c n.toNat 0 r = 0 then 1000000000000 else chY (r 5) (rYi L p c n.toNat 0 r).toNat n.toNat chZ (rYi L p c n.toNat 0 r).toNat
theorem chY_0 {f : Int} {n : Nat} {a : Int → Int} : chY f 0 n a = a := by
  induction n with
  | zero => rfl
  | succ n ih => exact ih
theorem st_arrives {E : EN} (hE : Ep E) : stL E 1199 (iAll jC) mX11_arrives mX12_arrives 3 := by
  refine obs_pairL fun mem av hl hr hC => ?_
  obtain ⟨p, c, n, rfl⟩ := three_arg hl
  have hp : R32 p := hr p (by simp)
  have hc : R32 c := hr c (by simp)
  have hn : R32 n := hr n (by simp)
  obtain ⟨L, hy, hm⟩ := jC_law hC
  have hF := hC.2.2.1
  have h7 := hF.1.2.1
  have f0 := hF.1.2.2.2.2.2.2.2.2.1
  have f1 := hF.1.2.2.2.2.2.2.2.2.2.1
  refine ⟨if (0 ≤ p ∧ p < mem 605 7) ∧ (0 ≤ c ∧ c < 32) ∧ 0 ≤ n ∧ n ≤ 40 then rAr L (mem 605) p c n else -1, fun Q hQ => ?_, fun m1 Q q1 hC1 hQ => ?_⟩
  · refine eX11_arrives (k := 1198) hp hc hn (rX11_arrives_0 hE fun _ => s_has2 hE hC hp (fun a b => ⟨fun d => absurd d (by decide), fun _ _ => s_isCell hE hc (fun a2 b2 => ⟨fun d => absurd d (by decide), fun _ _ => s_isWithin hE hn (by decide) (by decide) (fun a3 b3 => ⟨fun _ _ _ _ => ?_, fun d => absurd d (by decide)⟩) (fun a3 => ⟨fun d => absurd rfl d, fun _ => ?_⟩)⟩) (fun a2 => ⟨fun _ => ?_, fun d => absurd rfl d⟩)⟩) (fun a => ⟨fun _ => ?_, fun d => absurd rfl d⟩))
    · rw [if_pos ⟨⟨a, b⟩, ⟨a2, b2⟩, a3, b3⟩] at hQ
      refine eX5_chanceOf (k := 1197) hp hc hn (rX5_chanceOf_0 hE isYd2 (s_begin (k := 1195) hE hF.2.1 hy fun m2 cP _ r1 r2 r3 => s_yearIn (k := 1192) hE a (by omega) r2 a3 (by omega) cP hF.1 (by omega) fun m3 d _ => ?_))
      have hle := rYi_le (L := L) (p := p) (c := c) n.toNat 0 (mem 605)
      unfold rAr at hQ
      refine ⟨fun z => ?_, fun z => ⟨fun z1 => ⟨fun z2 => ?_, fun z2 => ?_⟩, fun z1 => absurd z1 (by omega)⟩⟩
      · rw [if_pos z] at hQ; exact hQ m3 d
      · rw [if_neg z, if_neg z2] at hQ
        have ef : m3 10 2 = mem 605 5 := ((rEk_yR (rEq_k d) (Or.inl rfl) hF.2.1).2.2.2 2 (by decide) (by decide))
        rw [show (2 : Int) + 8 = 10 from rfl, ef]
        refine s_ch0 hE (fun m4 y1 y2 => ?_) 41 m3 0 (by decide) (by decide) d (fun j u v => absurd v (by omega))
        have eg : rYi L p c n.toNat 0 (mem 605) = ((rYi L p c n.toNat 0 (mem 605)).toNat : Int) := by omega
        rw [eg]
        exact s_chY hE f0 f1 (by omega) b3 n.toNat m4 chZ 0 (by decide) (by omega) y1 y2 (chZ_bd f0) hQ
      · rw [if_neg z, if_pos z2] at hQ; exact hQ m3 d
    · rw [if_neg (by omega)] at hQ
      exact hQ mem rEq_rf
    · rw [if_neg (by omega)] at hQ
      exact hQ mem rEq_rf
    · rw [if_neg (by omega)] at hQ
      exact hQ mem rEq_rf
  · obtain ⟨hC2, e, hL, h20, hth⟩ := thr_all hm q1 hC1
    refine eX12_arrives (k := 1198) hp hc hn (rX12_arrives_0 hE fun _ => m_isP2 (k := 1197) hE hC2 hp (fun a b => ⟨fun d => absurd d (by decide), fun _ _ => m_isCell (k := 1197) hE hc (fun a2 b2 => ⟨fun d => absurd d (by decide), fun _ r => s_in hE r (by decide) (by decide) (fun a3 b3 => ⟨fun _ => ?_, fun d => absurd d (by decide)⟩) (fun a3 => ⟨fun d => absurd rfl d, fun _ => ?_⟩)⟩) (fun a2 => ⟨fun _ => ?_, fun d => absurd rfl d⟩)⟩) (fun a => ⟨fun _ => ?_, fun d => absurd rfl d⟩))
    · rw [e] at b
      rw [if_pos ⟨⟨a, b⟩, ⟨a2, b2⟩, a3, b3⟩] at hQ
      refine pMd_keep hE hth hL h20 fun m2 cP _ r1 r2 r3 => ?_
      rw [e] at cP
      refine m_yearIn (k := 1190) hE a (by omega) r2 a3 (by omega) cP hF.1 (by omega) fun m3 rr d _ => m_putP hE d.1 fun m4 g _ => ?_
      have hle := rYi_le (L := L) (p := p) (c := c) n.toNat 0 (mem 605)
      unfold rAr at hQ
      by_cases z : rYi L p c n.toNat 0 (mem 605) = -1
      · rw [if_pos z] at hQ ⊢
        exact ⟨fun w => absurd rfl w, fun _ => hQ m4 g⟩
      · rw [if_neg z] at hQ ⊢
        refine ⟨fun _ => ?_, fun w => absurd w (by omega)⟩
        refine m_ch0 hE (m0 := m1) (fun m5 y1 y2 => ?_) 42 m4 0 (by decide) (by decide) g (fun j u v => absurd v (by omega))
        have e5 : m1 605 5 = mem 605 5 := congrFun (rEq_605 q1) 5
        have eg : rYi L p c n.toNat 0 (mem 605) = ((rYi L p c n.toNat 0 (mem 605)).toNat : Int) := by omega
        rw [eg]
        refine m_chY hE e5 f0 f1 (by omega) b3 n.toNat m5 chZ 0 (by decide) (by omega) y1 y2 (chZ_bd f0) fun m6 w => ?_
        by_cases z2 : rYi L p c n.toNat 0 (mem 605) = 0
        · rw [if_pos z2] at hQ
          rw [z2]
          show Q (chY (mem 605 5) 0 n.toNat chZ 0) m6
          rw [chY_0]
          exact hQ m6 w
        · rw [if_neg z2] at hQ
          exact hQ m6 w
    · rw [if_neg (by omega)] at hQ
      exact hQ _ hth
    · rw [if_neg (by omega)] at hQ
      exact hQ _ hth
    · rw [e] at a
      rw [if_neg (by omega)] at hQ
      exact hQ _ hth
