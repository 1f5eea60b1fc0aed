-- a run of ORDERS, as both sides do it
abbrev RS : Type := Rw × PS × Int × Int × Int
def wO (r : Rw) (dn mv : Int) : Rw := fun i => if i = 0 then r 3 else if i = 1 then r 7 else if i = 2 then dn else if i = 3 then mv else if 4 ≤ i ∧ i < 14 then (if i - 4 < r 7 then r (4 + i) else -1) else if 14 ≤ i ∧ i < 46 then r (66 + i) else if 46 ≤ i ∧ i < 78 then r (2 + i) else 0
theorem wO_p {r : Rw} {dn mv p : Int} (h0 : 0 ≤ p) (h1 : p < 10) : wO r dn mv (4 + p) = if p < r 7 then r (8 + p) else -1 := by
  unfold wO
  rw [if_neg (by omega), if_neg (by omega), if_neg (by omega), if_neg (by omega), if_pos (by omega)]
  by_cases c : p < r 7
  · rw [if_pos c, if_pos (by omega)]
    congr 1
    omega
  · rw [if_neg c, if_neg (by omega)]
theorem wO_k {r : Rw} {dn mv c : Int} (h0 : 0 ≤ c) (h1 : c < 32) : wO r dn mv (14 + c) = r (80 + c) := by
  unfold wO
  rw [if_neg (by omega), if_neg (by omega), if_neg (by omega), if_neg (by omega), if_neg (by omega), if_pos (by omega)]
  congr 1
  omega
theorem wO_g {r : Rw} {dn mv c : Int} (h0 : 0 ≤ c) (h1 : c < 32) : wO r dn mv (46 + c) = r (48 + c) := by
  unfold wO
  rw [if_neg (by omega), if_neg (by omega), if_neg (by omega), if_neg (by omega), if_neg (by omega), if_neg (by omega), if_pos (by omega)]
  congr 1
  omega
theorem wO_ok {r : Rw} {dn mv : Int} (h : rOk 999 r) (hd : 0 ≤ dn ∧ dn ≤ 1000) (hm : -1 ≤ mv ∧ mv ≤ 1000) : wOk (wO r dn mv) := by
  obtain ⟨h1, h2, h3, h4, h5, h6, -⟩ := h
  intro i
  by_cases a : 4 ≤ i ∧ i < 14
  · have := h3 (i - 4) (by omega) (by omega)
    rw [show i = 4 + (i - 4) by omega, wO_p (by omega) (by omega)]
    split <;> omega
  by_cases b : 14 ≤ i ∧ i < 46
  · have := h4 (i - 14) (by omega) (by omega)
    rw [show i = 14 + (i - 14) by omega, wO_k (by omega) (by omega)]
    omega
  by_cases c : 46 ≤ i ∧ i < 78
  · have := h4 (i - 46) (by omega) (by omega)
    rw [show i = 46 + (i - 46) by omega, wO_g (by omega) (by omega)]
    omega
  unfold wO
  rw [if_neg a, if_neg b, if_neg c]
  split
  · omega
  split
  · omega
  split
  · omega
  split <;> omega
def aAct (L : LW) (v x y : Int) (r : Rw) (P : PS) : AT := if v = 0 then aBury L r P x y 0 else if v = 1 then aBuy r P x else if v = 2 then aRaise r P x else aPass L r P
theorem aAct_ok {L : LW} {v x y : Int} {r : Rw} {P : PS} (hok : rOk 999 r) (hP : pOk P) : aOk r (aAct L v x y r P) := by
  unfold aAct
  by_cases a : v = 0
  · rw [if_pos a]; exact aBury_ok hok hP (Or.inl rfl)
  rw [if_neg a]
  by_cases b : v = 1
  · rw [if_pos b]; exact aBuy_ok hok hP
  rw [if_neg b]
  by_cases c : v = 2
  · rw [if_pos c]; exact aRaise_ok hok hP
  rw [if_neg c]; exact aPass_ok hok hP
def oAct (L : LW) (cl : CLd) (s : RS) : AT := aAct L cl.1 (cl.2.2.1 (wO s.1 s.2.2.1 s.2.2.2.1)) (cl.2.2.2.1 (wO s.1 s.2.2.1 s.2.2.2.1)) s.1 s.2.1
def oNext (L : LW) (cl : CLd) (s : RS) : RS := ((oAct L cl s).2.1, (oAct L cl s).2.2, s.2.2.1 + 1, (if cl.1 = 3 then (oAct L cl s).1 else s.2.2.2.1), (if cl.1 = 3 then (rTn L s.1).2.2 else s.2.2.2.2))
def oStep (L : LW) (cl : CLd) (s : RS) : Int × RS := if ¬ cl.2.2.2.2 (wO s.1 s.2.2.1 s.2.2.2.1) = 1 then (0, s) else if cl.2.2.1 (wO s.1 s.2.2.1 s.2.2.2.1) = bRK ∨ cl.2.2.2.1 (wO s.1 s.2.2.1 s.2.2.2.1) = bRK then (-3, s) else
  if (oAct L cl s).1 < 0 then ((if (oAct L cl s).1 = -5 then -5 else -3), s) else (0, oNext L cl s)
def oRep (L : LW) (cl : CLd) : Nat → RS → Int × RS
  | 0, s => (0, s)
  | n + 1, s => if (oStep L cl s).1 < 0 then oStep L cl s else oRep L cl n (oStep L cl s).2
def oAll (L : LW) : List CLd → Int → RS → Int × Int × RS
  | [], i, s => (0, i, s)
  | cl :: l, i, s => if (oRep L cl cl.2.1.toNat s).1 < 0 then ((oRep L cl cl.2.1.toNat s).1, i, (oRep L cl cl.2.1.toNat s).2) else oAll L l (i + 1) (oRep L cl cl.2.1.toNat s).2
/-- a state on the way: from row r0, at most d done -/
def oOk (r0 : Rw) (d : Int) (s : RS) : Prop := rOk 999 s.1 ∧ pOk s.2.1 ∧ (∀ i, i < 3 ∨ 80 ≤ i → s.1 i = r0 i) ∧ (0 ≤ s.2.2.1 ∧ s.2.2.1 ≤ d) ∧ (-1 ≤ s.2.2.2.1 ∧ s.2.2.2.1 ≤ 1000) ∧ 0 ≤ s.2.2.2.2 ∧ s.2.2.2.2 ≤ 10
theorem oStep_ok {L : LW} {cl : CLd} {s : RS} {r0 : Rw} {d : Int} (h : oOk r0 d s) : oOk r0 (d + 1) (oStep L cl s).2 := by
  obtain ⟨h1, h2, h3, h4, h5, h6, h7⟩ := h
  have z : oOk r0 (d + 1) s := ⟨h1, h2, h3, ⟨h4.1, by omega⟩, h5, h6, h7⟩
  unfold oStep
  by_cases a : ¬ cl.2.2.2.2 (wO s.1 s.2.2.1 s.2.2.2.1) = 1
  · rw [if_pos a]; exact z
  rw [if_neg a]
  by_cases b : cl.2.2.1 (wO s.1 s.2.2.1 s.2.2.2.1) = bRK ∨ cl.2.2.2.1 (wO s.1 s.2.2.1 s.2.2.2.1) = bRK
  · rw [if_pos b]; exact z
  rw [if_neg b]
  by_cases c : (oAct L cl s).1 < 0
  · rw [if_pos c]; exact z
  rw [if_neg c]
  obtain ⟨o1, o2, o3, o4, o5⟩ : aOk s.1 (oAct L cl s) := aAct_ok h1 h2
  have hm := rTn_mv (L := L) h1.2.1
  refine ⟨o1, o2, fun i q => (o3 i q).trans (h3 i q), ⟨by show 0 ≤ s.2.2.1 + 1; omega, by show s.2.2.1 + 1 ≤ d + 1; omega⟩, ?_, ?_⟩
  · show -1 ≤ (if cl.1 = 3 then (oAct L cl s).1 else s.2.2.2.1) ∧ (if cl.1 = 3 then (oAct L cl s).1 else s.2.2.2.1) ≤ 1000
    split <;> omega
  · show 0 ≤ (if cl.1 = 3 then (rTn L s.1).2.2 else s.2.2.2.2) ∧ (if cl.1 = 3 then (rTn L s.1).2.2 else s.2.2.2.2) ≤ 10
    split <;> omega
theorem oStep_v {L : LW} {cl : CLd} {s : RS} : (oStep L cl s).1 = 0 ∨ (oStep L cl s).1 = -3 ∨ (oStep L cl s).1 = -5 := by
  unfold oStep
  by_cases a : ¬ cl.2.2.2.2 (wO s.1 s.2.2.1 s.2.2.2.1) = 1
  · rw [if_pos a]; exact Or.inl rfl
  rw [if_neg a]
  by_cases b : cl.2.2.1 (wO s.1 s.2.2.1 s.2.2.2.1) = bRK ∨ cl.2.2.2.1 (wO s.1 s.2.2.1 s.2.2.2.1) = bRK
  · rw [if_pos b]; exact Or.inr (Or.inl rfl)
  rw [if_neg b]
  by_cases c : (oAct L cl s).1 < 0
  · rw [if_pos c]
    by_cases e : (oAct L cl s).1 = -5
    · exact Or.inr (Or.inr (if_pos e))
    · exact Or.inr (Or.inl (if_neg e))
  · rw [if_neg c]; exact Or.inl rfl
/-- the words of ORDERS, told by the class -/
theorem s_tellO {E : EN} (hE : Ep E) {k : Nat} {mem : Mm} {Q : Mm → Prop} {r : Rw} {dn mv : Int} (hR : yR mem 2 r) (h10 : r 7 ≤ 10) (h3 : mem 10 0 = r 3) (hd : mem 1 8 = dn) (hm : mem 1 7 = mv) (hQ : ∀ m2 : Mm, (∀ o i, o ≠ 348 → m2 o i = mem o i) → (∀ i, 0 ≤ i → i < 78 → m2 348 i = wO r dn mv i) → Q m2) : CV E mX8_tell k mem [aR 1] Q := by
  have e10 := hR.1
  have l2 : ∀ (d : Nat) (x : Int) (m : Mm), 0 ≤ x → x + d = 32 → (∀ o i, o ≠ 348 → m o i = mem o i) → (∀ i, 0 ≤ i → i < 14 + x → m 348 i = wO r dn mv i) → (∀ i, 46 ≤ i → i < 46 + x → m 348 i = wO r dn mv i) → VM E mX8_tell k m 96 [(0, aR 1), (1, aI x)] [] (retV Q) := by
    intro d
    induction d with
    | zero =>
      intro x m x0 xd f a b
      refine rX8_tell_96 hE ⟨fun _ => hQ m f fun i i0 i1 => ?_, fun z => absurd z (by omega)⟩
      by_cases c : i < 46
      · exact a i i0 (by omega)
      · exact b i (by omega) (by omega)
    | succ d ih =>
      intro x m x0 xd f a b
      obtain ⟨q1, q2, q3⟩ := hR.2.1 x x0 (by omega)
      have e3 : m 3 x = r (80 + x) := (f 3 x (by decide)).trans q1
      have e5 : m 5 x = r (48 + x) := (f 5 x (by decide)).trans q3
      refine rX8_tell_96 hE ⟨fun z => absurd z (by omega), fun _ => ⟨⟨by omega, by omega⟩, ⟨by omega, by omega⟩, ⟨by omega, by omega⟩, ⟨by omega, by omega⟩, ⟨by omega, by omega⟩, ⟨by omega, by omega⟩, ?_⟩⟩
      rw [e3, e5]
      refine ih (x + 1) _ (by omega) (by omega) (fun o i z => by rw [aUp_rn z, aUp_rn z]; exact f o i z) (fun i i0 i1 => ?_) (fun i i0 i1 => ?_)
      · by_cases c : i = 46 + x
        · omega
        rw [aUp_ri c]
        by_cases c2 : i = 14 + x
        · rw [c2, aUp_re, wO_k x0 (by omega)]
        · rw [aUp_ri c2]; exact a i i0 (by omega)
      · by_cases c : i = 46 + x
        · rw [c, aUp_re, wO_g x0 (by omega)]
        · rw [aUp_ri c, aUp_ri (by omega)]; exact b i i0 (by omega)
  have l1 : ∀ (d : Nat) (x : Int) (m : Mm), 0 ≤ x → x + d = 10 → (∀ o i, o ≠ 348 → m o i = mem o i) → (∀ i, 0 ≤ i → i < 4 + x → m 348 i = wO r dn mv i) → VM E mX8_tell k m 50 [(0, aR 1), (1, aI x)] [] (retV Q) := by
    intro d
    induction d with
    | zero =>
      intro x m x0 xd f a
      exact rX8_tell_50 hE ⟨fun _ => l2 32 0 m (by decide) (by decide) f (fun i i0 i1 => a i i0 (by omega)) (fun i i0 i1 => absurd i1 (by omega)), fun z => absurd z (by omega)⟩
    | succ d ih =>
      intro x m x0 xd f a
      have q1 := (hR.2.2.1 x x0 (by omega)).1
      have e6 : m 6 x = r (8 + x) := (f 6 x (by decide)).trans q1
      have e2 : m 2 10 = r 7 := (f 2 10 (by decide)).trans e10
      refine rX8_tell_50 hE ⟨fun z => absurd z (by omega), fun _ => ⟨⟨by omega, by omega⟩, fun c => ⟨⟨by omega, by omega⟩, ⟨by omega, by omega⟩, ?_⟩, fun c => ⟨⟨by omega, by omega⟩, ⟨by omega, by omega⟩, ⟨by omega, by omega⟩, ?_⟩⟩⟩
      · rw [e2] at c
        refine ih (x + 1) _ (by omega) (by omega) (fun o i z => (aUp_rn z).trans (f o i z)) (fun i i0 i1 => ?_)
        by_cases c2 : i = 4 + x
        · rw [c2, aUp_re, wO_p x0 (by omega), if_neg (by omega)]
        · rw [aUp_ri c2]; exact a i i0 (by omega)
      · rw [e2] at c
        rw [e6]
        refine ih (x + 1) _ (by omega) (by omega) (fun o i z => (aUp_rn z).trans (f o i z)) (fun i i0 i1 => ?_)
        by_cases c2 : i = 4 + x
        · rw [c2, aUp_re, wO_p x0 (by omega), if_pos c]
        · rw [aUp_ri c2]; exact a i i0 (by omega)
  refine eX8_tell (rX8_tell_0 hE (l1 10 0 _ (by decide) (by decide) (fun o i z => by rw [aUp_rn z, aUp_rn z, aUp_rn z, aUp_rn z]) (fun i i0 i1 => ?_)))
  have : i = 0 ∨ i = 1 ∨ i = 2 ∨ i = 3 := by omega
  rcases this with rfl | rfl | rfl | rfl
  · rw [aUp_ri (by decide), aUp_ri (by decide), aUp_ri (by decide), aUp_re, h3]; rfl
  · rw [aUp_ri (by decide), aUp_ri (by decide), aUp_re, e10]; rfl
  · rw [aUp_ri (by decide), aUp_re, hd]; rfl
  · rw [aUp_re, hm]; rfl
