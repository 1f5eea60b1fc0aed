-- PURE: what a text says: place behind, PARTS so far, what it comes to (or the FAULT's place)
abbrev PV : Type := Int × Int × (Rw → Int)
abbrev PR : Type := PV ⊕ Int
def op2 (o a b : Int) : Int := if a = bRK then bRK else if o = 29 then (if a = 0 then a else b) else if o = 30 then (if a = 1 then a else b) else if b = bRK then bRK else vOp o a b
def cmb (o : Int) (f g : Rw → Int) : Rw → Int := if o = -1 then g else fun w => op2 o (f w) (g w)
def neg (b : Bool) (f : Rw → Int) : Rw → Int := if b = true then (fun w => if f w = bRK then bRK else 1 - f w) else f
def f0 : Rw → Int := fun _ => 0
def oMul (g : Int) : Int := if g = 42 then 22 else if g = 47 then 23 else if g = 37 then 24 else -1
def oAdd (g : Int) : Int := if g = 43 then 20 else if g = 45 then 21 else -1
def oCmp (g : Int) : Int := if g = 60 then 25 else if g = 62 then 26 else if g = 61 then 27 else -1
def oAnd (h : Int) : Int := if h = 1476 then 29 else -1
def oOr (h : Int) : Int := if h = 498 then 30 else -1
def pLoop (el : Int → Int → PR) (o1 o2 nx : Int → Int) : Nat → Int → Int → Int → (Rw → Int) → Int → (Rw → Int) → PR
  | 0, p, _, _, _, _, _ => .inr p
  | n + 1, p, c, a, fa, b, fb => match el p c with
    | .inr x => .inr x
    | .inl (q, d, f) =>
      if o1 q ≠ -1 then pLoop el o1 o2 nx n (nx q) d a fa (o1 q) (cmb b fb f)
      else if o2 q ≠ -1 then pLoop el o1 o2 nx n (nx q) d (o2 q) (cmb a fa (cmb b fb f)) (-1) f0
      else .inl (q, d, cmb a fa (cmb b fb f))
def wBase (i : Int) : Int := if i = 4 then 4 else if i = 5 then 14 else 46
def wIx (od : Bool) (h : Int) : Int := ixL (whL (if od = true then 11 else 12)) h 0
def pLeaf (od : Bool) (T : Rw) (n p c : Int) : PR :=
  if 50 ≤ c then .inr (tF T n p) else
  if tS T n p = 2 then (if tN T n p ≤ 1000 then .inl (tT T n p, c + 1, fun _ => tN T n p) else .inr (tF T n p)) else
  if wIx od (tW T n p) = -1 then .inr (tF T n p) else
  if od = true ∧ 4 ≤ wIx od (tW T n p) then
    (if tS T n (tT T n p) = 2 ∧ tN T n (tT T n p) < (if wIx od (tW T n p) = 4 then 10 else 32) then
      .inl (tT T n (tT T n p), c + 1, fun w => w (wBase (wIx od (tW T n p)) + tN T n (tT T n p)))
    else .inr (tF T n (tT T n p)))
  else .inl (tT T n p, c + 1, fun w => w (wIx od (tW T n p)))
def lpS (T : Rw) (n : Int) (el : Int → Int → PR) (p c : Int) : PR := pLoop el (fun q => oMul (tG T n q)) (fun q => oAdd (tG T n q)) (tT T n) 401 p c (-1) f0 (-1) f0
def lpT (T : Rw) (n : Int) (el : Int → Int → PR) (p c : Int) : PR := pLoop el (fun q => oAnd (tW T n q)) (fun q => oOr (tW T n q)) (tT T n) 401 p c (-1) f0 (-1) f0
/-- behind an open bracket: what is within, the bracket that closes -/
def pClo (T : Rw) (n cl : Int) (s : Bool) : PR → PR
  | .inr x => .inr x
  | .inl (q, d, f) => if tG T n q = cl then .inl (tT T n q, d, neg s f) else .inr (tF T n q)
def pPart (od : Bool) (T : Rw) (n : Int) : Nat → (Int → Int → PR)
  | 0 => fun p c => if tG T n p = 91 then .inr (tF T n p) else pLeaf od T n p c
  | b + 1 => fun p c => if tG T n p = 91 then pClo T n 93 false (lpS T n (pPart od T n b) (tT T n p) c) else pLeaf od T n p c
def pSum (od : Bool) (T : Rw) (n : Int) (b : Nat) (p c : Int) : PR := lpS T n (pPart od T n b) p c
def pNots (T : Rw) (n : Int) : Nat → Int → Bool × Int
  | 0, p => (false, p)
  | d + 1, p => if tW T n p = 14836 then (!(pNots T n d (tT T n p)).1, (pNots T n d (tT T n p)).2) else (false, p)
/-- behind the first SUM of a comparison -/
def pCm2 (od : Bool) (T : Rw) (n : Int) (b : Nat) (s : Bool) : PR → PR
  | .inr x => .inr x
  | .inl (q, d, f) => if oCmp (tG T n q) = -1 then .inr (tF T n q) else (match pSum od T n b (tT T n q) d with
    | .inr x => .inr x
    | .inl (q2, d2, g) => .inl (q2, d2, neg s (cmb (oCmp (tG T n q)) f g)))
def pCmp (od : Bool) (T : Rw) (n : Int) (b : Nat) (s : Bool) (p c : Int) : PR := pCm2 od T n b s (pSum od T n b p c)
def pPlain (od : Bool) (T : Rw) (n : Int) : Nat → (Int → Int → PR)
  | 0 => fun p c => if tG T n (pNots T n 401 p).2 = 40 then .inr (tF T n (pNots T n 401 p).2) else pCmp od T n 0 (pNots T n 401 p).1 (pNots T n 401 p).2 c
  | b + 1 => fun p c => if tG T n (pNots T n 401 p).2 = 40 then pClo T n 41 (pNots T n 401 p).1 (lpT T n (pPlain od T n b) (tT T n (pNots T n 401 p).2) c) else pCmp od T n (b + 1) (pNots T n 401 p).1 (pNots T n 401 p).2 c
def pTest (od : Bool) (T : Rw) (n : Int) (b : Nat) (p c : Int) : PR := lpT T n (pPlain od T n b) p c
-- what they come to is bounded; the place goes on
def vB (f : Rw → Int) : Prop := ∀ w, wOk w → f w = bRK ∨ (-1000000000 ≤ f w ∧ f w ≤ 1000000000)
def tB (f : Rw → Int) : Prop := ∀ w, wOk w → f w = bRK ∨ f w = 0 ∨ f w = 1
theorem tB_v {f : Rw → Int} (h : tB f) : vB f := fun w hw => (h w hw).imp id fun q => by omega
theorem clip_v (v : Int) : (if -1000000000 ≤ v ∧ v ≤ 1000000000 then v else bRK) = bRK ∨ (-1000000000 ≤ (if -1000000000 ≤ v ∧ v ≤ 1000000000 then v else bRK) ∧ (if -1000000000 ≤ v ∧ v ≤ 1000000000 then v else bRK) ≤ 1000000000) := by
  by_cases h : -1000000000 ≤ v ∧ v ≤ 1000000000
  · rw [if_pos h]; exact Or.inr h
  · rw [if_neg h]; exact Or.inl rfl
theorem vOp_v (o a b : Int) : vOp o a b = bRK ∨ (-1000000000 ≤ vOp o a b ∧ vOp o a b ≤ 1000000000) := by
  unfold vOp
  by_cases h : (o = 23 ∨ o = 24) ∧ b = 0
  · rw [if_pos h]; exact Or.inl rfl
  · rw [if_neg h]; exact clip_v _
theorem clip_t {v : Int} (h : v = 0 ∨ v = 1) : (if -1000000000 ≤ v ∧ v ≤ 1000000000 then v else bRK) = 0 ∨ (if -1000000000 ≤ v ∧ v ≤ 1000000000 then v else bRK) = 1 := by
  rw [if_pos (by omega)]; exact h
theorem vOp_t {o a b : Int} (h0 : 25 ≤ o) : vOp o a b = 0 ∨ vOp o a b = 1 := by
  unfold vOp
  rw [if_neg (by omega)]
  refine clip_t ?_
  rw [if_neg (by omega : ¬ o = 20), if_neg (by omega : ¬ o = 21), if_neg (by omega : ¬ o = 22), if_neg (by omega : ¬ o = 23), if_neg (by omega : ¬ o = 24)]
  by_cases c1 : o = 25
  · rw [if_pos c1]
    by_cases c : a < b
    · rw [if_pos c]; exact Or.inr rfl
    · rw [if_neg c]; exact Or.inl rfl
  rw [if_neg c1]
  by_cases c2 : o = 26
  · rw [if_pos c2]
    by_cases c : b < a
    · rw [if_pos c]; exact Or.inr rfl
    · rw [if_neg c]; exact Or.inl rfl
  rw [if_neg c2]
  by_cases c : a = b
  · rw [if_pos c]; exact Or.inr rfl
  · rw [if_neg c]; exact Or.inl rfl
theorem cmb_v {o : Int} {f g : Rw → Int} (ho : o = -1 ∨ (20 ≤ o ∧ o ≤ 24)) (hf : vB f) (hg : vB g) : vB (cmb o f g) := by
  unfold cmb
  split
  · exact hg
  · intro w hw
    show op2 o (f w) (g w) = bRK ∨ (-1000000000 ≤ op2 o (f w) (g w) ∧ op2 o (f w) (g w) ≤ 1000000000)
    unfold op2
    rw [if_neg (by omega : ¬ o = 29), if_neg (by omega : ¬ o = 30)]
    by_cases c : f w = bRK
    · rw [if_pos c]; exact Or.inl rfl
    rw [if_neg c]
    by_cases d : g w = bRK
    · rw [if_pos d]; exact Or.inl rfl
    rw [if_neg d]
    exact vOp_v _ _ _
theorem cmb_c {o : Int} {f g : Rw → Int} (ho : 25 ≤ o ∧ o ≤ 27) : tB (cmb o f g) := by
  unfold cmb
  rw [if_neg (by omega)]
  intro w hw
  show op2 o (f w) (g w) = bRK ∨ op2 o (f w) (g w) = 0 ∨ op2 o (f w) (g w) = 1
  unfold op2
  rw [if_neg (by omega : ¬ o = 29), if_neg (by omega : ¬ o = 30)]
  by_cases c : f w = bRK
  · rw [if_pos c]; exact Or.inl rfl
  rw [if_neg c]
  by_cases d : g w = bRK
  · rw [if_pos d]; exact Or.inl rfl
  rw [if_neg d]
  exact Or.inr (vOp_t ho.1)
theorem cmb_t {o : Int} {f g : Rw → Int} (ho : o = -1 ∨ o = 29 ∨ o = 30) (hf : tB f) (hg : tB g) : tB (cmb o f g) := by
  unfold cmb
  split
  · exact hg
  · intro w hw
    have a := hf w hw
    have b := hg w hw
    show op2 o (f w) (g w) = bRK ∨ op2 o (f w) (g w) = 0 ∨ op2 o (f w) (g w) = 1
    unfold op2
    rcases ho with rfl | rfl | rfl
    · contradiction
    · repeat' split
      all_goals first | exact Or.inl rfl | omega
    · repeat' split
      all_goals first | exact Or.inl rfl | omega
theorem neg_t {s : Bool} {f : Rw → Int} (hf : tB f) : tB (neg s f) := by
  unfold neg
  split
  · intro w hw
    have a := hf w hw
    have := bRK_v
    show (if f w = bRK then bRK else 1 - f w) = bRK ∨ (if f w = bRK then bRK else 1 - f w) = 0 ∨ (if f w = bRK then bRK else 1 - f w) = 1
    split
    · exact Or.inl rfl
    · omega
  · exact hf
def qOk (T : Rw) (n : Int) (pf : Int → Int → PR) (PP : (Rw → Int) → Prop) : Prop := ∀ p c q d f, 0 ≤ p → p ≤ n → 0 ≤ c → c ≤ 50 → pf p c = .inl (q, d, f) → tF T n p + 1 ≤ q ∧ q ≤ n ∧ 0 ≤ d ∧ d ≤ 50 ∧ PP f
theorem oMul_c (g : Int) : oMul g = -1 ∨ ((g = 42 ∨ g = 47 ∨ g = 37) ∧ 22 ≤ oMul g ∧ oMul g ≤ 24) := by unfold oMul; repeat' split <;> omega
theorem oAdd_c (g : Int) : oAdd g = -1 ∨ ((g = 43 ∨ g = 45) ∧ 20 ≤ oAdd g ∧ oAdd g ≤ 21) := by unfold oAdd; repeat' split <;> omega
theorem oCmp_c (g : Int) : oCmp g = -1 ∨ ((g = 60 ∨ g = 62 ∨ g = 61) ∧ 25 ≤ oCmp g ∧ oCmp g ≤ 27) := by unfold oCmp; repeat' split <;> omega
theorem oAnd_c (g : Int) : oAnd g = -1 ∨ (g = 1476 ∧ oAnd g = 29) := by unfold oAnd; split <;> omega
theorem oOr_c (g : Int) : oOr g = -1 ∨ (g = 498 ∧ oOr g = 30) := by unfold oOr; split <;> omega
theorem tG_s {T : Rw} {n p : Int} (h : ¬ tG T n p = -1) : tS T n p = 3 := by
  unfold tG at h
  split at h
  · assumption
  · exact absurd rfl h
theorem tW_s {T : Rw} {n p : Int} (h : ¬ tW T n p = 0) : tS T n p = 1 := by
  unfold tW at h
  split at h
  · assumption
  · exact absurd rfl h
theorem nx_b {T : Rw} {n q : Int} (h0 : q ≤ n) (h : ¬ tS T n q = 0) : q + 1 ≤ tT T n q ∧ tT T n q ≤ n ∧ tF T n q + 1 ≤ tT T n q := by
  have a := tF_b (T := T) h0
  have b := tT_b (T := T) h0
  have := b.2.2 h
  omega
theorem inl_3 {a b : Int} {f : Rw → Int} {q d : Int} {g : Rw → Int} (h : (Sum.inl (a, b, f) : PR) = .inl (q, d, g)) : a = q ∧ b = d ∧ f = g := by
  have := Sum.inl.inj h
  exact ⟨congrArg (fun v => v.1) this, congrArg (fun v => v.2.1) this, congrArg (fun v => v.2.2) this⟩
theorem pLoop_ok {T : Rw} {n : Int} {el : Int → Int → PR} {o1 o2 : Int → Int} {PP : (Rw → Int) → Prop} {R : Int → Prop} (hT : n ≤ 400) (hel : qOk T n el PP) (hR : R (-1)) (hc : ∀ o f g, R o → (o = -1 ∨ PP f) → PP g → PP (cmb o f g))
    (h1 : ∀ q, ¬ o1 q = -1 → R (o1 q) ∧ ¬ tS T n q = 0) (h2 : ∀ q, ¬ o2 q = -1 → R (o2 q) ∧ ¬ tS T n q = 0) : ∀ (k : Nat) (p c a : Int) (fa : Rw → Int) (b : Int) (fb : Rw → Int) (q d : Int) (f : Rw → Int), 0 ≤ p → p ≤ n → 0 ≤ c → c ≤ 50 → R a → (a = -1 ∨ PP fa) → R b → (b = -1 ∨ PP fb) → pLoop el o1 o2 (tT T n) k p c a fa b fb = .inl (q, d, f) → tF T n p + 1 ≤ q ∧ q ≤ n ∧ 0 ≤ d ∧ d ≤ 50 ∧ PP f := by
  intro k
  induction k with
  | zero => intro p c a fa b fb q d f _ _ _ _ _ _ _ _ h; cases h
  | succ k ih =>
    intro p c a fa b fb q d f p0 p1 c0 c1 ra pa rb pb h
    unfold pLoop at h
    cases he : el p c with
    | inr x => rw [he] at h; cases h
    | inl v =>
      obtain ⟨q2, d2, f2⟩ := v
      rw [he] at h
      dsimp only at h
      obtain ⟨e1, e2, e3, e4, e5⟩ := hel p c q2 d2 f2 p0 p1 c0 c1 he
      have hb := tF_b (T := T) p1
      have hB : PP (cmb b fb f2) := hc _ _ _ rb pb e5
      by_cases g1 : o1 q2 = -1
      · rw [if_neg (fun z => z g1)] at h
        by_cases g2 : o2 q2 = -1
        · rw [if_neg (fun z => z g2)] at h
          obtain ⟨rfl, rfl, rfl⟩ := inl_3 h
          exact ⟨e1, e2, e3, e4, hc _ _ _ ra pa hB⟩
        · rw [if_pos g2] at h
          obtain ⟨r2, s2⟩ := h2 q2 g2
          have nx := nx_b (T := T) e2 s2
          have hb2 := tF_b (T := T) nx.2.1
          obtain ⟨i1, i2⟩ := ih _ _ _ _ _ _ _ _ _ (by omega) nx.2.1 e3 e4 r2 (Or.inr (hc _ _ _ ra pa hB)) hR (Or.inl rfl) h
          exact ⟨by omega, i2⟩
      · rw [if_pos g1] at h
        obtain ⟨r2, s2⟩ := h1 q2 g1
        have nx := nx_b (T := T) e2 s2
        have hb2 := tF_b (T := T) nx.2.1
        obtain ⟨i1, i2⟩ := ih _ _ _ _ _ _ _ _ _ (by omega) nx.2.1 e3 e4 ra pa r2 (Or.inr hB) h
        exact ⟨by omega, i2⟩
theorem lpS_ok {T : Rw} {n : Int} {el : Int → Int → PR} (hT : n ≤ 400) (hel : qOk T n el vB) : qOk T n (lpS T n el) vB := by
  intro p c q d f p0 p1 c0 c1 h
  refine pLoop_ok (R := fun o => o = -1 ∨ (20 ≤ o ∧ o ≤ 24)) hT hel (Or.inl rfl) (fun o f g ro pf pg => ?_) (fun q z => ?_) (fun q z => ?_) 401 p c (-1) f0 (-1) f0 q d f p0 p1 c0 c1 (Or.inl rfl) (Or.inl rfl) (Or.inl rfl) (Or.inl rfl) h
  · by_cases e : o = -1
    · unfold cmb; rw [if_pos e]; exact pg
    · exact cmb_v ro (pf.resolve_left e) pg
  · have := (oMul_c (tG T n q)).resolve_left z
    exact ⟨by omega, by rw [tG_s (T := T) (n := n) (p := q) (by omega)]; decide⟩
  · have := (oAdd_c (tG T n q)).resolve_left z
    exact ⟨by omega, by rw [tG_s (T := T) (n := n) (p := q) (by omega)]; decide⟩
theorem lpT_ok {T : Rw} {n : Int} {el : Int → Int → PR} (hT : n ≤ 400) (hel : qOk T n el tB) : qOk T n (lpT T n el) tB := by
  intro p c q d f p0 p1 c0 c1 h
  refine pLoop_ok (R := fun o => o = -1 ∨ o = 29 ∨ o = 30) hT hel (Or.inl rfl) (fun o f g ro pf pg => ?_) (fun q z => ?_) (fun q z => ?_) 401 p c (-1) f0 (-1) f0 q d f p0 p1 c0 c1 (Or.inl rfl) (Or.inl rfl) (Or.inl rfl) (Or.inl rfl) h
  · by_cases e : o = -1
    · unfold cmb; rw [if_pos e]; exact pg
    · exact cmb_t ro (pf.resolve_left e) pg
  · have := (oAnd_c (tW T n q)).resolve_left z
    exact ⟨by omega, by rw [tW_s (T := T) (n := n) (p := q) (by omega)]; decide⟩
  · have := (oOr_c (tW T n q)).resolve_left z
    exact ⟨by omega, by rw [tW_s (T := T) (n := n) (p := q) (by omega)]; decide⟩
theorem ixL_b : ∀ (l : List Int) (h j : Int), 0 ≤ j → ixL l h j = -1 ∨ (j ≤ ixL l h j ∧ ixL l h j < j + l.length) := by
  intro l
  induction l with
  | nil => intro h j _; exact Or.inl rfl
  | cons a l ih =>
    intro h j hj
    have e : ((a :: l).length : Int) = l.length + 1 := by simp
    show (if h = a then j else ixL l h (j + 1)) = -1 ∨ (j ≤ (if h = a then j else ixL l h (j + 1)) ∧ (if h = a then j else ixL l h (j + 1)) < j + ((a :: l).length : Int))
    split
    · right; omega
    · rcases ih h (j + 1) (by omega) with q | q
      · exact Or.inl q
      · right; omega
theorem whL_11 : (whL 11).length = 7 := by decide
theorem whL_12 : (whL 12).length = 10 := by decide
theorem ixW_b (od : Bool) (h : Int) : wIx od h = -1 ∨ (0 ≤ wIx od h ∧ wIx od h < (if od = true then 7 else 10)) := by
  unfold wIx
  cases od with
  | true =>
    have := ixL_b (whL 11) h 0 (by omega)
    rw [whL_11] at this
    simp only [if_true]
    omega
  | false =>
    have := ixL_b (whL 12) h 0 (by omega)
    rw [whL_12] at this
    simp only [Bool.false_eq_true, if_false]
    omega
theorem ixW_s {od : Bool} {T : Rw} {n p : Int} (h : ¬ wIx od (tW T n p) = -1) : tS T n p = 1 := by
  refine tW_s fun q => h ?_
  rw [q]
  unfold wIx
  refine ixL_0 ?_ 0
  cases od
  · exact Or.inr (Or.inr rfl)
  · exact Or.inr (Or.inl rfl)
theorem pLeaf_ok {od : Bool} {T : Rw} {n : Int} : qOk T n (pLeaf od T n) vB := by
  intro p c q d f p0 p1 c0 c1 h
  have hb := tF_b (T := T) p1
  have hword : ∀ i, vB fun w => w i := fun i w hw => Or.inr (by have := hw i; dsimp only; omega)
  unfold pLeaf at h
  by_cases hc : 50 ≤ c
  · rw [if_pos hc] at h; cases h
  rw [if_neg hc] at h
  by_cases h2 : tS T n p = 2
  · rw [if_pos h2] at h
    have nx := nx_b (T := T) p1 (by omega : ¬ tS T n p = 0)
    have hn := (tN_b (T := T) (n := n) (p := p)).1 h2
    by_cases h3 : tN T n p ≤ 1000
    · rw [if_pos h3] at h
      obtain ⟨rfl, rfl, rfl⟩ := inl_3 h
      exact ⟨nx.2.2, nx.2.1, by omega, by omega, fun w _ => Or.inr (by dsimp only; omega)⟩
    · rw [if_neg h3] at h; cases h
  rw [if_neg h2] at h
  by_cases hi : wIx od (tW T n p) = -1
  · rw [if_pos hi] at h; cases h
  rw [if_neg hi] at h
  have nx := nx_b (T := T) p1 (by rw [ixW_s hi]; decide)
  by_cases h4 : od = true ∧ 4 ≤ wIx od (tW T n p)
  · rw [if_pos h4] at h
    by_cases h5 : tS T n (tT T n p) = 2 ∧ tN T n (tT T n p) < (if wIx od (tW T n p) = 4 then 10 else 32)
    · rw [if_pos h5] at h
      have nx2 := nx_b (T := T) nx.2.1 (by rw [h5.1]; decide)
      have hb2 := tF_b (T := T) nx.2.1
      obtain ⟨rfl, rfl, rfl⟩ := inl_3 h
      exact ⟨by omega, nx2.2.1, by omega, by omega, hword _⟩
    · rw [if_neg h5] at h; cases h
  · rw [if_neg h4] at h
    obtain ⟨rfl, rfl, rfl⟩ := inl_3 h
    exact ⟨nx.2.2, nx.2.1, by omega, by omega, hword _⟩
theorem pClo_ok {T : Rw} {n cl p c : Int} {s : Bool} {PP : (Rw → Int) → Prop} {pf : Int → Int → PR} (hcl : 0 ≤ cl) (hpf : qOk T n pf PP) (hn : ∀ f, PP f → PP (neg s f)) (p0 : 0 ≤ p) (p1 : p ≤ n) (hs : ¬ tS T n p = 0) (c0 : 0 ≤ c) (c1 : c ≤ 50) {q d : Int} {f : Rw → Int} (h : pClo T n cl s (pf (tT T n p) c) = .inl (q, d, f)) : tF T n p + 1 ≤ q ∧ q ≤ n ∧ 0 ≤ d ∧ d ≤ 50 ∧ PP f := by
  have nx := nx_b (T := T) p1 hs
  cases he : pf (tT T n p) c with
  | inr x => rw [he] at h; cases h
  | inl v =>
    obtain ⟨q2, d2, f2⟩ := v
    rw [he] at h
    unfold pClo at h
    dsimp only at h
    have hb3 := tF_b (T := T) nx.2.1
    obtain ⟨e1, e2, e3, e4, e5⟩ := hpf _ _ _ _ _ (by omega) nx.2.1 c0 c1 he
    split at h
    · rename_i hg
      have nx2 := nx_b (T := T) e2 (by rw [tG_s (T := T) (n := n) (p := q2) (by omega)]; decide)
      obtain ⟨rfl, rfl, rfl⟩ := inl_3 h
      exact ⟨by omega, nx2.2.1, e3, e4, hn _ e5⟩
    · cases h
theorem pPart_ok {od : Bool} {T : Rw} {n : Int} (hT : n ≤ 400) : ∀ b : Nat, qOk T n (pPart od T n b) vB := by
  intro b
  induction b with
  | zero =>
    intro p c q d f p0 p1 c0 c1 h
    unfold pPart at h
    split at h
    · cases h
    · exact pLeaf_ok p c q d f p0 p1 c0 c1 h
  | succ b ih =>
    intro p c q d f p0 p1 c0 c1 h
    unfold pPart at h
    split at h
    · rename_i hg
      exact pClo_ok (by decide) (lpS_ok hT ih) (fun f hf => by unfold neg; simpa using hf) p0 p1 (by rw [tG_s (T := T) (n := n) (p := p) (by omega)]; decide) c0 c1 h
    · exact pLeaf_ok p c q d f p0 p1 c0 c1 h
theorem pSum_ok {od : Bool} {T : Rw} {n : Int} (hT : n ≤ 400) (b : Nat) : qOk T n (pSum od T n b) vB := lpS_ok hT (pPart_ok hT b)
theorem pNots_ok {T : Rw} {n : Int} : ∀ (k : Nat) (p : Int), p ≤ n → p ≤ (pNots T n k p).2 ∧ (pNots T n k p).2 ≤ n ∧ tF T n p ≤ tF T n (pNots T n k p).2 := by
  intro k
  induction k with
  | zero => intro p h; exact ⟨Int.le_refl _, h, Int.le_refl _⟩
  | succ k ih =>
    intro p h
    unfold pNots
    split
    · rename_i hw
      have nx := nx_b (T := T) h (by rw [tW_s (T := T) (n := n) (p := p) (by omega)]; decide)
      have := ih _ nx.2.1
      have hb := tF_b (T := T) nx.2.1
      dsimp only
      omega
    · exact ⟨Int.le_refl _, h, Int.le_refl _⟩
theorem pCmp_ok {od : Bool} {T : Rw} {n : Int} (hT : n ≤ 400) (b : Nat) (s : Bool) : qOk T n (pCmp od T n b s) tB := by
  intro p c q d f p0 p1 c0 c1 h
  unfold pCmp at h
  cases he : pSum od T n b p c with
  | inr x => rw [he] at h; cases h
  | inl v =>
    obtain ⟨q2, d2, f2⟩ := v
    rw [he] at h
    unfold pCm2 at h
    dsimp only at h
    obtain ⟨e1, e2, e3, e4, e5⟩ := pSum_ok hT b _ _ _ _ _ p0 p1 c0 c1 he
    split at h
    · cases h
    rename_i hg
    have ho := (oCmp_c (tG T n q2)).resolve_left hg
    have nx := nx_b (T := T) e2 (by rw [tG_s (T := T) (n := n) (p := q2) (by omega)]; decide)
    have hb := tF_b (T := T) p1
    have hb2 := tF_b (T := T) e2
    have hb3 := tF_b (T := T) nx.2.1
    cases he2 : pSum od T n b (tT T n q2) d2 with
    | inr x => rw [he2] at h; cases h
    | inl v =>
      obtain ⟨q3, d3, f3⟩ := v
      rw [he2] at h
      dsimp only at h
      obtain ⟨g1, g2, g3, g4, g5⟩ := pSum_ok hT b _ _ _ _ _ (by omega) nx.2.1 e3 e4 he2
      obtain ⟨rfl, rfl, rfl⟩ := inl_3 h
      exact ⟨by omega, g2, g3, g4, neg_t (cmb_c ho.2)⟩
theorem pPlain_ok {od : Bool} {T : Rw} {n : Int} (hT : n ≤ 400) : ∀ b : Nat, qOk T n (pPlain od T n b) tB := by
  intro b
  induction b with
  | zero =>
    intro p c q d f p0 p1 c0 c1 h
    have hN := pNots_ok (T := T) (n := n) 401 p p1
    unfold pPlain at h
    split at h
    · cases h
    · have := pCmp_ok hT 0 _ _ c q d f (by omega) hN.2.1 c0 c1 h
      exact ⟨by omega, this.2⟩
  | succ b ih =>
    intro p c q d f p0 p1 c0 c1 h
    have hN := pNots_ok (T := T) (n := n) 401 p p1
    unfold pPlain at h
    split at h
    · rename_i hg
      have := pClo_ok (by decide) (lpT_ok hT ih) (fun f hf => neg_t hf) (by omega) hN.2.1 (by rw [tG_s (T := T) (n := n) (p := (pNots T n 401 p).2) (by omega)]; decide) c0 c1 h
      exact ⟨by omega, this.2⟩
    · have := pCmp_ok hT (b + 1) _ _ c q d f (by omega) hN.2.1 c0 c1 h
      exact ⟨by omega, this.2⟩
theorem pTest_ok {od : Bool} {T : Rw} {n : Int} (hT : n ≤ 400) (b : Nat) : qOk T n (pTest od T n b) tB := lpT_ok hT (pPlain_ok hT b)
