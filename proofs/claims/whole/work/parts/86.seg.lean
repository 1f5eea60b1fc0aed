-- SEGMENTS of code, over a machine of which we know what its steps do
abbrev GO : Type := (Int → Int) → (Int → Int) → Int → Rw → Nat → Int → List Int → Option Int
abbrev bd (v : Int) : Prop := -2000000000 ≤ v ∧ v ≤ 2000000000
def mach (go : GO) (cd : Int → Int) (lim : Nat) : Prop :=
  (∀ x y E w n a s v, go x y E w n a s = some v → go x y E w (n + 1) a s = some v) ∧
  (∀ x y E w n a o f g s, 0 ≤ a → a < E → E ≤ 400 → s.length + 2 < lim → 20 ≤ o → o ≤ 27 → x a = cd o → y a = 0 → bd f → bd g → go x y E w (n + 1) a (g :: f :: s) = if vOp o f g = bRK then some bRK else go x y E w n (a + 1) (vOp o f g :: s)) ∧
  (∀ x y E w n a f s, 0 ≤ a → a < E → E ≤ 400 → s.length + 1 < lim → x a = cd 28 → y a = 0 → bd f → go x y E w (n + 1) a (f :: s) = go x y E w n (a + 1) ((1 - f) :: s)) ∧
  (∀ x y E w n a o f s, 0 ≤ a → a < E → E ≤ 400 → s.length + 1 < lim → (o = 29 ∨ o = 30) → x a = cd o → 0 ≤ y a → y a ≤ 400 → bd f → go x y E w (n + 1) a (f :: s) = if f = (if o = 29 then 0 else 1) then go x y E w n (y a) (f :: s) else go x y E w n (a + 1) s)
def Seg (go : GO) (x y : Int → Int) (L : Nat) (a b : Int) (F : Rw → Int) : Prop := 0 ≤ a ∧ a < b ∧ ∀ (x' y' : Int → Int) (E : Int), (∀ i, a ≤ i → i < b → x' i = x i ∧ y' i = y i) → b ≤ E → E ≤ 400 → ∀ w, wOk w → ∀ (n : Nat) (s : List Int), s.length ≤ L →
  (F w = bRK → go x' y' E w (n + (b - a).toNat) a s = some bRK) ∧ (¬ F w = bRK → ∀ v, go x' y' E w n b (F w :: s) = some v → go x' y' E w (n + (b - a).toNat) a s = some v)
theorem sg_fr {go : GO} {x y x2 y2 : Int → Int} {L : Nat} {a b : Int} {F : Rw → Int} (h : ∀ i, a ≤ i → i < b → x2 i = x i ∧ y2 i = y i) (hS : Seg go x y L a b F) : Seg go x2 y2 L a b F := by
  obtain ⟨h0, h1, h2⟩ := hS
  refine ⟨h0, h1, fun x' y' E hE => h2 x' y' E fun i u v => ?_⟩
  obtain ⟨e1, e2⟩ := hE i u v
  obtain ⟨e3, e4⟩ := h i u v
  exact ⟨e1.trans e3, e2.trans e4⟩
theorem sg_le {go : GO} {x y : Int → Int} {L M : Nat} {a b : Int} {F : Rw → Int} (h : M ≤ L) (hS : Seg go x y L a b F) : Seg go x y M a b F := by
  obtain ⟨h0, h1, h2⟩ := hS
  exact ⟨h0, h1, fun x' y' E q1 q2 q3 w hw n s hs => h2 x' y' E q1 q2 q3 w hw n s (Nat.le_trans hs h)⟩
theorem sg_cg {go : GO} {x y : Int → Int} {L : Nat} {a b : Int} {F G : Rw → Int} (h : ∀ w, wOk w → F w = G w) (hS : Seg go x y L a b F) : Seg go x y L a b G := by
  obtain ⟨h0, h1, h2⟩ := hS
  refine ⟨h0, h1, fun x' y' E q1 q2 q3 w hw n s hs => ?_⟩
  rw [← h w hw]
  exact h2 x' y' E q1 q2 q3 w hw n s hs
theorem mach_mono {go : GO} {cd : Int → Int} {lim : Nat} (hm : mach go cd lim) {x y : Int → Int} {E : Int} {w : Rw} {a : Int} {s : List Int} {v : Int} {n : Nat} (h : go x y E w n a s = some v) : ∀ k : Nat, go x y E w (n + k) a s = some v := by
  intro k
  induction k with
  | zero => exact h
  | succ k ih => exact hm.1 _ _ _ _ _ _ _ _ ih
theorem vB_bd {F : Rw → Int} (h : vB F) {w : Rw} (hw : wOk w) (hn : ¬ F w = bRK) : bd (F w) := by
  have := (h w hw).resolve_left hn
  unfold bd
  omega
theorem sg_op {go : GO} {cd : Int → Int} {lim : Nat} (hm : mach go cd lim) {x y : Int → Int} {L : Nat} {a b c o : Int} {F G : Rw → Int} (hL : L + 2 < lim) (hF : Seg go x y L a b F) (hG : Seg go x y (L + 1) b c G) (ho : 20 ≤ o ∧ o ≤ 27) (hx : x c = cd o) (hy : y c = 0) (vF : vB F) (vG : vB G) : Seg go x y L a (c + 1) (cmb o F G) := by
  obtain ⟨f0, f1, f2⟩ := hF
  obtain ⟨g0, g1, g2⟩ := hG
  refine ⟨f0, by omega, fun x' y' E hE h1 h2 w hw n s hs => ?_⟩
  have hf := f2 x' y' E (fun i u v => hE i (by omega) (by omega)) (by omega) h2 w hw (n + 1 + (c - b).toNat) s hs
  have hg := g2 x' y' E (fun i u v => hE i (by omega) (by omega)) (by omega) h2 w hw (n + 1) (F w :: s) (by simp only [List.length_cons]; omega)
  rw [show n + 1 + (c - b).toNat + (b - a).toNat = n + (c + 1 - a).toNat by omega] at hf
  have e : cmb o F G w = op2 o (F w) (G w) := by unfold cmb; rw [if_neg (by omega)]
  rw [e]
  unfold op2
  rw [if_neg (by omega : ¬ o = 29), if_neg (by omega : ¬ o = 30)]
  by_cases qf : F w = bRK
  · rw [if_pos qf]
    exact ⟨fun _ => hf.1 qf, fun z => absurd rfl z⟩
  rw [if_neg qf]
  by_cases qg : G w = bRK
  · rw [if_pos qg]
    exact ⟨fun _ => hf.2 qf _ (hg.1 qg), fun z => absurd rfl z⟩
  rw [if_neg qg]
  have ec := hE c (by omega) (by omega)
  have st := hm.2.1 x' y' E w n c o (F w) (G w) s (by omega) (by omega) h2 (by omega) ho.1 ho.2 (ec.1.trans hx) (ec.2.trans hy) (vB_bd vF hw qf) (vB_bd vG hw qg)
  refine ⟨fun z => hf.2 qf _ (hg.2 qg _ ?_), fun z v hv => hf.2 qf _ (hg.2 qg _ ?_)⟩
  · rw [st, if_pos z]
  · rw [st, if_neg z]
    exact hv
theorem sg_not {go : GO} {cd : Int → Int} {lim : Nat} (hm : mach go cd lim) {x y : Int → Int} {L : Nat} {a b : Int} {F : Rw → Int} (hL : L + 1 < lim) (hF : Seg go x y L a b F) (hx : x b = cd 28) (hy : y b = 0) (vF : tB F) : Seg go x y L a (b + 1) (neg true F) := by
  obtain ⟨f0, f1, f2⟩ := hF
  refine ⟨f0, by omega, fun x' y' E hE h1 h2 w hw n s hs => ?_⟩
  have hf := f2 x' y' E (fun i u v => hE i (by omega) (by omega)) (by omega) h2 w hw (n + 1) s hs
  rw [show n + 1 + (b - a).toNat = n + (b + 1 - a).toNat by omega] at hf
  have e : neg true F w = if F w = bRK then bRK else 1 - F w := rfl
  rw [e]
  by_cases qf : F w = bRK
  · rw [if_pos qf]
    exact ⟨fun _ => hf.1 qf, fun z => absurd rfl z⟩
  rw [if_neg qf]
  have ec := hE b (by omega) (by omega)
  have st := hm.2.2.1 x' y' E w n b (F w) s (by omega) (by omega) h2 (by omega) (ec.1.trans hx) (ec.2.trans hy) (vB_bd (tB_v vF) hw qf)
  have hb := (vF w hw).resolve_left qf
  refine ⟨fun z => absurd z (by have := bRK_v; omega), fun z v hv => hf.2 qf _ ?_⟩
  rw [st]
  exact hv
theorem sg_jmp {go : GO} {cd : Int → Int} {lim : Nat} (hm : mach go cd lim) {x y : Int → Int} {L : Nat} {a j c o : Int} {F G : Rw → Int} (hL : L + 1 < lim) (hF : Seg go x y L a j F) (hG : Seg go x y L (j + 1) c G) (ho : o = 29 ∨ o = 30) (hx : x j = cd o) (hy : y j = c) (vF : tB F) : Seg go x y L a c (cmb o F G) := by
  obtain ⟨f0, f1, f2⟩ := hF
  obtain ⟨g0, g1, g2⟩ := hG
  refine ⟨f0, by omega, fun x' y' E hE h1 h2 w hw n s hs => ?_⟩
  have hf := f2 x' y' E (fun i u v => hE i (by omega) (by omega)) (by omega) h2 w hw (n + (c - (j + 1)).toNat + 1) s hs
  have hg := g2 x' y' E (fun i u v => hE i (by omega) (by omega)) (by omega) h2 w hw n s hs
  rw [show n + (c - (j + 1)).toNat + 1 + (j - a).toNat = n + (c - a).toNat by omega] at hf
  have e : cmb o F G w = op2 o (F w) (G w) := by unfold cmb; rw [if_neg (by omega)]
  rw [e]
  have ec := hE j (by omega) (by omega)
  by_cases qf : F w = bRK
  · have e2 : op2 o (F w) (G w) = bRK := by unfold op2; rw [if_pos qf]
    rw [e2]
    exact ⟨fun _ => hf.1 qf, fun z => absurd rfl z⟩
  have st := hm.2.2.2 x' y' E w (n + (c - (j + 1)).toNat) j o (F w) s (by omega) (by omega) h2 (by omega) ho (ec.1.trans hx) (by rw [ec.2, hy]; omega) (by rw [ec.2, hy]; omega) (vB_bd (tB_v vF) hw qf)
  rw [ec.2, hy] at st
  by_cases qs : F w = (if o = 29 then 0 else 1)
  · rw [if_pos qs] at st
    have e2 : op2 o (F w) (G w) = F w := by
      unfold op2
      rw [if_neg qf]
      rcases ho with rfl | rfl
      · rw [if_pos rfl, if_pos (qs.trans (if_pos rfl))]
      · rw [if_neg (by decide), if_pos rfl, if_pos (qs.trans (if_neg (by decide)))]
    rw [e2]
    refine ⟨fun z => absurd z qf, fun _ v hv => hf.2 qf _ ?_⟩
    rw [st]
    exact mach_mono hm hv _
  · rw [if_neg qs] at st
    have e2 : op2 o (F w) (G w) = G w := by
      unfold op2
      rw [if_neg qf]
      rcases ho with rfl | rfl
      · rw [if_pos rfl, if_neg fun z => qs (z.trans (if_pos rfl).symm)]
      · rw [if_neg (by decide), if_pos rfl, if_neg fun z => qs (z.trans (if_neg (by decide)).symm)]
    rw [e2]
    refine ⟨fun z => hf.2 qf _ ?_, fun z v hv => hf.2 qf _ ?_⟩
    · rw [st]
      exact hg.1 z
    · rw [st]
      exact hg.2 z v hv
-- the class's machine
def goC (N : Int) : GO := fun x y E w n a s => cGo E x y N w n a s
def cdC (o : Int) : Int := if o = 20 then 43 else if o = 21 then 45 else if o = 22 then 42 else if o = 23 then 47 else if o = 24 then 37 else if o = 25 then 60 else if o = 26 then 62 else if o = 27 then 61 else if o = 28 then 2 else if o = 29 then 3 else 4
theorem cdC_o {o : Int} (h0 : 20 ≤ o) (h1 : o ≤ 27) : sgO (cdC o) = o ∧ 10 ≤ cdC o ∧ cdC o ≤ 100 := by
  have : o = 20 ∨ o = 21 ∨ o = 22 ∨ o = 23 ∨ o = 24 ∨ o = 25 ∨ o = 26 ∨ o = 27 := by omega
  rcases this with rfl | rfl | rfl | rfl | rfl | rfl | rfl | rfl <;> decide
theorem cGo_mono {S : Int} {st op : Int → Int} {N : Int} {w : Rw} {v : Int} : ∀ (n : Nat) (a : Int) (s : List Int), cGo S st op N w n a s = some v → cGo S st op N w (n + 1) a s = some v := by
  intro n
  induction n with
  | zero => intro a s h; cases h
  | succ n ih =>
    intro a s h
    unfold cGo at h ⊢
    by_cases g : ¬ (0 ≤ a ∧ a < S ∧ a < 400 ∧ s.length < 40)
    · rw [if_pos g] at h; cases h
    rw [if_neg g] at h ⊢
    by_cases k0 : st a = 0
    · rw [if_pos k0] at h ⊢; exact ih _ _ h
    rw [if_neg k0] at h ⊢
    by_cases k1 : st a = 1
    · rw [if_pos k1] at h ⊢
      by_cases k2 : 0 ≤ op a ∧ op a < N
      · rw [if_pos k2] at h ⊢; exact ih _ _ h
      · rw [if_neg k2] at h; cases h
    rw [if_neg k1] at h ⊢
    cases s with
    | nil => cases h
    | cons b s1 =>
      dsimp only at h ⊢
      by_cases k2 : ¬ (-2000000000 ≤ b ∧ b ≤ 2000000000)
      · rw [if_pos k2] at h; cases h
      rw [if_neg k2] at h ⊢
      by_cases k5 : st a = 5
      · rw [if_pos k5] at h ⊢; exact h
      rw [if_neg k5] at h ⊢
      by_cases k6 : st a = 2
      · rw [if_pos k6] at h ⊢; exact ih _ _ h
      rw [if_neg k6] at h ⊢
      by_cases k7 : st a = 3
      · rw [if_pos k7] at h ⊢
        by_cases z : b = 0
        · rw [if_pos z] at h ⊢; exact ih _ _ h
        · rw [if_neg z] at h ⊢; exact ih _ _ h
      rw [if_neg k7] at h ⊢
      by_cases k8 : st a = 4
      · rw [if_pos k8] at h ⊢
        by_cases z : b = 1
        · rw [if_pos z] at h ⊢; exact ih _ _ h
        · rw [if_neg z] at h ⊢; exact ih _ _ h
      rw [if_neg k8] at h ⊢
      cases s1 with
      | nil => cases h
      | cons c s2 =>
        dsimp only at h ⊢
        by_cases k9 : ¬ (-2000000000 ≤ c ∧ c ≤ 2000000000)
        · rw [if_pos k9] at h; cases h
        rw [if_neg k9] at h ⊢
        by_cases z : vOp (sgO (st a)) c b = bRK
        · rw [if_pos z] at h ⊢; exact h
        · rw [if_neg z] at h ⊢; exact ih _ _ h
theorem machC (N : Int) : mach (goC N) cdC 40 := by
  refine ⟨fun x y E w n a s v h => cGo_mono n a s h, ?_, ?_, ?_⟩
  · intro x y E w n a o f g s a0 a1 a2 hl o0 o1 hx hy hf hg
    have hc := cdC_o o0 o1
    show cGo E x y N w (n + 1) a (g :: f :: s) = if vOp o f g = bRK then some bRK else cGo E x y N w n (a + 1) (vOp o f g :: s)
    conv => lhs; unfold cGo
    rw [if_neg (Classical.not_not.mpr ⟨a0, a1, by omega, by simp only [List.length_cons]; omega⟩), hx, if_neg (by omega), if_neg (by omega)]
    dsimp only
    rw [if_neg (Classical.not_not.mpr hg), if_neg (by omega), if_neg (by omega), if_neg (by omega), if_neg (by omega), if_neg (Classical.not_not.mpr hf), hc.1]
  · intro x y E w n a f s a0 a1 a2 hl hx hy hf
    have hx : x a = 2 := hx
    show cGo E x y N w (n + 1) a (f :: s) = cGo E x y N w n (a + 1) ((1 - f) :: s)
    conv => lhs; unfold cGo
    rw [if_neg (Classical.not_not.mpr ⟨a0, a1, by omega, by simp only [List.length_cons]; omega⟩), hx, if_neg (by decide), if_neg (by decide)]
    dsimp only
    rw [if_neg (Classical.not_not.mpr hf), if_neg (by decide), if_pos rfl]
  · intro x y E w n a o f s a0 a1 a2 hl ho hx y0 y1 hf
    show cGo E x y N w (n + 1) a (f :: s) = if f = (if o = 29 then 0 else 1) then cGo E x y N w n (y a) (f :: s) else cGo E x y N w n (a + 1) s
    conv => lhs; unfold cGo
    rcases ho with rfl | rfl
    · have hx : x a = 3 := hx
      rw [if_neg (Classical.not_not.mpr ⟨a0, a1, by omega, by simp only [List.length_cons]; omega⟩), hx, if_neg (by decide), if_neg (by decide)]
      dsimp only
      rw [if_neg (Classical.not_not.mpr hf), if_neg (by decide), if_neg (by decide), if_pos rfl, if_pos rfl]
    · have hx : x a = 4 := hx
      rw [if_neg (Classical.not_not.mpr ⟨a0, a1, by omega, by simp only [List.length_cons]; omega⟩), hx, if_neg (by decide), if_neg (by decide)]
      dsimp only
      rw [if_neg (Classical.not_not.mpr hf), if_neg (by decide), if_neg (by decide), if_neg (by decide), if_pos rfl, show (if (30 : Int) = 29 then (0 : Int) else 1) = 1 from rfl]
theorem sg_numC {N : Int} {x y : Int → Int} {L : Nat} {a v : Int} (hL : L < 40) (a0 : 0 ≤ a) (hx : x a = 0) (hy : y a = v) (hv : ¬ v = bRK) : Seg (goC N) x y L a (a + 1) (fun _ => v) := by
  refine ⟨a0, by omega, fun x' y' E hE h1 h2 w hw n s hs => ⟨fun z => absurd z hv, fun _ u hu => ?_⟩⟩
  have ec := hE a (by omega) (by omega)
  rw [show (a + 1 - a).toNat = 1 by omega]
  show cGo E x' y' N w (n + 1) a s = some u
  unfold cGo
  rw [if_neg (Classical.not_not.mpr ⟨a0, by omega, by omega, by omega⟩), ec.1, hx, if_pos rfl, ec.2, hy]
  exact hu
theorem sg_wordC {N : Int} {x y : Int → Int} {L : Nat} {a i : Int} (hL : L < 40) (a0 : 0 ≤ a) (hx : x a = 1) (hy : y a = i) (hi : 0 ≤ i ∧ i < N) : Seg (goC N) x y L a (a + 1) (fun w => w i) := by
  refine ⟨a0, by omega, fun x' y' E hE h1 h2 w hw n s hs => ⟨fun z => absurd z (by have := hw i; have := bRK_v; dsimp only; omega), fun _ u hu => ?_⟩⟩
  have ec := hE a (by omega) (by omega)
  rw [show (a + 1 - a).toNat = 1 by omega]
  show cGo E x' y' N w (n + 1) a s = some u
  unfold cGo
  rw [if_neg (Classical.not_not.mpr ⟨a0, by omega, by omega, by omega⟩), ec.1, hx, if_neg (by decide), if_pos rfl, ec.2, hy, if_pos hi]
  exact hu
/-- a whole piece of code with its end -/
theorem sg_doneC {N : Int} {x y : Int → Int} {L : Nat} {a b S : Int} {F : Rw → Int} (h : Seg (goC N) x y L a b F) (hx : x b = 5) (hb : b < S) (hS : S ≤ 400) (vF : vB F) : ∀ w, wOk w → cGo S x y N w S.toNat a [] = some (F w) := by
  intro w hw
  obtain ⟨h0, h1, h2⟩ := h
  have g := h2 x y S (fun i _ _ => ⟨rfl, rfl⟩) (by omega) hS w hw (S - (b - a)).toNat [] (Nat.zero_le _)
  rw [show (S - (b - a)).toNat + (b - a).toNat = S.toNat by omega] at g
  by_cases q : F w = bRK
  · rw [q]; exact g.1 q
  · refine g.2 q _ ?_
    obtain ⟨m, hm⟩ : ∃ m : Nat, (S - (b - a)).toNat = m + 1 := ⟨(S - (b - a)).toNat - 1, by omega⟩
    rw [hm]
    show cGo S x y N w (m + 1) b [F w] = some (F w)
    unfold cGo
    have hv := vB_bd vF hw q
    rw [if_neg (Classical.not_not.mpr ⟨by omega, hb, by omega, by show (1 : Nat) < 40; omega⟩), hx, if_neg (by decide), if_neg (by decide)]
    dsimp only
    rw [if_neg (Classical.not_not.mpr hv), if_pos rfl]
-- the model's machine
def lfT (od : Bool) (w : Rw) (o a : Int) : Int := if o = 0 then a else if od = true then (if o < 5 then w (o - 1) else w (wBase (o - 1) + a)) else w (o - 1)
def goM (od : Bool) : GO := fun x y E w n a s => mGo x y (lfT od w) E n a s
theorem mGo_mono {op ag : Int → Int} {lf : Int → Int → Int} {last v : Int} : ∀ (n : Nat) (k : Int) (s : List Int), mGo op ag lf last n k s = some v → mGo op ag lf last (n + 1) k s = some v := by
  intro n
  induction n with
  | zero => intro k s h; cases h
  | succ n ih =>
    intro k s h
    unfold mGo at h ⊢
    by_cases c : last ≤ k
    · rw [if_pos c] at h ⊢; exact h
    rw [if_neg c] at h ⊢
    by_cases g : ¬ (0 ≤ k ∧ k < 400 ∧ s.length < 399 ∧ 0 ≤ op k ∧ op k ≤ 30 ∧ (op k < 11 ∨ 20 ≤ op k) ∧ 0 ≤ ag k ∧ ag k ≤ 2000 ∧ (op k = 5 → ag k < 10) ∧ (5 < op k ∧ op k < 11 → ag k < 32))
    · rw [if_pos g] at h; cases h
    rw [if_neg g] at h ⊢
    by_cases d : op k < 20
    · rw [if_pos d] at h ⊢; exact ih _ _ h
    rw [if_neg d] at h ⊢
    cases s with
    | nil => cases h
    | cons b s1 =>
      dsimp only at h ⊢
      by_cases k2 : ¬ (-2000000000 ≤ b ∧ b ≤ 2000000000)
      · rw [if_pos k2] at h; cases h
      rw [if_neg k2] at h ⊢
      by_cases k3 : op k < 28
      · rw [if_pos k3] at h ⊢
        cases s1 with
        | nil => cases h
        | cons c2 s2 =>
          dsimp only at h ⊢
          by_cases k9 : ¬ (-2000000000 ≤ c2 ∧ c2 ≤ 2000000000)
          · rw [if_pos k9] at h; cases h
          rw [if_neg k9] at h ⊢
          by_cases z : vOp (op k) c2 b = bRK
          · rw [if_pos z] at h ⊢; exact h
          · rw [if_neg z] at h ⊢; exact ih _ _ h
      rw [if_neg k3] at h ⊢
      by_cases k4 : op k = 28
      · rw [if_pos k4] at h ⊢; exact ih _ _ h
      rw [if_neg k4] at h ⊢
      by_cases k5 : op k = 29
      · rw [if_pos k5] at h ⊢
        by_cases z : b = 0
        · rw [if_pos z] at h ⊢; exact ih _ _ h
        · rw [if_neg z] at h ⊢; exact ih _ _ h
      rw [if_neg k5] at h ⊢
      by_cases z : b = 1
      · rw [if_pos z] at h ⊢; exact ih _ _ h
      · rw [if_neg z] at h ⊢; exact ih _ _ h
theorem machM (od : Bool) : mach (goM od) id 399 := by
  refine ⟨fun x y E w n a s v h => mGo_mono n a s h, ?_, ?_, ?_⟩
  · intro x y E w n a o f g s a0 a1 a2 hl o0 o1 hx hy hf hg
    have hx : x a = o := hx
    show mGo x y (lfT od w) E (n + 1) a (g :: f :: s) = if vOp o f g = bRK then some bRK else mGo x y (lfT od w) E n (a + 1) (vOp o f g :: s)
    conv => lhs; unfold mGo
    rw [if_neg (by omega), if_neg (Classical.not_not.mpr ⟨a0, by omega, by simp only [List.length_cons]; omega, by omega, by omega, by omega, by omega, by omega, by omega, by omega⟩), hx, if_neg (by omega)]
    dsimp only
    rw [if_neg (Classical.not_not.mpr hg), if_pos (by omega), if_neg (Classical.not_not.mpr hf)]
  · intro x y E w n a f s a0 a1 a2 hl hx hy hf
    have hx : x a = 28 := hx
    show mGo x y (lfT od w) E (n + 1) a (f :: s) = mGo x y (lfT od w) E n (a + 1) ((1 - f) :: s)
    conv => lhs; unfold mGo
    rw [if_neg (by omega), if_neg (Classical.not_not.mpr ⟨a0, by omega, by simp only [List.length_cons]; omega, by omega, by omega, by omega, by omega, by omega, by omega, by omega⟩), hx, if_neg (by omega)]
    dsimp only
    rw [if_neg (Classical.not_not.mpr hf), if_neg (by decide), if_pos rfl]
  · intro x y E w n a o f s a0 a1 a2 hl ho hx y0 y1 hf
    show mGo x y (lfT od w) E (n + 1) a (f :: s) = if f = (if o = 29 then 0 else 1) then mGo x y (lfT od w) E n (y a) (f :: s) else mGo x y (lfT od w) E n (a + 1) s
    conv => lhs; unfold mGo
    rcases ho with rfl | rfl
    · have hx : x a = 29 := hx
      rw [if_neg (by omega), if_neg (Classical.not_not.mpr ⟨a0, by omega, by simp only [List.length_cons]; omega, by omega, by omega, by omega, by omega, by omega, by omega, by omega⟩), hx, if_neg (by omega)]
      dsimp only
      rw [if_neg (Classical.not_not.mpr hf), if_neg (by decide), if_neg (by decide), if_pos rfl, if_pos rfl]
    · have hx : x a = 30 := hx
      rw [if_neg (by omega), if_neg (Classical.not_not.mpr ⟨a0, by omega, by simp only [List.length_cons]; omega, by omega, by omega, by omega, by omega, by omega, by omega, by omega⟩), hx, if_neg (by omega)]
      dsimp only
      rw [if_neg (Classical.not_not.mpr hf), if_neg (by decide), if_neg (by decide), if_neg (by decide), show (if (30 : Int) = 29 then (0 : Int) else 1) = 1 from rfl]
theorem sg_leafM {od : Bool} {x y : Int → Int} {L : Nat} {a o v : Int} {F : Rw → Int} (hL : L < 399) (a0 : 0 ≤ a) (hx : x a = o) (hy : y a = v) (ho : 0 ≤ o ∧ o < 11) (hv : 0 ≤ v ∧ v ≤ 2000) (hv5 : o = 5 → v < 10) (hv6 : 5 < o ∧ o < 11 → v < 32) (hF : ∀ w, F w = lfT od w o v) (hn : ∀ w, wOk w → ¬ F w = bRK) : Seg (goM od) x y L a (a + 1) F := by
  refine ⟨a0, by omega, fun x' y' E hE h1 h2 w hw n s hs => ⟨fun z => absurd z (hn w hw), fun _ u hu => ?_⟩⟩
  have ec := hE a (by omega) (by omega)
  have e1 : x' a = o := ec.1.trans hx
  have e2 : y' a = v := ec.2.trans hy
  rw [show (a + 1 - a).toNat = 1 by omega]
  show mGo x' y' (lfT od w) E (n + 1) a s = some u
  unfold mGo
  rw [if_neg (by omega), if_neg (Classical.not_not.mpr ⟨a0, by omega, by omega, by omega, by omega, by omega, by omega, by omega, by rw [e1, e2]; exact hv5, by rw [e1, e2]; exact hv6⟩), e1, e2, if_pos (by omega), ← hF w]
  exact hu
theorem sg_doneM {od : Bool} {x y : Int → Int} {L : Nat} {a b : Int} {F : Rw → Int} (h : Seg (goM od) x y L a b F) (hb : b ≤ 400) (vF : vB F) : ∀ w, wOk w → ∃ n, mGo x y (lfT od w) b n a [] = some (F w) := by
  intro w hw
  obtain ⟨h0, h1, h2⟩ := h
  have g := h2 x y b (fun i _ _ => ⟨rfl, rfl⟩) (Int.le_refl _) hb w hw 1 [] (Nat.zero_le _)
  refine ⟨1 + (b - a).toNat, ?_⟩
  by_cases q : F w = bRK
  · rw [q]; exact g.1 q
  · refine g.2 q _ ?_
    have hv := vB_bd vF hw q
    show mGo x y (lfT od w) b (0 + 1) b [F w] = some (F w)
    unfold mGo
    rw [if_pos (Int.le_refl _)]
    dsimp only
    rw [if_pos hv]
