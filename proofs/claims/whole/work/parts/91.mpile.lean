-- the model's pile: what waits on it, and how it is settled
def plS (f g : Int → Int) : List (Int × Int) → Prop
  | [] => True
  | e :: l => f (l.length : Int) = e.1 ∧ g (l.length : Int) = e.2 ∧ plS f g l
def plK (l : List (Int × Int)) : Prop := ∀ e ∈ l, 20 ≤ e.1 ∧ e.1 ≤ 32 ∧ 0 ≤ e.2 ∧ e.2 < 400
theorem plS_fr {f g f2 g2 : Int → Int} : ∀ l : List (Int × Int), (∀ j : Int, 0 ≤ j → j < (l.length : Int) → f2 j = f j ∧ g2 j = g j) → plS f g l → plS f2 g2 l := by
  intro l
  induction l with
  | nil => intro _ _; trivial
  | cons e l ih =>
    intro h1 h2
    have hl : ((e :: l).length : Int) = l.length + 1 := by simp
    have a := h1 l.length (by omega) (by omega)
    exact ⟨a.1.trans h2.1, a.2.trans h2.2.1, ih (fun j u v => h1 j u (by omega)) h2.2.2⟩
theorem plS_at {f g : Int → Int} : ∀ l : List (Int × Int), plS f g l → plK l → ∀ i : Int, 0 ≤ i → i < (l.length : Int) → 0 ≤ g i ∧ g i < 400 := by
  intro l
  induction l with
  | nil => intro _ _ i a b; exact absurd b (by show ¬ i < ((0 : Nat) : Int); omega)
  | cons e l ih =>
    intro h hk i a b
    have hl : ((e :: l).length : Int) = l.length + 1 := by simp
    by_cases c : i = (l.length : Int)
    · have := hk e List.mem_cons_self
      rw [c, h.2.1]
      omega
    · exact ih h.2.2 (fun x hx => hk x (List.mem_cons_of_mem _ hx)) i a (by omega)
theorem plK_c {e : Int × Int} {l : List (Int × Int)} (h : plK (e :: l)) : plK l := fun x hx => h x (List.mem_cons_of_mem _ hx)
theorem plK_i {e : Int × Int} {l : List (Int × Int)} (h : plK l) (he : 20 ≤ e.1 ∧ e.1 ≤ 32 ∧ 0 ≤ e.2 ∧ e.2 < 400) : plK (e :: l) := by
  intro x hx
  rcases List.mem_cons.mp hx with rfl | q
  · exact he
  · exact h x q
def bnd (o : Int) : Int := if 31 ≤ o then 0 else if o = 30 then 1 else if o = 29 then 2 else if o = 28 then 3 else if 25 ≤ o then 4 else if 22 ≤ o then 6 else 5
theorem m_binds {E : EN} (hE : Ep E) {k : Nat} {mem : Mm} {Q : Int → Mm → Prop} {o : Int} (ho : 20 ≤ o ∧ o ≤ 32) (hQ : Q (bnd o) mem) : CI E mX12_binds k mem [aI o] Q := by
  refine eX12_binds ⟨by omega, by omega⟩ (rX12_binds_0 hE ⟨fun a => ⟨fun b => ⟨fun c => ⟨fun d => ⟨fun e => ⟨fun f => ?_, fun f => ?_⟩, fun e => ?_⟩, fun d => ?_⟩, fun c => ?_⟩, fun b => ?_⟩, fun a => ?_⟩)
  · unfold bnd at hQ; rw [if_neg (by omega), if_neg b, if_neg c, if_neg d, if_neg (by omega), if_neg (by omega)] at hQ; exact hQ
  · unfold bnd at hQ; rw [if_neg (by omega), if_neg b, if_neg c, if_neg d, if_neg (by omega), if_pos f] at hQ; exact hQ
  · unfold bnd at hQ; rw [if_neg (by omega), if_neg b, if_neg c, if_neg d, if_pos e] at hQ; exact hQ
  · unfold bnd at hQ; rw [if_neg (by omega), if_neg b, if_neg c, if_pos d] at hQ; exact hQ
  · unfold bnd at hQ; rw [if_neg (by omega), if_neg b, if_pos c] at hQ; exact hQ
  · unfold bnd at hQ; rw [if_neg (by omega), if_pos b] at hQ; exact hQ
  · unfold bnd at hQ; rw [if_pos a] at hQ; exact hQ
theorem m_emit {E : EN} (hE : Ep E) {k : Nat} {mem : Mm} {Q : Mm → Prop} {s v u : Int} (h : mem 603 23 = s) (s0 : 0 ≤ s) (s1 : s < 400) (rv : R32 v) (ru : R32 u) (hQ : Q (aUp (aUp (aUp mem 614 s v) 615 s u) 603 23 (s + 1))) : CV E mX12_emit k mem [aR 603, aI v, aI u] Q := by
  refine eX12_emit rv ru (rX12_emit_0 hE ?_)
  rw [h]
  exact ⟨⟨s0, s1⟩, ⟨by omega, by omega⟩, hQ⟩
theorem m_push {E : EN} (hE : Ep E) {k : Nat} {mem : Mm} {Q : Mm → Prop} {s v u : Int} (h : mem 603 29 = s) (s0 : 0 ≤ s) (s1 : s < 400) (rv : R32 v) (ru : R32 u) (hQ : Q (aUp (aUp (aUp mem 616 s v) 617 s u) 603 29 (s + 1))) : CV E mX12_push k mem [aR 603, aI v, aI u] Q := by
  refine eX12_push rv ru (rX12_push_0 hE ?_)
  rw [h]
  exact ⟨⟨s0, s1⟩, ⟨by omega, by omega⟩, hQ⟩
-- what waits: its sign, its place in the code, where its left begins, what its left comes to
abbrev PE : Type := Int × Int × Int × (Rw → Int)
def pl (es : List PE) : List (Int × Int) := es.map fun e => (e.1, e.2.1)
abbrev mSg (od : Bool) (x y : Int → Int) (a b : Int) (F : Rw → Int) : Prop := Seg (goM od) x y a.toNat a b F
def pdOk (od : Bool) (x y : Int → Int) : List PE → Int → Int → Prop
  | [], cur, a0 => cur = a0
  | e :: es, cur, a0 => (e.1 = 28 ∧ pdOk od x y es cur a0) ∨ ((e.1 = 29 ∨ e.1 = 30) ∧ cur = e.2.1 + 1 ∧ x e.2.1 = e.1 ∧ tB e.2.2.2 ∧ mSg od x y e.2.2.1 e.2.1 e.2.2.2 ∧ pdOk od x y es e.2.2.1 a0) ∨ (20 ≤ e.1 ∧ e.1 ≤ 27 ∧ vB e.2.2.2 ∧ mSg od x y e.2.2.1 cur e.2.2.2 ∧ pdOk od x y es e.2.2.1 a0)
def pdG : List PE → (Rw → Int) → (Rw → Int)
  | [], g => g
  | e :: es, g => pdG es (if e.1 = 28 then neg true g else cmb e.1 e.2.2.2 g)
def pdT : List PE → (Rw → Int) → Prop
  | [], _ => True
  | e :: es, g => (if 28 ≤ e.1 then tB g else vB g) ∧ pdT es (if e.1 = 28 then neg true g else cmb e.1 e.2.2.2 g)
theorem pdOk_fr {od : Bool} {x y x2 y2 : Int → Int} {a0 : Int} : ∀ (es : List PE) (cur : Int), (∀ i, i < cur → x2 i = x i ∧ y2 i = y i) → pdOk od x y es cur a0 → pdOk od x2 y2 es cur a0 := by
  intro es
  induction es with
  | nil => intro cur _ h; exact h
  | cons e es ih =>
    intro cur hx h
    rcases h with ⟨a, b⟩ | ⟨a, b, c, d, f, g⟩ | ⟨a, b, c, d, f⟩
    · exact Or.inl ⟨a, ih cur hx b⟩
    · have := f.2.1
      exact Or.inr (Or.inl ⟨a, b, (hx _ (by omega)).1.trans c, d, sg_fr (fun i u v => hx i (by omega)) f, ih _ (fun i u => hx i (by omega)) g⟩)
    · have := d.2.1
      exact Or.inr (Or.inr ⟨a, b, c, sg_fr (fun i u v => hx i (by omega)) d, ih _ (fun i u => hx i (by omega)) f⟩)
theorem pdOk_le {od : Bool} {x y : Int → Int} {a0 : Int} : ∀ (es : List PE) (cur : Int), pdOk od x y es cur a0 → a0 ≤ cur := by
  intro es
  induction es with
  | nil => intro cur h; have h : cur = a0 := h; omega
  | cons e es ih =>
    intro cur h
    rcases h with ⟨a, b⟩ | ⟨a, b, c, d, f, g⟩ | ⟨a, b, c, d, f⟩
    · exact ih _ b
    · have := f.2.1
      have := ih _ g
      omega
    · have := d.2.1
      have := ih _ f
      omega
def mFs (a0 : Int) (m m2 : Mm) : Prop := ∀ o i, ¬ (o = 603 ∧ (i = 23 ∨ i = 29)) → ¬ ((o = 614 ∨ o = 615) ∧ a0 ≤ i) → m2 o i = m o i
theorem mFs_tr {a0 : Int} {m m2 m3 : Mm} (h : mFs a0 m m2) (h2 : mFs a0 m2 m3) : mFs a0 m m3 := fun o i a b => (h2 o i a b).trans (h o i a b)
theorem m_settle {E : EN} (hE : Ep E) {k : Nat} {Q : Mm → Prop} {od : Bool} {least a0 : Int} {P : List (Int × Int)} (a00 : 0 ≤ a0) (hP : P = [] ∨ ∃ e l, P = e :: l ∧ bnd e.1 < least) :
    ∀ (es : List PE) (mem : Mm) (cur s : Int) (g : Rw → Int), mem 603 29 = ((pl es ++ P).length : Int) → plS (mem 616) (mem 617) (pl es ++ P) → plK (pl es ++ P) → mem 603 23 = s → s + ((pl es ++ P).length : Int) ≤ 398 → (∀ e ∈ es, least ≤ bnd e.1) → pdOk od (mem 614) (mem 615) es cur a0 → mSg od (mem 614) (mem 615) cur s g → pdT es g →
      (∀ m2 s2, mFs a0 mem m2 → m2 603 29 = (P.length : Int) → m2 603 23 = s2 → s ≤ s2 → s2 ≤ s + (es.length : Int) → mSg od (m2 614) (m2 615) a0 s2 (pdG es g) → Q m2) → VM E mX12_settle (k + 1) mem 0 [(0, aR 603), (1, aI least)] [] (retV Q) := by
  have machm := machM od
  intro es
  induction es with
  | nil =>
    intro mem cur s g e29 hS hK e23 hcnt hb hpd hsg hT hQ
    obtain rfl : cur = a0 := hpd
    have hq : Q mem := hQ mem s (fun _ _ _ _ => rfl) e29 e23 (Int.le_refl _) (by show s ≤ s + ((0 : Nat) : Int); omega) hsg
    rcases hP with rfl | ⟨e, l, rfl, hl⟩
    · refine rX12_settle_0 hE ⟨fun _ => hq, fun c => absurd c (by rw [e29]; show ¬ (0 : Int) < ((0 : Nat) : Int); omega)⟩
    · have hlen : ((pl [] ++ e :: l).length : Int) = l.length + 1 := by show ((e :: l).length : Int) = _; simp
      have hS : plS (mem 616) (mem 617) (e :: l) := hS
      have hs0 := hsg.1
      have hs1 := hsg.2.1
      refine rX12_settle_0 hE ?_
      rw [e29, hlen, show (l.length : Int) + 1 - 1 = l.length by omega, hS.1]
      refine ⟨fun c => absurd c (by omega), fun _ => ⟨⟨by omega, by omega⟩, ⟨by omega, by omega⟩, fun _ => m_binds hE ?_ ⟨fun _ => hq, fun c => absurd c (by omega)⟩⟩⟩
      have := hK e List.mem_cons_self
      omega
  | cons e es ih =>
    intro mem cur s g e29 hS hK e23 hcnt hb hpd hsg hT hQ
    have hlen : ((pl (e :: es) ++ P).length : Int) = (pl es ++ P).length + 1 := by show (((e.1, e.2.1) :: (pl es ++ P)).length : Int) = _; simp
    have hS : plS (mem 616) (mem 617) ((e.1, e.2.1) :: (pl es ++ P)) := hS
    have hK : plK ((e.1, e.2.1) :: (pl es ++ P)) := hK
    have hs0 := hsg.1
    have hs1 := hsg.2.1
    have he := hK _ List.mem_cons_self
    have he : 20 ≤ e.1 ∧ e.1 ≤ 32 ∧ 0 ≤ e.2.1 ∧ e.2.1 < 400 := he
    have hbe := hb e List.mem_cons_self
    have hb2 : ∀ x ∈ es, least ≤ bnd x.1 := fun x hx => hb x (List.mem_cons_of_mem _ hx)
    have hel : ((e :: es).length : Int) = es.length + 1 := by simp
    have h1 : mem 616 ((pl es ++ P).length : Int) = e.1 := hS.1
    have h2 : mem 617 ((pl es ++ P).length : Int) = e.2.1 := hS.2.1
    generalize hN : ((pl es ++ P).length : Int) = N at *
    have hN0 : 0 ≤ N := by omega
    -- the signs that are put
    have put : (e.1 = 28 ∨ (20 ≤ e.1 ∧ e.1 ≤ 27)) → (∀ c1 g2, pdOk od (mem 614) (mem 615) es c1 a0 → c1 ≤ cur → (∀ m2 : Mm, (∀ i, i < s → m2 614 i = mem 614 i ∧ m2 615 i = mem 615 i) → m2 614 s = e.1 → m2 615 s = 0 → mSg od (m2 614) (m2 615) c1 (s + 1) g2) → g2 = (if e.1 = 28 then neg true g else cmb e.1 e.2.2.2 g) → CV E mX12_emit k (aUp mem 603 29 N) [aR 603, aI e.1, aI 0] (fun m8 => VM E mX12_settle (k + 1) m8 0 [(0, aR 603), (1, aI least)] [] (retV Q))) := by
      intro hk c1 g2 hpd2 hc1 hseg hg
      refine m_emit hE ((aUp_nn (by omega)).trans e23) (by omega) (by omega) ⟨by omega, by omega⟩ (by decide) ?_
      have fs : ∀ o i, ¬ (o = 603 ∧ (i = 23 ∨ i = 29)) → ¬ ((o = 614 ∨ o = 615) ∧ s ≤ i) → (aUp (aUp (aUp (aUp mem 603 29 N) 614 s e.1) 615 s 0) 603 23 (s + 1)) o i = mem o i := fun o i a b => by rw [aUp_nn (by omega), aUp_nn (by omega), aUp_nn (by omega), aUp_nn (by omega)]
      have f14 : (aUp (aUp (aUp (aUp mem 603 29 N) 614 s e.1) 615 s 0) 603 23 (s + 1)) 614 s = e.1 := by rw [aUp_nn (by omega), aUp_nn (by omega), aUp_re]
      have f15 : (aUp (aUp (aUp (aUp mem 603 29 N) 614 s e.1) 615 s 0) 603 23 (s + 1)) 615 s = 0 := by rw [aUp_nn (by omega), aUp_re]
      have f29 : (aUp (aUp (aUp (aUp mem 603 29 N) 614 s e.1) 615 s 0) 603 23 (s + 1)) 603 29 = N := by rw [aUp_nn (by omega), aUp_nn (by omega), aUp_nn (by omega), aUp_re]
      have f23 : (aUp (aUp (aUp (aUp mem 603 29 N) 614 s e.1) 615 s 0) 603 23 (s + 1)) 603 23 = s + 1 := aUp_re
      generalize (aUp (aUp (aUp (aUp mem 603 29 N) 614 s e.1) 615 s 0) 603 23 (s + 1)) = m2 at *
      have lo : ∀ i, i < s → m2 614 i = mem 614 i ∧ m2 615 i = mem 615 i := fun i u => ⟨fs _ _ (by omega) (by omega), fs _ _ (by omega) (by omega)⟩
      have hle := pdOk_le es c1 hpd2
      refine ih m2 c1 (s + 1) g2 f29 (plS_fr _ (fun j _ _ => ⟨fs _ _ (by omega) (by omega), fs _ _ (by omega) (by omega)⟩) hS.2.2) (plK_c hK) f23 (by omega) hb2 (pdOk_fr es c1 (fun i u => lo i (by omega)) hpd2) (hseg m2 lo f14 f15) (by rw [hg]; exact hT.2) fun m3 s3 g1 g2' g3 g4 g5 g6 => ?_
      refine hQ m3 s3 (fun o i a b => (g1 o i a b).trans (fs o i a (by omega))) g2' g3 (by omega) (by omega) ?_
      have : pdG (e :: es) g = pdG es (if e.1 = 28 then neg true g else cmb e.1 e.2.2.2 g) := rfl
      rw [this, ← hg]
      exact g6
    have jmp : (e.1 = 29 ∨ e.1 = 30) → VM E mX12_settle (k + 1) (aUp (aUp mem 603 29 N) 615 e.2.1 s) 0 [(0, aR 603), (1, aI least)] [] (retV Q) := by
      intro hk
      rcases hpd with ⟨a, -⟩ | ⟨a, b, c, d, f, h⟩ | ⟨-, b, -⟩
      · omega
      · have hf := f.2.1
        have hf0 := f.1
        have hle := pdOk_le es e.2.2.1 h
        have fs : ∀ o i, ¬ (o = 603 ∧ i = 29) → ¬ (o = 615 ∧ i = e.2.1) → (aUp (aUp mem 603 29 N) 615 e.2.1 s) o i = mem o i := fun o i a b => by rw [aUp_nn (by omega), aUp_nn (by omega)]
        have f15 : (aUp (aUp mem 603 29 N) 615 e.2.1 s) 615 e.2.1 = s := aUp_re
        have f29 : (aUp (aUp mem 603 29 N) 615 e.2.1 s) 603 29 = N := by rw [aUp_nn (by omega), aUp_re]
        generalize (aUp (aUp mem 603 29 N) 615 e.2.1 s) = m2 at *
        have hg : (if e.1 = 28 then neg true g else cmb e.1 e.2.2.2 g) = cmb e.1 e.2.2.2 g := if_neg (by omega)
        refine ih m2 e.2.2.1 s (cmb e.1 e.2.2.2 g) f29 (plS_fr _ (fun j _ _ => ⟨fs _ _ (by omega) (by omega), fs _ _ (by omega) (by omega)⟩) hS.2.2) (plK_c hK) ((fs _ _ (by omega) (by omega)).trans e23) (by omega) hb2 (pdOk_fr es _ (fun i u => ⟨fs _ _ (by omega) (by omega), fs _ _ (by omega) (by omega)⟩) h) ?_ (by rw [← hg]; exact hT.2) fun m3 s3 g1 g2' g3 g4 g5 g6 => ?_
        · refine sg_jmp (cd := id) machm (j := e.2.1) (by omega) (sg_fr (fun i u v => ⟨fs _ _ (by omega) (by omega), fs _ _ (by omega) (by omega)⟩) f) ?_ a ((fs _ _ (by omega) (by omega)).trans c) f15 d
          rw [← b]
          exact sg_le (by omega) (sg_fr (fun i u v => ⟨fs _ _ (by omega) (by omega), fs _ _ (by omega) (by omega)⟩) hsg)
        · refine hQ m3 s3 (fun o i a b => (g1 o i a b).trans (fs o i (by omega) (by omega))) g2' g3 (by omega) (by omega) ?_
          have : pdG (e :: es) g = pdG es (if e.1 = 28 then neg true g else cmb e.1 e.2.2.2 g) := rfl
          rw [this, hg]
          exact g6
      · omega
    refine rX12_settle_0 hE ?_
    rw [e29, hlen, show N + 1 - 1 = N by omega, h1]
    refine ⟨fun c => absurd c (by omega), fun _ => ⟨⟨by omega, by omega⟩, ⟨by omega, by omega⟩, fun _ => m_binds hE ⟨by omega, by omega⟩ ⟨fun c => absurd c (by omega), fun _ => ?_⟩⟩⟩
    rw [e29, hlen, show N + 1 - 1 = N by omega, h1, h2, e23]
    refine ⟨⟨by omega, by omega⟩, ⟨by omega, by omega⟩, fun c => ⟨⟨by omega, by omega⟩, jmp (Or.inl c)⟩, fun c => ⟨fun c2 _ => ?_, fun c2 => ⟨⟨by omega, by omega⟩, jmp (Or.inr c2)⟩⟩⟩
    rcases hpd with ⟨a, b⟩ | ⟨a, -⟩ | ⟨a, b, d, f, h⟩
    · have hg : (if e.1 = 28 then neg true g else cmb e.1 e.2.2.2 g) = neg true g := if_pos a
      have ht : tB g := by
        have := hT.1
        rw [if_pos (by omega)] at this
        exact this
      exact put (Or.inl a) cur (neg true g) b (Int.le_refl _) (fun m2 lo x1 x2 => sg_not (cd := id) machm (by omega) (sg_fr (fun i u v => lo i v) hsg) (x1.trans a) x2 ht) hg.symm
    · omega
    · have hg : (if e.1 = 28 then neg true g else cmb e.1 e.2.2.2 g) = cmb e.1 e.2.2.2 g := if_neg (by omega)
      have hv : vB g := by
        have := hT.1
        rw [if_neg (by omega)] at this
        exact this
      have hf := f.2.1
      have hf0 := f.1
      exact put (Or.inr ⟨a, b⟩) e.2.2.1 _ h (by omega) (fun m2 lo x1 x2 => sg_op (cd := id) machm (by omega) (sg_fr (fun i u v => lo i (by omega)) f) (sg_le (by omega) (sg_fr (fun i u v => lo i v) hsg)) ⟨a, b⟩ x1 x2 d hv) hg.symm
-- settled where all is bad already: nothing is thrown
theorem m_settleB {E : EN} (hE : Ep E) {k : Nat} {Q : Mm → Prop} {m0 : Mm} (hQ : ∀ m2, (∀ o i, ¬ (o = 603 ∧ (i = 23 ∨ i = 29)) → o ≠ 614 → o ≠ 615 → m2 o i = m0 o i) → Q m2) : ∀ (N : Nat) (mem : Mm), (∀ o i, ¬ (o = 603 ∧ (i = 23 ∨ i = 29)) → o ≠ 614 → o ≠ 615 → mem o i = m0 o i) → mem 603 29 = (N : Int) → 0 ≤ mem 603 23 → mem 603 23 + (N : Int) ≤ 400 → (∀ i : Int, 0 ≤ i → i < (N : Int) → 20 ≤ mem 616 i ∧ mem 616 i ≤ 32 ∧ 0 ≤ mem 617 i ∧ mem 617 i < 400) → VM E mX12_settle (k + 1) mem 0 [(0, aR 603), (1, aI 1)] [] (retV Q) := by
  intro N
  induction N with
  | zero =>
    intro mem hm h29 h23 hc hi
    exact rX12_settle_0 hE ⟨fun _ => hQ mem hm, fun c => absurd c (by rw [h29]; omega)⟩
  | succ N ih =>
    intro mem hm h29 h23 hc hi
    obtain ⟨i1, i2, i3, i4⟩ := hi N (by omega) (by omega)
    refine rX12_settle_0 hE ?_
    rw [h29, show ((N + 1 : Nat) : Int) - 1 = (N : Int) by omega]
    refine ⟨fun c => absurd c (by omega), fun _ => ⟨⟨by omega, by omega⟩, ⟨by omega, by omega⟩, fun _ => m_binds hE ⟨by omega, by omega⟩ ⟨fun _ => hQ mem hm, fun _ => ?_⟩⟩⟩
    rw [h29, show ((N + 1 : Nat) : Int) - 1 = (N : Int) by omega]
    have jmp : ∀ v, VM E mX12_settle (k + 1) (aUp (aUp mem 603 29 N) 615 (mem 617 N) v) 0 [(0, aR 603), (1, aI 1)] [] (retV Q) := by
      intro v
      have fs : ∀ o i, ¬ (o = 603 ∧ i = 29) → o ≠ 615 → (aUp (aUp mem 603 29 N) 615 (mem 617 N) v) o i = mem o i := fun o i a b => by rw [aUp_nn (by omega), aUp_nn (by omega)]
      refine ih _ (fun o i a b c => (fs o i (by omega) c).trans (hm o i a b c)) ((aUp_nn (by omega)).trans aUp_re) (by rw [fs _ _ (by omega) (by omega)]; exact h23) (by rw [fs _ _ (by omega) (by omega)]; omega) fun i u w => ?_
      rw [fs _ _ (by omega) (by omega), fs _ _ (by omega) (by omega)]
      exact hi i u (by omega)
    refine ⟨⟨by omega, by omega⟩, ⟨by omega, by omega⟩, fun _ => ⟨⟨i3, i4⟩, jmp _⟩, fun _ => ⟨fun _ r => ?_, fun _ => ⟨⟨i3, i4⟩, jmp _⟩⟩⟩
    have e23 : (aUp mem 603 29 N) 603 23 = mem 603 23 := aUp_nn (by omega)
    refine m_emit hE e23 h23 (by omega) r (by decide) ?_
    have fs : ∀ o i, ¬ (o = 603 ∧ (i = 23 ∨ i = 29)) → o ≠ 614 → o ≠ 615 → (aUp (aUp (aUp (aUp mem 603 29 N) 614 (mem 603 23) (mem 616 N)) 615 (mem 603 23) 0) 603 23 (mem 603 23 + 1)) o i = mem o i := fun o i a b c => by rw [aUp_nn (by omega), aUp_nn (by omega), aUp_nn (by omega), aUp_nn (by omega)]
    refine ih _ (fun o i a b c => (fs o i a b c).trans (hm o i a b c)) ?_ ?_ ?_ fun i u w => ?_
    · rw [aUp_nn (by omega), aUp_nn (by omega), aUp_nn (by omega), aUp_re]
    · rw [aUp_re]; omega
    · rw [aUp_re]; omega
    · rw [fs _ _ (by omega) (by omega) (by omega), fs _ _ (by omega) (by omega) (by omega)]
      exact hi i u (by omega)
theorem m_settleC {E : EN} (hE : Ep E) {k : Nat} {mem : Mm} {Q : Mm → Prop} {least : Int} (hl : R32 least) (h : VM E mX12_settle (k + 1) mem 0 [(0, aR 603), (1, aI least)] [] (retV Q)) : CV E mX12_settle (k + 1) mem [aR 603, aI least] Q := eX12_settle hl h
