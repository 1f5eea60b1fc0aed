-- THE MACHINE SEEN FROM ABOVE: a value is a tag with a whole number (0 int, 1 long, 2 a reference into the world or null, 3 a reference from before); the world is a row of objects, all numbers in one function
abbrev AV : Type := Nat × Int
abbrev aI (x : Int) : AV := (0, x)
abbrev aL (x : Int) : AV := (1, x)
abbrev aR (x : Int) : AV := (2, x)
abbrev aF (x : Int) : AV := (3, x)
abbrev Mm : Type := Int → Int → Int
abbrev Sp : Type := List (Nat × Nat)
abbrev MI : Type := MethodName × ByteArray × Nat × Option FieldType
abbrev EN : Type := Launch × (Nat → ClassId) × (Nat → Nat → Nat) × (Nat → ClassId) × Nat × Bool × (State → Prop)
abbrev eB (E : EN) : Nat := E.2.2.2.2.1
def w32 (x : Int) : Int := (x + 2147483648) % 4294967296 - 2147483648
def w64 (x : Int) : Int := (x + 9223372036854775808) % 18446744073709551616 - 9223372036854775808
theorem w32_id {x : Int} (h1 : -2147483648 ≤ x) (h2 : x < 2147483648) : w32 x = x := by unfold w32; omega
theorem w64_id {x : Int} (h1 : -9223372036854775808 ≤ x) (h2 : x < 9223372036854775808) : w64 x = x := by unfold w64; omega
theorem w32_rng (x : Int) : -2147483648 ≤ w32 x ∧ w32 x < 2147483648 := by unfold w32; omega
theorem w64_rng (x : Int) : -9223372036854775808 ≤ w64 x ∧ w64 x < 9223372036854775808 := by unfold w64; omega
theorem bmod_w32 (x : Int) : Int.bmod x 4294967296 = w32 x := by
  unfold w32
  rw [Int.bmod_def]
  split <;> omega
theorem bmod_w64 (x : Int) : Int.bmod x 18446744073709551616 = w64 x := by
  unfold w64
  rw [Int.bmod_def]
  split <;> omega
theorem i32_of {x : Int} (h : -2147483648 ≤ x ∧ x < 2147483648) : (Int32.ofInt x).toInt = x := Int32.toInt_ofInt_of_le h.1 h.2
theorem i64_of {x : Int} (h : -9223372036854775808 ≤ x ∧ x < 9223372036854775808) : (Int64.ofInt x).toInt = x := Int64.toInt_ofInt_of_le h.1 h.2
theorem i32_eq {a : Int32} {x : Int} (h : a.toInt = w32 x) : a = Int32.ofInt (w32 x) := Int32.toInt_inj.1 (by rw [h, i32_of (w32_rng x)])
theorem i64_eq {a : Int64} {x : Int} (h : a.toInt = w64 x) : a = Int64.ofInt (w64 x) := Int64.toInt_inj.1 (by rw [h, i64_of (w64_rng x)])
theorem i32_back (a : Int32) : a = Int32.ofInt a.toInt := (Int32.ofInt_toInt a).symm
theorem i64_back (a : Int64) : a = Int64.ofInt a.toInt := (Int64.ofInt_toInt a).symm
theorem i32_rng (a : Int32) : -2147483648 ≤ a.toInt ∧ a.toInt < 2147483648 := ⟨Int32.le_toInt a, Int32.toInt_lt a⟩
theorem i64_rng (a : Int64) : -9223372036854775808 ≤ a.toInt ∧ a.toInt < 9223372036854775808 := ⟨Int64.le_toInt a, Int64.toInt_lt a⟩
/-- what a value is on the machine, the world's first cell at b -/
def aV (b : Nat) (a : AV) : Value := match a.1 with
  | 0 => .int (Int32.ofInt a.2)
  | 1 => .long (Int64.ofInt a.2)
  | 2 => if a.2 < 0 then .null else .ref (b + a.2.toNat)
  | _ => .ref a.2.toNat
def aC (a : AV) : Nat := if a.1 = 1 then 2 else 1
theorem aV_cat (b : Nat) (a : AV) : (aV b a).category = aC a := by
  obtain ⟨t, x⟩ := a
  match t with
  | 0 => rfl
  | 1 => rfl
  | 2 =>
    show (if x < 0 then Value.null else .ref (b + x.toNat)).category = 1
    split <;> rfl
  | t + 3 => rfl
def aNr (a : AV) : Prop := (a.1 = 0 → -2147483648 ≤ a.2 ∧ a.2 < 2147483648) ∧ (a.1 = 1 → -9223372036854775808 ≤ a.2 ∧ a.2 < 9223372036854775808)
theorem aNr_I {x : Int} (h : -2147483648 ≤ x ∧ x < 2147483648) : aNr (aI x) := ⟨fun _ => h, (fun q => nomatch q)⟩
theorem aNr_L {x : Int} (h : -9223372036854775808 ≤ x ∧ x < 9223372036854775808) : aNr (aL x) := ⟨(fun q => nomatch q), fun _ => h⟩
theorem aNr_R (x : Int) : aNr (aR x) := ⟨(fun q => nomatch q), (fun q => nomatch q)⟩
theorem aNr_F (x : Int) : aNr (aF x) := ⟨(fun q => nomatch q), (fun q => nomatch q)⟩
-- what each slot of an object of a kind is: kinds 0..12 the classes, 13 int[], 14 long[], 15 boolean[], 16 Image[], 17 Text[], 18 Yard[]
def aTy (t : FieldType) : Nat := match t with
  | .int => 0
  | .boolean => 0
  | .long => 1
  | .object _ => 2
  | .array _ => 2
  | _ => 9
def aKty (k : Nat) : Nat → FieldType := match k with
  | 0 => tyX0
  | 1 => tyX1
  | 2 => tyX2
  | 3 => tyX3
  | 4 => tyX4
  | 5 => tyX5
  | 6 => tyX6
  | 7 => tyX7
  | 8 => tyX8
  | 9 => tyX9
  | 10 => tyX10
  | 11 => tyX11
  | 12 => tyX12
  | 13 => fun _ => .int
  | 14 => fun _ => .long
  | 15 => fun _ => .boolean
  | _ => fun _ => .object "x"
def aT (k : Nat) (i : Int) : Nat := aTy (aKty k i.toNat)
def aRf (b : Nat) (x : Int) : Option Nat := if x < 0 then none else some (b + x.toNat)
theorem aRf_V (b : Nat) (x : Int) : va_rf (aRf b x) = aV b (aR x) := by
  unfold aRf aV
  dsimp only
  split <;> rfl
def aEn (E : EN) (k n : Nat) (f : Int → Int) : va_E :=
  if k < 13 then .inr (k, (List.range n).map fun j : Nat => aV (eB E) (aT k j, f j))
  else if k = 13 then .inl (E.2.2.2.1 0, n, .inl fun j => Int32.ofInt (f j))
  else if k = 14 then .inl (E.2.2.2.1 1, n, .inr (.inl fun j => Int64.ofInt (f j)))
  else if k = 15 then .inl (E.2.2.2.1 2, n, .inl fun j => Int32.ofInt (f j))
  else .inl (E.2.2.2.1 (k - 13), n, .inr (.inr (.inr (.inr fun j => aRf (eB E) (f j)))))
def aWl (E : EN) (sh : Sp) (mem : Mm) : va_W := (List.range sh.length).map fun j : Nat => (eB E + j, aEn E (sh.getD j (0, 0)).1 (sh.getD j (0, 0)).2 (mem j))
theorem aWl_get {E : EN} {sh : Sp} {mem : Mm} {j k n : Nat} (h : sh[j]? = some (k, n)) : (aWl E sh mem)[j]? = some (eB E + j, aEn E k n (mem j)) := by
  have hj : j < sh.length := (List.getElem?_eq_some_iff.mp h).1
  have hd : sh.getD j (0, 0) = (k, n) := by rw [List.getD_eq_getElem?_getD, h]; rfl
  unfold aWl
  rw [List.getElem?_map, List.getElem?_range hj, Option.map_some, hd]
theorem aWl_len (E : EN) (sh : Sp) (mem : Mm) : (aWl E sh mem).length = sh.length := by simp [aWl]
theorem aWl_set {E : EN} {sh : Sp} {mem mem' : Mm} {j k n : Nat} (h : sh[j]? = some (k, n)) (hm : ∀ i : Nat, i ≠ j → mem' i = mem i) : (aWl E sh mem).set j (eB E + j, aEn E k n (mem' j)) = aWl E sh mem' := by
  have hj : j < sh.length := (List.getElem?_eq_some_iff.mp h).1
  refine List.ext_getElem? fun i => ?_
  by_cases hi : i = j
  · subst hi
    rw [aWl_get h, List.getElem?_set_self (by rw [aWl_len]; exact hj)]
  · rw [List.getElem?_set_ne (fun q => hi q.symm)]
    unfold aWl
    rw [List.getElem?_map, List.getElem?_map]
    rcases Nat.lt_or_ge i sh.length with q | q
    · rw [List.getElem?_range q, Option.map_some, Option.map_some, hm i hi]
    · rw [List.getElem?_eq_none (by simpa using q)]; rfl
theorem aWl_D (E : EN) (sh : Sp) (mem : Mm) : va_D (fun q => eB E ≤ q) (aWl E sh mem) := by
  have key : ∀ (i : Nat) (p : Nat × va_E), (aWl E sh mem)[i]? = some p → p.1 = eB E + i := by
    intro i p hp
    have hi : i < sh.length := by rw [← aWl_len E sh mem]; exact (List.getElem?_eq_some_iff.mp hp).1
    unfold aWl at hp
    rw [List.getElem?_map, List.getElem?_range hi, Option.map_some] at hp
    rw [← Option.some.inj hp]
  refine ⟨fun i j p q hp hq he => ?_, fun k q hq => ?_⟩
  · rw [key i p hp, key j q hq] at he
    omega
  · show eB E ≤ q.1
    rw [key k q hq]
    omega
/-- object a of the world is of kind k with n slots -/
def aSh (sh : Sp) (a : Int) (k n : Nat) : Prop := ∃ j : Nat, a = (j : Int) ∧ sh[j]? = some (k, n)
def aNm (sh : Sp) (mem : Mm) : Prop := ∀ (j k n : Nat) (i : Int), sh[j]? = some (k, n) → aNr (aT k i, mem j i)
/-- final fields and rows that never change, once all is made: what they hold, by the object's kind and address -/
def flk (k : Nat) (a i : Int) : Option Int := match k with
  | 0 => if i = 0 then some (a + 1) else none
  | 1 => if i = 1 then some (a + 1) else if i = 2 then some (a + 2) else if i = 3 then some (a + 3) else none
  | 2 => if i = 0 then some (a + 1) else if i = 1 then some (a + 11) else if i = 2 then some (a + 15) else none
  | 3 => if i = 0 then some (a + 1) else none
  | 4 => if i = 0 then some (a + 1) else if i = 1 then some (a + 2) else if i = 2 then some (a + 3) else none
  | 5 => if i = 0 then some (a + 1) else if i = 1 then some (a + 11) else if i = 2 then some (a + 21) else if i = 3 then some (a + 22) else if i = 4 then some (a + 23) else none
  | 6 => if i = 0 then some (a + 1) else if i = 1 then some (a + 2) else none
  | 7 => if i = 0 then some (a + 1) else if i = 1 then some (a + 2) else none
  | 8 => if i = 0 then some (a + 1) else if i = 1 then some (a + 11) else if i = 2 then some (a + 174) else if i = 3 then some (a + 184) else if i = 4 then some (a + 347) else none
  | 9 => if i = 1 then some (a + 1) else if i = 2 then some (a + 2) else if i = 3 then some (a + 3) else if i = 4 then some (a + 4) else if i = 5 then some (a + 5) else if i = 6 then some (a + 6) else if i = 7 then some (a + 7) else if i = 9 then some (a + 8) else none
  | 10 => if i = 0 then some (a + 1) else if i = 1 then some (a + 2) else if i = 2 then some (a + 3) else if i = 3 then some (a + 4) else if i = 4 then some (a + 5) else if i = 5 then some (a + 6) else if i = 6 then some (a + 7) else if i = 7 then some (a + 8) else if i = 8 then some (a + 9) else none
  | 11 => if i = 0 then some (a + 1) else if i = 1 then some (a + 2) else if i = 2 then some (a + 12) else if i = 3 then some (a + 349) else if i = 4 then some (a + 353) else if i = 5 then some (a + 409) else if i = 6 then some (a + 552) else if i = 7 then some (a + 576) else if i = 8 then some (a + 580) else if i = 9 then some (a + 591) else if i = 10 then some (a + 602) else none
  | 12 => if i = 2 then some (a + 1) else if i = 3 then some (a + 2) else if i = 4 then some (a + 3) else if i = 5 then some (a + 4) else if i = 6 then some (a + 5) else if i = 7 then some (a + 6) else if i = 9 then some (a + 7) else if i = 10 then some (a + 8) else if i = 12 then some (a + 9) else if i = 22 then some (a + 10) else if i = 24 then some (a + 11) else if i = 25 then some (a + 12) else if i = 27 then some (a + 13) else if i = 28 then some (a + 14) else if i = 31 then some (a + 15) else if i = 32 then some (a + 16) else if i = 33 then some (a + 17) else if i = 35 then some (a + 18) else if i = 36 then some (a + 19) else if i = 37 then some (a + 20) else if i = 41 then some (a + 21) else if i = 44 then some (a + 22) else if i = 45 then some (a + 23) else if i = 46 then some (a + 24) else if i = 47 then some (a + 25) else if i = 48 then some (a + 26) else if i = 49 then some (a + 27) else if i = 50 then some (a + 28) else if i = 51 then some (a + 29) else if i = 52 then some (a + 30) else if i = 53 then some (a + 31) else if i = 59 then some (a + 32) else none
  | 16 => if 0 ≤ i ∧ i < 2 then some (a + 1 + 71 * i) else none
  | 17 => if 0 ≤ i ∧ i < 6 then some (a + 1 + 9 * i) else none
  | _ => none
def aFn (E : EN) (sh : Sp) (mem : Mm) : Prop := E.2.2.2.2.2.1 = true → ∀ (j k n : Nat) (i v : Int), sh[j]? = some (k, n) → flk k j i = some v → mem j i = v
def aWd (E : EN) (sh : Sp) (mem : Mm) (H : Heap) : Prop := va_P (E.2.1, E.2.2.1) vwCl (aWl E sh mem) H ∧ aNm sh mem ∧ aFn E sh mem
abbrev aTys (E : EN) : List (ClassId × FieldType) := [(E.2.2.2.1 0, .int), (E.2.2.2.1 1, .long), (E.2.2.2.1 2, .boolean), (E.2.2.2.1 3, .object "YardYear$Image"), (E.2.2.2.1 4, .object "YardYear$Text"), (E.2.2.2.1 5, .object "YardYear$Yard")]
abbrev aLv (b : Nat) (al : List (Nat × AV)) : List (Nat × Value) := al.map fun q => (q.1, aV b q.2)
abbrev aSt (b : Nat) (st : List AV) : List Value := st.map (aV b)
def aRm (k C S : Nat) : Room := { frames := k, cells := C, slots := S, locals := 64 * k }
def nestW (w : Cond) : Bool := match w with
  | .fieldLinkNest .. => true
  | .methodLinkNest .. => true
  | .arrayOver (.object _) => true
  | _ => false
def aNest (U : State) : Prop := ∀ w ∈ lw_tbl, nestW w = true → va_Nw w U
theorem aNest.warm {s U : State} (hW : s.WarmedH U.vm) (h : aNest s) : aNest U := by
  intro w hw hn
  have h1 := h w hw hn
  cases w with
  | fieldLinkNest => exact va_Nw.warmF hW h1
  | methodLinkNest => exact va_Nw.warmM hW h1
  | arrayOver ty =>
    cases ty with
    | object C => exact va_AO.moved (C := C) hW.alike h1
    | _ => cases hn
  | _ => cases hn
theorem aNest.same {u U : State} (hv : u.vm = U.vm) (h : aNest u) : aNest U := by
  intro w hw hn
  have h1 := h w hw hn
  cases w with
  | fieldLinkNest => exact va_Nw.same rfl hv h1
  | methodLinkNest => exact va_Nw.same rfl hv h1
  | arrayOver ty =>
    cases ty with
    | object C => exact va_AO.moved (C := C) (u := u) (U := U) (by rw [hv]; exact Vm.Alike.refl _) h1
    | _ => cases hn
  | _ => cases hn
abbrev eX (E : EN) : State → Prop := E.2.2.2.2.2.2
/-- what is said besides of the start (texts, statics) lasts through calls and through all that is written into the world -/
def aXok (E : EN) : Prop := (∀ (U : State) (g : JFrame) (mk : MethodId) (a : Array Value), eX E U → eX E (U.calling g mk a)) ∧ ∀ s U : State, eX E s → s.WarmedH U.vm → s.heap.size ≤ U.heap.size → (∀ q : Nat, q < s.heap.size → ¬ eB E ≤ q → U.heap[q]? = s.heap[q]?) → eX E U
def lw_gd : List Cond := lw_tbl.filter goodWord
theorem gd_tbl {w : Cond} (h : w ∈ lw_tbl) (hg : goodWord w = true) : w ∈ lw_gd := List.mem_filter.mpr ⟨h, hg⟩
def aIn (E : EN) (s : State) : Prop := va_K (E.2.1, E.2.2.1) vwCl (aTys E) s ∧ aNest s ∧ aXok E ∧ eX E s
def aCx (E : EN) (mi : MI) (s : State) (m : MethodId) (args : Array Value) (meth : Method) (c : Code) : Prop :=
  c.code = mi.2.1 ∧ meth.sig.returnType = mi.2.2.2 ∧ c.maxLocals = mi.2.2.1 ∧ s.vm.findClass mi.1.cls = some m.cls ∧ (∀ w ∈ lw_gd, w.before args s = true) ∧ meth.locks = false ∧ meth.name = mi.1.name ∧ aIn E s
abbrev PQ : Type := Option AV → Sp → Mm → Prop
/-- since the method began: what is not ours stays, and all new cells are the world's -/
def aSs (E : EN) (s : State) (sh : Sp) (n : Nat) (H : Heap) (locs : List Loc) : Prop := va_S (fun q => eB E ≤ q) s.heap H locs ∧ s.heap.size + n = eB E + sh.length ∧ eB E ≤ s.heap.size
def aQx (E : EN) (C : Nat) (Q : PQ) : Array Value → State → Outcome → State → Prop := fun _ st oc t =>
  (∃ (r : Option AV) (sh : Sp) (mem : Mm), oc = .returned (r.map (aV (eB E))) ∧ Q r sh mem ∧ aWd E sh mem t.heap ∧ st.heap.size + C = eB E + sh.length ∧ ∀ a, r = some a → aNr a) ∧ va_F (fun q => eB E ≤ q) st t
abbrev aNl (al : List (Nat × AV)) : Prop := ∀ q ∈ al, aNr q.2
abbrev aNs (st : List AV) : Prop := ∀ a ∈ st, aNr a
/-- FROM HERE: method mi, at level k of the room, with this world, at pc with these locals and this stack, comes to its end with Q -/
def VG (E : EN) (mi : MI) (k C S : Nat) (sh : Sp) (mem : Mm) (cs : Nat × Nat) (pc : Nat) (al : List (Nat × AV)) (st : List AV) (Q : PQ) : Prop :=
  ∀ (p : Program) (e : Env) (s : State) (m : MethodId) (args : Array Value) (below : List Frame) (meth : Method) (c : Code) (H : Heap) (locs : List Loc) (ls : Array Slot),
    p.tables.exec = Jvm.exec → aCx E mi s m args meth c → aWd E sh mem H → aSs E s sh cs.1 H locs → lv_has ls mi.2.2.1 (aLv (eB E) al) → aNl al → aNs st →
    W p E.1 e (aRm k C S) s m args below meth c H locs cs.1 cs.2 (MQ below (aQx E C Q) args s C S (fun q => eB E ≤ q)) (F0 m pc ls (aSt (eB E) st))
/-- A CALL of mi with these arguments in this world comes to its end with Q; C cells of S slots at most are new -/
def CG (E : EN) (mi : MI) (k C S : Nat) (sh : Sp) (mem : Mm) (av : List AV) (Q : PQ) : Prop :=
  Met E.1 mi.1 (.code mi.1 mi.2.1 mi.2.2.1 mi.2.2.2 :: lw_gd) (aRm k C S) (va_Pc (aSt (eB E) av) (fun U => aWd E sh mem U.heap ∧ aIn E U ∧ U.heap.size = eB E + sh.length)) (aQx E C Q) C S (fun q => eB E ≤ q)
theorem VG_rng {E : EN} {mi : MI} {k C S : Nat} {sh : Sp} {mem : Mm} {cs : Nat × Nat} {pc : Nat} {al : List (Nat × AV)} {st : List AV} {Q : PQ} (h : aNl al → aNs st → aNm sh mem → aFn E sh mem → VG E mi k C S sh mem cs pc al st Q) : VG E mi k C S sh mem cs pc al st Q := by
  intro p e s m args below meth c H locs ls hx hc hW hS hl hna hns
  exact h hna hns hW.2.1 hW.2.2 p e s m args below meth c H locs ls hx hc hW hS hl hna hns
/-- fewer locals, in any order -/
theorem VG_sub {E : EN} {mi : MI} {k C S : Nat} {sh : Sp} {mem : Mm} {cs : Nat × Nat} {pc : Nat} {al al' : List (Nat × AV)} {st : List AV} {Q : PQ} (ks : List Nat) (hk : ks.filterMap (fun i => al[i]?) = al') (h : VG E mi k C S sh mem cs pc al' st Q) : VG E mi k C S sh mem cs pc al st Q := by
  intro p e s m args below meth c H locs ls hx hc hW hS hl hna hns
  have hm : ∀ q ∈ al', q ∈ al := by
    intro q hq
    rw [← hk] at hq
    obtain ⟨i, -, hi⟩ := List.mem_filterMap.mp hq
    exact List.mem_of_getElem? hi
  refine h p e s m args below meth c H locs ls hx hc hW hS ⟨hl.1, hl.2.1, fun q hq => ?_⟩ (fun q hq => hna q (hm q hq)) hns
  obtain ⟨r, hr, rfl⟩ := List.mem_map.mp hq
  exact hl.2.2 _ (List.mem_map.mpr ⟨r, hm r hr, rfl⟩)
theorem good_gd : ∀ w ∈ lw_gd, goodWord w = true := fun w h => (List.mem_filter.mp h).2
def aArgs : Nat → List AV → List (Nat × AV)
  | _, [] => []
  | i, v :: vs => (i, v) :: aArgs (if v.1 = 1 then i + 2 else i + 1) vs
theorem aArgs_lv (b : Nat) (av : List AV) : ∀ i, lv_args i (aSt b av) = aLv b (aArgs i av) := by
  induction av with
  | nil => intro i; rfl
  | cons v vs ih =>
    intro i
    show (i, aV b v) :: lv_args (if (aV b v).category = 2 then i + 2 else i + 1) (aSt b vs) = (i, aV b v) :: aLv b (aArgs (if v.1 = 1 then i + 2 else i + 1) vs)
    rw [aV_cat, ih]
    unfold aC
    by_cases q : v.1 = 1 <;> simp [q]
theorem aArgs_mem (av : List AV) : ∀ i, ∀ q ∈ aArgs i av, q.2 ∈ av := by
  induction av with
  | nil => intro i q h; cases h
  | cons v vs ih =>
    intro i q h
    rcases List.mem_cons.mp h with h | h
    · rw [h]; exact List.mem_cons_self
    · exact List.mem_cons_of_mem _ (ih _ q h)
/-- a method's body from its entry gives its call -/
theorem CG_of {E : EN} {mi : MI} {k C S : Nat} {sh : Sp} {mem : Mm} {av : List AV} {Q : PQ} (hp : plainName mi.1.cls = true) (hlen : (lg_sl (aSt (eB E) av)).length ≤ mi.2.2.1) (hn : aNs av) (h : VG E mi k C S sh mem (0, 0) 0 (aArgs 0 av) [] Q) : CG E mi k C S sh mem av Q := by
  refine Met.ofW (cc := mi.2.1) (maxL := mi.2.2.1) (ret := mi.2.2.2) hp rfl ?_
  intro p e s m args below meth c s₁ B hml hv
  obtain ⟨rfl, hW, hI, hz⟩ := hv
  have hts := atoms_spec (ws := .code mi.1 mi.2.1 mi.2.2.1 mi.2.2.2 :: lw_gd) B.pre
  have hl := lv_entry (aSt (eB E) av) (n := mi.2.2.1) hlen
  rw [lg_entry_eq]
  generalize (lg_sl (aSt (eB E) av) ++ List.replicate (mi.2.2.1 - (lg_sl (aSt (eB E) av)).length) Slot.unset).toArray = ls at hl ⊢
  rw [aArgs_lv] at hl
  exact h p e s m _ below meth c s.heap [] ls B.exec ⟨B.bytes, B.returns, hml, findClass_of_methodNamed B.named, fun w hw => hts w (List.mem_cons_of_mem _ hw), B.notSynchronized, (name_of_methodNamed B.named B.method).1, hI⟩ hW ⟨va_S.rf, hz, by omega⟩ hl (fun q hq => hn _ (aArgs_mem av 0 q hq)) (fun _ hq => by cases hq)
theorem aIn.blind {E : EN} {U : State} {g : JFrame} {mk : MethodId} {a : Array Value} (h : aIn E U) : aIn E (U.calling g mk a) :=
  ⟨va_K.moved (u := U) (U := U.calling g mk a) (Vm.Alike.refl U.vm) h.1, aNest.same (u := U) rfl h.2.1, h.2.2.1, h.2.2.1.1 U g mk a h.2.2.2⟩
theorem aIn.call {E : EN} {s U : State} {H : Heap} {locs : List Loc} (h : aIn E s) (hS : va_S (fun q => eB E ≤ q) s.heap H locs) (hU : U.heap = H) (hW : s.WarmedH U.vm) : aIn E U :=
  ⟨va_K.moved hW.alike h.1, aNest.warm hW h.2.1, h.2.2.1, h.2.2.1.2 s U h.2.2.2 hW (by rw [hU]; exact hS.1) (fun q h1 h2 => by rw [hU]; exact hS.2.1 q h1 h2)⟩
theorem CG_blind {E : EN} {sh : Sp} {mem : Mm} {av : List AV} : FrameBlind (va_Pc (aSt (eB E) av) (fun U => aWd E sh mem U.heap ∧ aIn E U ∧ U.heap.size = eB E + sh.length)) :=
  fun _ _ _ _ h => ⟨h.1, h.2.1, h.2.2.1.blind, h.2.2.2⟩
theorem W_size {p : Program} {e : Env} {R : Room} {s : State} {m : MethodId} {args : Array Value} {below : List Frame} {meth : Method} {c : Code} {H : Heap} {locs : List Loc} {cells slots : Nat} {Q : State → Prop} {g : JFrame} {E : EN} {sh : Sp} {mem : Mm} (hW : aWd E sh mem H) (hS : aSs E s sh cells H locs) (h : H.size = eB E + sh.length → W p E.1 e R s m args below meth c H locs cells slots Q g) : W p E.1 e R s m args below meth c H locs cells slots Q g := by
  intro T hT X
  have h1 : (T.setVm s.vm).heap.size ≤ s.heap.size + cells := X.same.2.2.1
  have h2 : T.heap.size ≤ s.heap.size + cells := h1
  rw [hT] at h2
  have h3 := hS.1.1
  have h4 : eB E + sh.length ≤ H.size := by
    rcases Nat.eq_zero_or_pos sh.length with q | q
    · have := hS.2.1
      have := hS.2.2
      omega
    · obtain ⟨⟨k, n⟩, hk⟩ : ∃ x, sh[sh.length - 1]? = some x := ⟨_, List.getElem?_eq_getElem (by omega)⟩
      have h5 := (hW.1 (sh.length - 1) _ (aWl_get hk)).lt
      have h6 : eB E + (sh.length - 1) < H.size := h5
      omega
  exact h (by have := hS.2.1; omega) T hT X
theorem CG_mono {E : EN} {mi : MI} {k C S : Nat} {sh : Sp} {mem : Mm} {av : List AV} {Q Q' : PQ} (h : CG E mi k C S sh mem av Q) (hq : ∀ r sh' mem', Q r sh' mem' → Q' r sh' mem') : CG E mi k C S sh mem av Q' := by
  intro p e ha hc hk s m args below hf happ hP hK
  obtain ⟨n, o, h1, h2, h3, ⟨⟨r, sh', mem', q1, q2, q3⟩, q4⟩, q5⟩ := h p e ha hc hk s m args below hf happ hP hK
  exact ⟨n, o, h1, h2, h3, ⟨⟨r, sh', mem', q1, hq _ _ _ q2, q3⟩, q4⟩, q5⟩
/-- the rest of a call: what a method of the class (own) may do with a contract of another -/
theorem VG_call {E : EN} {mi mi' : MI} {k C S C' S' n index : Nat} {sh : Sp} {mem : Mm} {cs : Nat × Nat} {pc : Nat} {al : List (Nat × AV)} {st rest av : List AV} {Q Q' : PQ}
    (hrun : ∀ (p : Program) (e : Env) (s : State) (m : MethodId) (args : Array Value) (below : List Frame) (meth : Method) (c : Code) (H : Heap) (locs : List Loc) (ls : Array Slot),
      p.tables.exec = Jvm.exec → aCx E mi s m args meth c → aWd E sh mem H → aSs E s sh cs.1 H locs → H.size = eB E + sh.length → lv_has ls mi.2.2.1 (aLv (eB E) al) →
      va_Run p E.1 e (aRm (k + 1) C S) s m args below meth c H locs cs.1 cs.2 C' S' (F0 m pc ls (aSt (eB E) st)) (aSt (eB E) rest) (aQx E C' Q' (aSt (eB E) av).toArray) (fun q => eB E ≤ q))
    (hrn : ∀ a ∈ rest, a ∈ st)
    (kk : ∀ (r : Option AV) (sh' : Sp) (mem' : Mm), Q' r sh' mem' → VG E mi (k + 1) C S sh' mem' (cs.1 + C', cs.2 + S') (pc + 3) al (r.toList ++ rest) Q) : VG E mi (k + 1) C S sh mem cs pc al st Q := by
  intro p e s m args below meth c H locs ls hx hc hW hS hl hna hns
  refine W_size hW hS fun hzz => ?_
  have hr := hrun p e s m args below meth c H locs ls hx hc hW hS hzz hl
  intro T hT X
  obtain ⟨v, st₀, t, T', L, h0, X', hL, e1, e2, ⟨⟨r, sh', mem', hv, hq, hWd, hzc, hnr⟩, hz, hk⟩, stp⟩ := hr T hT X
  cases hv
  rw [h0] at hz hk hzc
  have hS' : aSs E s sh' (cs.1 + C') T'.heap (locs ++ L) := ⟨⟨Nat.le_trans hS.1.1 (by rw [e1]; exact hz), fun q h1 h2 => by rw [e1, hk q (Nat.lt_of_lt_of_le h1 hS.1.1) h2]; exact hS.1.2.1 q h1 h2, fun q hq => by
      rcases List.mem_append.mp hq with h | h
      · exact hS.1.2.2 q h
      · exact hL q h⟩, by have := hS.2.1; omega, hS.2.2⟩
  have hns' : aNs (r.toList ++ rest) := by
    intro a ha
    rcases List.mem_append.mp ha with h | h
    · cases r with
      | none => cases h
      | some x =>
        rcases List.mem_cons.mp h with h | h
        · rw [h]; exact hnr x rfl
        · cases h
    · exact hns a (hrn a h)
  obtain ⟨t2, a1, b1⟩ := kk r sh' mem' hq p e s m args below meth c T'.heap (locs ++ L) ls hx hc (by rw [e1]; exact hWd) hS' hl hna hns' T' rfl X'
  refine ⟨t2, stp t2 ?_, b1⟩
  have e3 : aSt (eB E) (r.toList ++ rest) = (r.map (aV (eB E))).toList ++ aSt (eB E) rest := by
    cases r <;> rfl
  rw [e3] at a1
  exact a1
