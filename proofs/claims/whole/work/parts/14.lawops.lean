-- the law's own rows: its script stands from before, at cell b, L numbers xs
def aScr (E : EN) (b L : Nat) (xs : Nat → Int32) : Prop := b < eB E ∧ L < 2147483648 ∧ ∀ s : State, eX E s → va_X b L xs s s.heap ∧ b < s.heap.size
def sx (xs : Nat → Int32) (i : Int) : Int := (xs i.toNat).toInt
theorem l_sld {E : EN} {mi : MI} {k C S : Nat} {sh : Sp} {mem : Mm} {cs : Nat × Nat} {pc : Nat} {al : List (Nat × AV)} {st : List AV} {Q : PQ} {b L : Nat} {xs : Nat → Int32} {i : Int} (hX : aScr E b L xs) (hd : decode mi.2.1 pc = .ok (.iaload, 1)) (h0 : 0 ≤ i) (hL : i < L) (h : VG E mi k C S sh mem cs (pc + 1) al (aI (sx xs i) :: st) Q) : VG E mi k C S sh mem cs pc al (aI i :: aF b :: st) Q := by
  intro p e s m args below meth c H locs ls hx hc hW hS hl hna hns
  obtain ⟨q1, q2⟩ := i32_in (n := L) (aNs_I hns) h0 hL
  have h1 := hX.2.2 s hc.2.2.2.2.2.2.2.2.2.2
  show W p E.1 e (aRm k C S) s m args below meth c H locs cs.1 cs.2 _ (F0 m pc ls (.int (Int32.ofInt i) :: .ref ((b : Int).toNat) :: aSt (eB E) st))
  rw [Int.toNat_natCast]
  refine va_sld hx hc.1 h1.1 h1.2 (by have := hX.1; omega) hS.1 q1 hd ?_
  rw [q2, i32_back (xs i.toNat)]
  exact h p e s m args below meth c H locs ls hx hc hW hS hl hna (aNs_c (aNr_I (i32_rng _)) (aNs_t (aNs_t hns)))
theorem l_slen {E : EN} {mi : MI} {k C S : Nat} {sh : Sp} {mem : Mm} {cs : Nat × Nat} {pc : Nat} {al : List (Nat × AV)} {st : List AV} {Q : PQ} {b L : Nat} {xs : Nat → Int32} (hX : aScr E b L xs) (hd : decode mi.2.1 pc = .ok (.arraylength, 1)) (h : VG E mi k C S sh mem cs (pc + 1) al (aI L :: st) Q) : VG E mi k C S sh mem cs pc al (aF b :: st) Q := by
  intro p e s m args below meth c H locs ls hx hc hW hS hl hna hns
  have h1 := hX.2.2 s hc.2.2.2.2.2.2.2.2.2.2
  have h2 := hX.2.1
  show W p E.1 e (aRm k C S) s m args below meth c H locs cs.1 cs.2 _ (F0 m pc ls (.ref ((b : Int).toNat) :: aSt (eB E) st))
  rw [Int.toNat_natCast]
  refine va_slen hx hc.1 h1.1 h1.2 (by have := hX.1; omega) hS.1 hd ?_
  rw [← Int32.ofInt_eq_ofNat]
  exact h p e s m args below meth c H locs ls hx hc hW hS hl hna (aNs_c (aNr_I (by omega)) (aNs_t hns))
theorem l_iadd {E : EN} {mi : MI} {k C S : Nat} {sh : Sp} {mem : Mm} {cs : Nat × Nat} {pc : Nat} {al : List (Nat × AV)} {st : List AV} {Q : PQ} {x y : Int} (hd : decode mi.2.1 pc = .ok (.iadd, 1)) (hr : R32 (x + y)) (h : VG E mi k C S sh mem cs (pc + 1) al (aI (x + y) :: st) Q) : VG E mi k C S sh mem cs pc al (aI y :: aI x :: st) Q := v_iadd hd (by rw [w32_id hr.1 hr.2]; exact h)
theorem l_isub {E : EN} {mi : MI} {k C S : Nat} {sh : Sp} {mem : Mm} {cs : Nat × Nat} {pc : Nat} {al : List (Nat × AV)} {st : List AV} {Q : PQ} {x y : Int} (hd : decode mi.2.1 pc = .ok (.isub, 1)) (hr : R32 (x - y)) (h : VG E mi k C S sh mem cs (pc + 1) al (aI (x - y) :: st) Q) : VG E mi k C S sh mem cs pc al (aI y :: aI x :: st) Q := v_isub hd (by rw [w32_id hr.1 hr.2]; exact h)
theorem l_iinc {E : EN} {mi : MI} {k C S : Nat} {sh : Sp} {mem : Mm} {cs : Nat × Nat} {pc : Nat} {al al2 : List (Nat × AV)} {st : List AV} {Q : PQ} {i : Nat} {n x : Int} (hd : decode mi.2.1 pc = .ok (.iinc i n, 3)) (j : Nat) (hj : al[j]? = some (i, aI x)) (hi : i < mi.2.2.1) (hr : R32 (x + n)) (ha : aSto i (aI (x + n)) al = al2) (h : VG E mi k C S sh mem cs (pc + 3) al2 st Q) : VG E mi k C S sh mem cs pc al st Q := v_iinc hd j hj hi (by rw [w32_id hr.1 hr.2]; exact ha) h
theorem l_retZ {E : EN} {mi : MI} {k C S : Nat} {mem : Mm} {pc : Nat} {al : List (Nat × AV)} {Q : Int → Mm → Prop} {x : Int} (hd : decode mi.2.1 pc = .ok (.ireturn, 1)) (hr : mi.2.2.2 = some .boolean) (hz : x = 0 ∨ x = 1) (h : Q x mem) : VG E mi k C S SH mem (C, S) pc al [aI x] (retI Q) := v_zret (st := []) hd hr rfl (Nat.le_refl _) hz ⟨rfl, x, rfl, h⟩
theorem l_invI {E : EN} {mi mi' : MI} {k n index C S : Nat} {mem : Mm} {pc : Nat} {al : List (Nat × AV)} {rest : List AV} {Q : PQ} (av : List AV) {a : Int} {ci N : Nat} {T : u_T} (hd : decode mi.2.1 pc = .ok (.invokevirtual index, 3)) (hs : aSh SH a ci N) (hci : ci < 13) (hcl : vwCl[ci]? = some (mi'.1.cls, T, N)) (h1 : aMs mi' n) (h2 : aMv mi') (h3 : aLk mi.1.cls index mi'.1) (hn : av.length = n) (hr : (rest.map aC).sum ≤ 8) (hM : aNs (aR a :: av) → CI E mi' k mem (aR a :: av) (fun x m2 => VG E mi (k + 1) C S SH m2 (C, S) (pc + 3) al (aI x :: rest) Q)) : VG E mi (k + 1) C S SH mem (C, S) pc al (av.reverse ++ aR a :: rest) Q := VG_rng fun _ hns _ _ => v_invV hd (hM (aNs_rv hns)) hs hci hcl h1 h2 h3 hn ⟨Nat.le_refl _, Nat.le_refl _⟩ hr (fun r sh' m2 hq => by obtain ⟨rfl, x, rfl, h⟩ := hq; exact h)
theorem l_invL {E : EN} {mi mi' : MI} {k n index C S : Nat} {mem : Mm} {pc : Nat} {al : List (Nat × AV)} {rest : List AV} {Q : PQ} (av : List AV) {a : Int} {ci N : Nat} {T : u_T} (hd : decode mi.2.1 pc = .ok (.invokevirtual index, 3)) (hs : aSh SH a ci N) (hci : ci < 13) (hcl : vwCl[ci]? = some (mi'.1.cls, T, N)) (h1 : aMs mi' n) (h2 : aMv mi') (h3 : aLk mi.1.cls index mi'.1) (hn : av.length = n) (hr : (rest.map aC).sum ≤ 8) (hM : aNs (aR a :: av) → CL E mi' k mem (aR a :: av) (fun x m2 => VG E mi (k + 1) C S SH m2 (C, S) (pc + 3) al (aL x :: rest) Q)) : VG E mi (k + 1) C S SH mem (C, S) pc al (av.reverse ++ aR a :: rest) Q := VG_rng fun _ hns _ _ => v_invV hd (hM (aNs_rv hns)) hs hci hcl h1 h2 h3 hn ⟨Nat.le_refl _, Nat.le_refl _⟩ hr (fun r sh' m2 hq => by obtain ⟨rfl, x, rfl, h⟩ := hq; exact h)
/-- all is made: from here on the final fields hold what they hold -/
abbrev eMain (E : EN) : EN := (E.1, E.2.1, E.2.2.1, E.2.2.2.1, E.2.2.2.2.1, true, E.2.2.2.2.2.2)
theorem W_post {p : Program} {l : Launch} {e : Env} {R : Room} {s : State} {m : MethodId} {args : Array Value} {below : List Frame} {meth : Method} {c : Code} {H : Heap} {locs : List Loc} {cells slots : Nat} {Q Q2 : State → Prop} {g : JFrame} (hq : ∀ t, Q t → Q2 t) (h : W p l e R s m args below meth c H locs cells slots Q g) : W p l e R s m args below meth c H locs cells slots Q2 g := by
  intro T hT X
  obtain ⟨t, h1, h2⟩ := h T hT X
  exact ⟨t, h1, hq t h2⟩
theorem VG_main {E : EN} {mi : MI} {k C S : Nat} {sh : Sp} {mem : Mm} {cs : Nat × Nat} {pc : Nat} {al : List (Nat × AV)} {st : List AV} {Q : PQ} (hph : E.2.2.2.2.2.1 = false) (hf : ∀ (j k n : Nat) (i v : Int), sh[j]? = some (k, n) → flk k j i = some v → mem j i = v) (h : VG (eMain E) mi k C S sh mem cs pc al st Q) : VG E mi k C S sh mem cs pc al st Q := by
  intro p e s m args below meth c H locs ls hx hc hW hS hl hna hns
  refine W_post ?_ (h p e s m args below meth c H locs ls hx hc ⟨hW.1, hW.2.1, fun _ => hf⟩ hS hl hna hns)
  intro t ht
  obtain ⟨oc, h1, h2, ⟨⟨r, sh2, mem2, q1, q2, q3, q4⟩, q5⟩, h4⟩ := ht
  exact ⟨oc, h1, h2, ⟨⟨r, sh2, mem2, q1, q2, ⟨q3.1, q3.2.1, fun q => by rw [hph] at q; cases q⟩, q4⟩, q5⟩, h4⟩
abbrev mL_law : MI := (yL_law, cL_law, 4, some .boolean)
abbrev cL_C : Nat := 636
abbrev cL_S : Nat := 46823
