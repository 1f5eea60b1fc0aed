/-- what is known of a class of objects: its place among the kinds, its fields, their types -/
def aCk (ci : Nat) (C : String) (T : u_T) (N : Nat) : Prop := ci < 13 ∧ vwCl[ci]? = some (C, T, N) ∧ (∀ w ∈ u_ws C T N, w ∈ lw_gd) ∧ (∀ k, k < N → parseFieldDescriptor (T k).2.2.1 = some (aKty ci k)) ∧ ∀ a, a < N → ∀ b, b < N → a ≠ b → (T a).2.1 ≠ (T b).2.1
theorem lay_good {C : String} {T : u_T} {N : Nat} : ∀ w ∈ u_ws C T N, goodWord w = true := by
  intro w hw
  obtain ⟨k, -, rfl⟩ := List.mem_map.mp hw
  unfold u_lay
  split <;> rfl
theorem ck0 : aCk 0 RX0 TX0 2 := ⟨by decide, rfl, fun w hw => gd_tbl (inX0 w hw) (lay_good w hw), tyX0_ok, nmX0⟩
theorem ck1 : aCk 1 RX1 TX1 4 := ⟨by decide, rfl, fun w hw => gd_tbl (inX1 w hw) (lay_good w hw), tyX1_ok, nmX1⟩
theorem ck2 : aCk 2 RX2 TX2 4 := ⟨by decide, rfl, fun w hw => gd_tbl (inX2 w hw) (lay_good w hw), tyX2_ok, nmX2⟩
theorem ck3 : aCk 3 RX3 TX3 3 := ⟨by decide, rfl, fun w hw => gd_tbl (inX3 w hw) (lay_good w hw), tyX3_ok, nmX3⟩
theorem ck4 : aCk 4 RX4 TX4 5 := ⟨by decide, rfl, fun w hw => gd_tbl (inX4 w hw) (lay_good w hw), tyX4_ok, nmX4⟩
theorem ck5 : aCk 5 RX5 TX5 9 := ⟨by decide, rfl, fun w hw => gd_tbl (inX5 w hw) (lay_good w hw), tyX5_ok, nmX5⟩
theorem ck6 : aCk 6 RX6 TX6 3 := ⟨by decide, rfl, fun w hw => gd_tbl (inX6 w hw) (lay_good w hw), tyX6_ok, nmX6⟩
theorem ck7 : aCk 7 RX7 TX7 11 := ⟨by decide, rfl, fun w hw => gd_tbl (inX7 w hw) (lay_good w hw), tyX7_ok, nmX7⟩
theorem ck8 : aCk 8 RX8 TX8 10 := ⟨by decide, rfl, fun w hw => gd_tbl (inX8 w hw) (lay_good w hw), tyX8_ok, nmX8⟩
theorem ck9 : aCk 9 RX9 TX9 10 := ⟨by decide, rfl, fun w hw => gd_tbl (inX9 w hw) (lay_good w hw), tyX9_ok, nmX9⟩
theorem ck10 : aCk 10 RX10 TX10 13 := ⟨by decide, rfl, fun w hw => gd_tbl (inX10 w hw) (lay_good w hw), tyX10_ok, nmX10⟩
theorem ck11 : aCk 11 RX11 TX11 14 := ⟨by decide, rfl, fun w hw => gd_tbl (inX11 w hw) (lay_good w hw), tyX11_ok, nmX11⟩
theorem ck12 : aCk 12 RX12 TX12 61 := ⟨by decide, rfl, fun w hw => gd_tbl (inX12 w hw) (lay_good w hw), tyX12_ok, nmX12⟩
/-- the instruction at this entry of the own class's pool reads or writes field i of objects of kind ci -/
def aFl (own : String) (index ci N i : Nat) : Prop := ∃ (Cn : String) (T : u_T), aCk ci Cn T N ∧ i < N ∧ (Cond.fieldLink own index (T i).1 (T i).2.1 (T i).2.2.1 ∈ lw_gd ∨ ∃ host, Cond.fieldLinkNest own index (T i).1 (T i).2.1 (T i).2.2.1 host ∈ lw_tbl)
def aUp (mem : Mm) (a i v : Int) : Mm := fun b j => if b = a ∧ j = i then v else mem b j
theorem aUp_ne {mem : Mm} {a i v : Int} {b : Int} (h : b ≠ a) : aUp mem a i v b = mem b := funext fun j => if_neg fun q => h q.1
theorem aUp_at (mem : Mm) (a i v b j : Int) : aUp mem a i v b j = if b = a ∧ j = i then v else mem b j := rfl
theorem aEn_obj {E : EN} {k n : Nat} {f : Int → Int} (h : k < 13) : aEn E k n f = .inr (k, (List.range n).map fun j : Nat => aV (eB E) (aT k j, f j)) := if_pos h
theorem aEn_at {E : EN} {ci n i : Nat} {f : Int → Int} (hi : i < n) : ((List.range n).map fun j : Nat => aV (eB E) (aT ci j, f j))[i]? = some (aV (eB E) (aT ci i, f i)) := by
  rw [List.getElem?_map, List.getElem?_range hi]; rfl
theorem aEn_set {E : EN} {ci n i : Nat} {f : Int → Int} {v : Int} : ((List.range n).map fun j : Nat => aV (eB E) (aT ci j, f j)).set i (aV (eB E) (aT ci i, v)) = (List.range n).map fun j : Nat => aV (eB E) (aT ci j, if (j : Int) = i then v else f j) := by
  refine List.ext_getElem? fun j => ?_
  by_cases hj : j = i
  · subst hj
    by_cases hn : j < n
    · rw [List.getElem?_set_self (by simpa using hn), List.getElem?_map, List.getElem?_range hn, Option.map_some, if_pos rfl]
    · rw [List.getElem?_eq_none (by simpa using hn), List.getElem?_eq_none (by simpa using hn)]
  · rw [List.getElem?_set_ne (fun q => hj q.symm), List.getElem?_map, List.getElem?_map]
    rcases Nat.lt_or_ge j n with q | q
    · rw [List.getElem?_range q, Option.map_some, Option.map_some, if_neg (by omega)]
    · rw [List.getElem?_eq_none (by simpa using q)]; rfl
/-- the world behind one write -/
theorem aWd_up {E : EN} {sh : Sp} {mem : Mm} {H H1 : Heap} {j k n : Nat} {i v : Int} (hW : aWd E sh mem H) (hs : sh[j]? = some (k, n)) (hP : va_P (E.2.1, E.2.2.1) vwCl (aWl E sh (aUp mem j i v)) H1) (hv : aNr (aT k i, v)) (hf : flk k j i = none ∨ E.2.2.2.2.2.1 = false) : aWd E sh (aUp mem j i v) H1 := by
  refine ⟨hP, ?_, ?_⟩
  · intro j2 k2 n2 i2 h2
    unfold aUp
    split
    · rename_i q
      obtain ⟨q1, q2⟩ := q
      have q1 : j2 = j := by omega
      subst q1; subst q2
      rw [hs] at h2
      cases h2
      exact hv
    · exact hW.2.1 j2 k2 n2 i2 h2
  · intro hp j2 k2 n2 i2 v2 h2 hfl
    unfold aUp
    split
    · rename_i q
      obtain ⟨q1, q2⟩ := q
      have q1 : j2 = j := by omega
      subst q1; subst q2
      rw [hs] at h2
      cases h2
      rcases hf with hf | hf
      · rw [hf] at hfl
        cases hfl
      · rw [hf] at hp
        cases hp
    · exact hW.2.2 hp j2 k2 n2 i2 v2 h2 hfl
theorem aSh_nn {sh : Sp} {a : Int} {k n : Nat} (h : aSh sh a k n) : 0 ≤ a := by obtain ⟨j, rfl, -⟩ := h; omega
theorem v_getf {E : EN} {mi : MI} {k C S : Nat} {sh : Sp} {mem : Mm} {cs : Nat × Nat} {pc : Nat} {al : List (Nat × AV)} {st : List AV} {Q : PQ} {ci N i t index : Nat} {a : Int} (hd : decode mi.2.1 pc = .ok (.getfield index, 3)) (hf : aFl mi.1.cls index ci N i) (ht : aT ci (i : Int) = t) (hs : aSh sh a ci N) (h : VG E mi k C S sh mem cs (pc + 3) al ((t, mem a i) :: st) Q) : VG E mi k C S sh mem cs pc al (aR a :: st) Q := by
  obtain ⟨Cn, T, ⟨hc13, hcl, hin, hty, hnm⟩, hiN, hlk⟩ := hf
  obtain ⟨j, rfl, hsj⟩ := hs
  subst ht
  intro p e s m args below meth c H locs ls hx hc hW hS hl hna hns
  have he := aWl_get (E := E) (mem := mem) hsj
  rw [aEn_obj hc13] at he
  show W p E.1 e (aRm k C S) s m args below meth c H locs cs.1 cs.2 _ (F0 m pc ls (aV (eB E) (aR (j : Int)) :: aSt (eB E) st))
  rw [aV_ref]
  have hk := h p e s m args below meth c H locs ls hx hc hW hS hl hna (aNs_c (hW.2.1 j ci N i hsj) (aNs_t hns))
  rcases hlk with q | ⟨host, q⟩
  · exact va_get (D := (E.2.1, E.2.2.1)) hx hc.1 hc.2.2.2.2.1 hin hc.2.2.2.1 hc.2.2.2.2.2.2.2.1 hW.1 j he hcl i hiN (hc.2.2.2.2.1 _ q) (fun _ r => r) (aEn_at hiN) hd hk
  · exact va_getN (D := (E.2.1, E.2.2.1)) hx hc.1 hc.2.2.2.2.1 hin hc.2.2.2.1 hc.2.2.2.2.2.2.2.1 hW.1 j he hcl i hiN (va_Nw.use rfl (hc.2.2.2.2.2.2.2.2.1 _ q rfl)) (fun _ r => r) (aEn_at hiN) hd hk
theorem fits_ok {b t : Nat} {ty : FieldType} {x : Int} (h : aTy ty = t) (ht : t ≤ 2) (hb : ty = .boolean → x = 0 ∨ x = 1) : narrow ty (aV b (t, x)) = aV b (t, x) ∧ fits ty (aV b (t, x)) = true := by
  subst h
  cases ty with
  | int => exact ⟨rfl, rfl⟩
  | long => exact ⟨rfl, rfl⟩
  | boolean => rcases hb rfl with q | q <;> (subst q; exact ⟨rfl, rfl⟩)
  | object n =>
    show narrow _ (if x < 0 then Value.null else .ref (b + x.toNat)) = (if x < 0 then Value.null else .ref (b + x.toNat)) ∧ fits _ (if x < 0 then Value.null else .ref (b + x.toNat)) = true
    split <;> exact ⟨rfl, rfl⟩
  | array n =>
    show narrow _ (if x < 0 then Value.null else .ref (b + x.toNat)) = (if x < 0 then Value.null else .ref (b + x.toNat)) ∧ fits _ (if x < 0 then Value.null else .ref (b + x.toNat)) = true
    split <;> exact ⟨rfl, rfl⟩
  | byte => exact absurd ht (by decide)
  | char => exact absurd ht (by decide)
  | short => exact absurd ht (by decide)
  | float => exact absurd ht (by decide)
  | double => exact absurd ht (by decide)
theorem v_putf {E : EN} {mi : MI} {k C S : Nat} {sh : Sp} {mem : Mm} {cs : Nat × Nat} {pc : Nat} {al : List (Nat × AV)} {st : List AV} {Q : PQ} {ci N i t index : Nat} {a x : Int} (hd : decode mi.2.1 pc = .ok (.putfield index, 3)) (hf : aFl mi.1.cls index ci N i) (hnf : ∃ (Cn : String) (T : u_T), vwCl[ci]? = some (Cn, T, N) ∧ ((T i).2.2.2 = false ∨ ((T i).2.2.2 = true ∧ mi.1.name = "<init>" ∧ (T i).1 = mi.1.cls ∧ ∃ n d, Cond.fieldLink mi.1.cls index (T i).1 n d ∈ lw_gd ∧ n = (T i).2.1 ∧ d = (T i).2.2.1))) (ht : aT ci (i : Int) = t) (ht2 : t ≤ 2) (hb : aKty ci i = .boolean → x = 0 ∨ x = 1) (hfl : (∀ b, flk ci b (i : Int) = none) ∨ E.2.2.2.2.2.1 = false) (hs : aSh sh a ci N) (h : VG E mi k C S sh (aUp mem a i x) cs (pc + 3) al st Q) : VG E mi k C S sh mem cs pc al ((t, x) :: aR a :: st) Q := by
  obtain ⟨Cn, T, ⟨hc13, hcl, hin, hty, hnm⟩, hiN, hlk⟩ := hf
  obtain ⟨Cn', T', hcl', hfin⟩ := hnf
  cases hcl.symm.trans hcl'
  obtain ⟨j, rfl, hsj⟩ := hs
  intro p e s m args below meth c H locs ls hx hc hW hS hl hna hns
  have he := aWl_get (E := E) (mem := mem) hsj
  rw [aEn_obj hc13] at he
  show W p E.1 e (aRm k C S) s m args below meth c H locs cs.1 cs.2 _ (F0 m pc ls (aV (eB E) (t, x) :: aV (eB E) (aR (j : Int)) :: aSt (eB E) st))
  rw [aV_ref]
  have hnr : aNr (aT ci i, x) := by rw [ht]; exact hns _ List.mem_cons_self
  obtain ⟨hn1, hn2⟩ := fits_ok (b := eB E) (x := x) (ty := aKty ci i) (t := t) (by rw [← ht]; unfold aT; rw [Int.toNat_natCast]) ht2 hb
  have kk : ∀ (H1 : Heap) (locs1 : List Loc), va_P (E.2.1, E.2.2.1) vwCl ((aWl E sh mem).set j (eB E + j, .inr (ci, ((List.range N).map fun j2 : Nat => aV (eB E) (aT ci j2, mem j j2)).set i (aV (eB E) (t, x))))) H1 → va_D (fun q => eB E ≤ q) ((aWl E sh mem).set j (eB E + j, .inr (ci, ((List.range N).map fun j2 : Nat => aV (eB E) (aT ci j2, mem j j2)).set i (aV (eB E) (t, x))))) → va_S (fun q => eB E ≤ q) s.heap H1 locs1 → W p E.1 e (aRm k C S) s m args below meth c H1 locs1 cs.1 cs.2 (MQ below (aQx E C Q) args s C S (fun q => eB E ≤ q)) (F0 m (pc + 3) ls (aSt (eB E) st)) := by
    intro H1 locs1 hP1 hD1 hS1
    have e1 : (aWl E sh mem).set j (eB E + j, .inr (ci, ((List.range N).map fun j2 : Nat => aV (eB E) (aT ci j2, mem j j2)).set i (aV (eB E) (t, x)))) = aWl E sh (aUp mem j i x) := by
      rw [← aWl_set (mem' := aUp mem j i x) hsj (fun i2 h2 => aUp_ne (by omega)), aEn_obj hc13]
      congr 4
      rw [← ht, aEn_set]
      refine List.map_congr_left fun j2 _ => ?_
      unfold aUp
      by_cases q : (j2 : Int) = i
      · rw [if_pos q, if_pos ⟨rfl, q⟩]
      · rw [if_neg q, if_neg fun r => q r.2]
    rw [e1] at hP1
    exact h p e s m args below meth c H1 locs1 ls hx hc (aWd_up hW hsj hP1 hnr (hfl.imp (fun q => q _) id)) ⟨hS1, hS.2⟩ hl hna (aNs_t (aNs_t hns))
  have hsize : (List.map (fun j2 : Nat => aV (eB E) (aT ci j2, mem j j2)) (List.range N)).length = N := by simp
  rcases hlk with q | ⟨host, q⟩
  · rcases hfin with g | ⟨g, g1, g2, -⟩
    · exact va_put (D := (E.2.1, E.2.2.1)) hx hc.1 hc.2.2.2.2.1 hin _ hty hnm hc.2.2.2.1 hc.2.2.2.2.2.2.2.1 hW.1 (aWl_D E sh mem) hS.1 j he hcl i hiN (hc.2.2.2.2.1 _ q) (fun _ r => r) g (hty i hiN) hn1 hn2 (by rw [hsize]; exact hiN) hd kk
    · exact va_putF (D := (E.2.1, E.2.2.1)) hx hc.1 hc.2.2.2.2.1 hin _ hty hnm hc.2.2.2.1 hc.2.2.2.2.2.2.2.1 hW.1 (aWl_D E sh mem) hS.1 j he hcl i hiN (hc.2.2.2.2.1 _ q) (fun _ r => r) g (hc.2.2.2.2.2.2.1.trans g1) g2 (hty i hiN) hn1 hn2 (by rw [hsize]; exact hiN) hd kk
  · rcases hfin with g | ⟨g, g1, g2, n, d, hl1, rfl, rfl⟩
    · exact va_putN (D := (E.2.1, E.2.2.1)) hx hc.1 hc.2.2.2.2.1 hin _ hty hnm hc.2.2.2.1 hc.2.2.2.2.2.2.2.1 hW.1 (aWl_D E sh mem) hS.1 j he hcl i hiN (va_Nw.use rfl (hc.2.2.2.2.2.2.2.2.1 _ q rfl)) (fun _ r => r) g (hty i hiN) hn1 hn2 (by rw [hsize]; exact hiN) hd kk
    · exact va_putF (D := (E.2.1, E.2.2.1)) hx hc.1 hc.2.2.2.2.1 hin _ hty hnm hc.2.2.2.1 hc.2.2.2.2.2.2.2.1 hW.1 (aWl_D E sh mem) hS.1 j he hcl i hiN (hc.2.2.2.2.1 _ hl1) (fun _ r => r) g (hc.2.2.2.2.2.2.1.trans g1) g2 (hty i hiN) hn1 hn2 (by rw [hsize]; exact hiN) hd kk
