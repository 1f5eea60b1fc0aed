def R_law : String := "YardYearLaw"
def lw_P (b : Addr) (xs : List Int32) (args : Array Value) (s : State) : Prop := args = #[.ref b] ∧ s.IntsAt b xs ∧ xs.length ≤ 3072 ∧ (Jvm.Cond.and given_1 narrow_1).before args s = true
def lw_Q (_ : Array Value) (s : State) (o : Outcome) (t : State) : Prop := o = .returned (some (.int 1)) ∧ Framed s o t [] 600000 7302250
def lw_Z (below : List Frame) (a : Array Value) (s : State) : State → Prop := fun t => ∃ o, t.status = .running ∧ Ended t below o ∧ lw_Q a s o t
def lw_At (p : Program) (s : State) (m : MethodId) (meth : Method) (c : Code) (b L : Nat) (xs : Nat → Int32) : Prop :=
  p.tables.exec = Jvm.exec ∧ c.code = code ∧ meth.sig.returnType = ret ∧ c.maxLocals = 4 ∧ s.vm.findClass R_law = some m.cls ∧ (∀ w ∈ lw_tbl, w.before #[Value.ref b] s = true) ∧ va_X b L xs s s.heap ∧ b < s.heap.size ∧ meth.locks = false ∧ (Jvm.Cond.and given_1 narrow_1).before #[Value.ref b] s = true
-- the law out of its forty steps: INV holds at the start, each pair of calls answers alike and keeps it
/-- a pair of calls with the same numbers: the same answer, and INV again -/
def stI (E : EN) (k : Nat) (INV : Nat → Mm → Prop) (mc mm : MI) (n : Nat) : Prop := ∀ (t : Nat) (mem : Mm) (av : List Int), t < 600 → av.length = n → (∀ x ∈ av, R32 x) → INV t mem → CI E mc k mem (aR 0 :: av.map aI) (fun r m1 => CI E mm k m1 (aR 603 :: av.map aI) (fun r2 m2 => r = r2 ∧ INV (t + 1) m2))
def stL (E : EN) (k : Nat) (INV : Nat → Mm → Prop) (mc mm : MI) (n : Nat) : Prop := ∀ (t : Nat) (mem : Mm) (av : List Int), t < 600 → av.length = n → (∀ x ∈ av, R32 x) → INV t mem → CL E mc k mem (aR 0 :: av.map aI) (fun r m1 => CL E mm k m1 (aR 603 :: av.map aI) (fun r2 m2 => r = r2 ∧ INV (t + 1) m2))
theorem sx_all (xs : Nat → Int32) (js : List Int) : ∀ x ∈ js.map (sx xs), R32 x := by
  intro x hx
  obtain ⟨j, -, rfl⟩ := List.mem_map.mp hx
  exact i32_rng _
set_option maxHeartbeats 400000 in
theorem law_loop {E : EN} (hE : Ep E) {k b L : Nat} {xs : Nat → Int32} (hX : aScr E b L xs) (hL : L ≤ 3072) {INV : Nat → Mm → Prop} (hmo : ∀ t m, INV t m → INV (t + 1) m) (q0 : stI E k INV mX11_put mX12_put 3) (q1 : stI E k INV mX11_at mX12_at 2) (q2 : stI E k INV mX11_of mX12_of 2) (q3 : stI E k INV mX11_goes mX12_goes 2) (q4 : stI E k INV mX11_barred mX12_barred 2) (q5 : stI E k INV mX11_terms mX12_terms 2) (q6 : stI E k INV mX11_feed mX12_feed 5) (q7 : stI E k INV mX11_end mX12_end 1) (q8 : stI E k INV mX11_row mX12_row 0) (q9 : stI E k INV mX11_moles mX12_moles 0) (q10 : stI E k INV mX11_law mX12_law 0) (q11 : stI E k INV mX11_orders mX12_orders 0) (q12 : stI E k INV mX11_fault mX12_fault 0) (q13 : stI E k INV mX11_stopped mX12_stopped 0) (q14 : stI E k INV mX11_force mX12_force 1) (q15 : stI E k INV mX11_bury mX12_bury 3) (q16 : stI E k INV mX11_buy mX12_buy 1) (q17 : stI E k INV mX11_raise mX12_raise 1) (q18 : stI E k INV mX11_pass mX12_pass 0) (q19 : stI E k INV mX11_blocked mX12_blocked 0) (q20 : stI E k INV mX11_undo mX12_undo 0) (q21 : stI E k INV mX11_where mX12_where 2) (q22 : stI E k INV mX11_indoors mX12_indoors 0) (q23 : stL E k INV mX11_ways mX12_ways 4) (q24 : stI E k INV mX11_packed mX12_packed 1) (q25 : stI E k INV mX11_meets mX12_meets 2) (q26 : stI E k INV mX11_meet mX12_meet 4) (q27 : stI E k INV mX11_find mX12_find 3) (q28 : stI E k INV mX11_forget mX12_forget 0) (q29 : stI E k INV mX11_hidden mX12_hidden 1) (q30 : stI E k INV mX11_spade mX12_spade 2) (q31 : stI E k INV mX11_compare mX12_compare 2) (q32 : stL E k INV mX11_arrives mX12_arrives 3) (q33 : stI E k INV mX11_round mX12_round 1) (q34 : stI E k INV mX11_centuries mX12_centuries 2) (q35 : stI E k INV mX11_drawn mX12_drawn 2) (q36 : stI E k INV mX11_image mX12_image 1) (q37 : stI E k INV mX11_back mX12_back 1) (q38 : stI E k INV mX11_count mX12_count 1) (q39 : stI E k INV mX11_status mX12_status 0) : ∀ (n t : Nat) (i : Int) (mem : Mm), i = 6 * (t : Int) → (L : Int) - i ≤ n → i ≤ 4000 → INV t mem → VG E mL_law (k + 1) cL_C cL_S SH mem (cL_C, cL_S) 18 [(0, aF b), (1, aR 0), (2, aR 603), (3, aI i)] [] (retI fun r _ => r = 1) := by
  intro n
  induction n with
  | zero =>
    intro t i mem h0 hn h4 hI
    refine rL_law_18 hE hX ⟨⟨by omega, by omega⟩, fun _ => rfl, fun hi => absurd hi (by omega)⟩
  | succ n ih =>
    intro t i mem h0 hn h4 hI
    refine rL_law_18 hE hX ⟨⟨by omega, by omega⟩, fun _ => rfl, fun hi => ?_⟩
    have h9 : 0 ≤ i := by omega
    have h6 : t < 600 := by omega
    have nx : ∀ m2 : Mm, INV (t + 1) m2 → R32 (i + 6) ∧ VG E mL_law (k + 1) cL_C cL_S SH m2 (cL_C, cL_S) 18 [(0, aF b), (1, aR 0), (2, aR 603), (3, aI (i + 6))] [] (retI fun r _ => r = 1) := fun m2 h2 => ⟨⟨by omega, by omega⟩, ih (t + 1) (i + 6) m2 (by omega) (by omega) (by omega) h2⟩
    have r1 : R32 (i + 1) := ⟨by omega, by omega⟩
    have b1 : 0 ≤ i + 1 ∧ i + 1 < (L : Int) := ⟨by omega, by omega⟩
    have r2 : R32 (i + 2) := ⟨by omega, by omega⟩
    have b2 : 0 ≤ i + 2 ∧ i + 2 < (L : Int) := ⟨by omega, by omega⟩
    have r3 : R32 (i + 3) := ⟨by omega, by omega⟩
    have b3 : 0 ≤ i + 3 ∧ i + 3 < (L : Int) := ⟨by omega, by omega⟩
    have r4 : R32 (i + 4) := ⟨by omega, by omega⟩
    have b4 : 0 ≤ i + 4 ∧ i + 4 < (L : Int) := ⟨by omega, by omega⟩
    have r5 : R32 (i + 5) := ⟨by omega, by omega⟩
    have b5 : 0 ≤ i + 5 ∧ i + 5 < (L : Int) := ⟨by omega, by omega⟩
    clear ih hn h4 h0
    have hsx := sx_all xs
    refine ⟨⟨h9, by omega⟩, ?_, ?_, ?_, ?_, ?_, ?_, ?_, ?_, ?_, ?_, ?_, ?_, ?_, ?_, ?_, ?_, ?_, ?_, ?_, ?_, ?_, ?_, ?_, ?_, ?_, ?_, ?_, ?_, ?_, ?_, ?_, ?_, ?_, ?_, ?_, ?_, ?_, ?_, ?_, ?_, ?_⟩
    · exact fun _ => ⟨r1, b1, r2, b2, r3, b3, fun _ _ _ => CI_mono (q0 t mem (([i + 1, i + 2, i + 3] : List Int).map (sx xs)) h6 rfl (hsx _) hI) (fun r m1 hr => fun _ _ _ => CI_mono hr (fun r2 m2 h2 => ⟨fun _ => nx m2 h2.2, fun h3 => absurd h2.1 h3⟩))⟩
    · exact fun _ => ⟨r1, b1, r2, b2, fun _ _ => CI_mono (q1 t mem (([i + 1, i + 2] : List Int).map (sx xs)) h6 rfl (hsx _) hI) (fun r m1 hr => fun _ _ => CI_mono hr (fun r2 m2 h2 => ⟨fun _ => nx m2 h2.2, fun h3 => absurd h2.1 h3⟩))⟩
    · exact fun _ => ⟨r1, b1, r2, b2, fun _ _ => CI_mono (q2 t mem (([i + 1, i + 2] : List Int).map (sx xs)) h6 rfl (hsx _) hI) (fun r m1 hr => fun _ _ => CI_mono hr (fun r2 m2 h2 => ⟨fun _ => nx m2 h2.2, fun h3 => absurd h2.1 h3⟩))⟩
    · exact fun _ => ⟨r1, b1, r2, b2, fun _ _ => CI_mono (q3 t mem (([i + 1, i + 2] : List Int).map (sx xs)) h6 rfl (hsx _) hI) (fun r m1 hr => fun _ _ => CI_mono hr (fun r2 m2 h2 => ⟨fun _ => nx m2 h2.2, fun h3 => absurd h2.1 h3⟩))⟩
    · exact fun _ => ⟨r1, b1, r2, b2, fun _ _ => CI_mono (q4 t mem (([i + 1, i + 2] : List Int).map (sx xs)) h6 rfl (hsx _) hI) (fun r m1 hr => fun _ _ => CI_mono hr (fun r2 m2 h2 => ⟨fun _ => nx m2 h2.2, fun h3 => absurd h2.1 h3⟩))⟩
    · exact fun _ => ⟨r1, b1, r2, b2, fun _ _ => CI_mono (q5 t mem (([i + 1, i + 2] : List Int).map (sx xs)) h6 rfl (hsx _) hI) (fun r m1 hr => fun _ _ => CI_mono hr (fun r2 m2 h2 => ⟨fun _ => nx m2 h2.2, fun h3 => absurd h2.1 h3⟩))⟩
    · exact fun _ => ⟨r1, b1, r2, b2, r3, b3, r4, b4, r5, b5, fun _ _ _ _ _ => CI_mono (q6 t mem (([i + 1, i + 2, i + 3, i + 4, i + 5] : List Int).map (sx xs)) h6 rfl (hsx _) hI) (fun r m1 hr => fun _ _ _ _ _ => CI_mono hr (fun r2 m2 h2 => ⟨fun _ => nx m2 h2.2, fun h3 => absurd h2.1 h3⟩))⟩
    · exact fun _ => ⟨r1, b1, fun _ => CI_mono (q7 t mem (([i + 1] : List Int).map (sx xs)) h6 rfl (hsx _) hI) (fun r m1 hr => fun _ => CI_mono hr (fun r2 m2 h2 => ⟨fun _ => nx m2 h2.2, fun h3 => absurd h2.1 h3⟩))⟩
    · exact fun _ => CI_mono (q8 t mem (([] : List Int).map (sx xs)) h6 rfl (hsx _) hI) (fun r m1 hr => CI_mono hr (fun r2 m2 h2 => ⟨fun _ => nx m2 h2.2, fun h3 => absurd h2.1 h3⟩))
    · exact fun _ => CI_mono (q9 t mem (([] : List Int).map (sx xs)) h6 rfl (hsx _) hI) (fun r m1 hr => CI_mono hr (fun r2 m2 h2 => ⟨fun _ => nx m2 h2.2, fun h3 => absurd h2.1 h3⟩))
    · exact fun _ => CI_mono (q10 t mem (([] : List Int).map (sx xs)) h6 rfl (hsx _) hI) (fun r m1 hr => CI_mono hr (fun r2 m2 h2 => ⟨fun _ => nx m2 h2.2, fun h3 => absurd h2.1 h3⟩))
    · exact fun _ => CI_mono (q11 t mem (([] : List Int).map (sx xs)) h6 rfl (hsx _) hI) (fun r m1 hr => CI_mono hr (fun r2 m2 h2 => ⟨fun _ => nx m2 h2.2, fun h3 => absurd h2.1 h3⟩))
    · exact fun _ => CI_mono (q12 t mem (([] : List Int).map (sx xs)) h6 rfl (hsx _) hI) (fun r m1 hr => CI_mono hr (fun r2 m2 h2 => ⟨fun _ => nx m2 h2.2, fun h3 => absurd h2.1 h3⟩))
    · exact fun _ => CI_mono (q13 t mem (([] : List Int).map (sx xs)) h6 rfl (hsx _) hI) (fun r m1 hr => CI_mono hr (fun r2 m2 h2 => ⟨fun _ => nx m2 h2.2, fun h3 => absurd h2.1 h3⟩))
    · exact fun _ => ⟨r1, b1, fun _ => CI_mono (q14 t mem (([i + 1] : List Int).map (sx xs)) h6 rfl (hsx _) hI) (fun r m1 hr => fun _ => CI_mono hr (fun r2 m2 h2 => ⟨fun _ => nx m2 h2.2, fun h3 => absurd h2.1 h3⟩))⟩
    · exact fun _ => ⟨r1, b1, r2, b2, r3, b3, fun _ _ _ => CI_mono (q15 t mem (([i + 1, i + 2, i + 3] : List Int).map (sx xs)) h6 rfl (hsx _) hI) (fun r m1 hr => fun _ _ _ => CI_mono hr (fun r2 m2 h2 => ⟨fun _ => nx m2 h2.2, fun h3 => absurd h2.1 h3⟩))⟩
    · exact fun _ => ⟨r1, b1, fun _ => CI_mono (q16 t mem (([i + 1] : List Int).map (sx xs)) h6 rfl (hsx _) hI) (fun r m1 hr => fun _ => CI_mono hr (fun r2 m2 h2 => ⟨fun _ => nx m2 h2.2, fun h3 => absurd h2.1 h3⟩))⟩
    · exact fun _ => ⟨r1, b1, fun _ => CI_mono (q17 t mem (([i + 1] : List Int).map (sx xs)) h6 rfl (hsx _) hI) (fun r m1 hr => fun _ => CI_mono hr (fun r2 m2 h2 => ⟨fun _ => nx m2 h2.2, fun h3 => absurd h2.1 h3⟩))⟩
    · exact fun _ => CI_mono (q18 t mem (([] : List Int).map (sx xs)) h6 rfl (hsx _) hI) (fun r m1 hr => CI_mono hr (fun r2 m2 h2 => ⟨fun _ => nx m2 h2.2, fun h3 => absurd h2.1 h3⟩))
    · exact fun _ => CI_mono (q19 t mem (([] : List Int).map (sx xs)) h6 rfl (hsx _) hI) (fun r m1 hr => CI_mono hr (fun r2 m2 h2 => ⟨fun _ => nx m2 h2.2, fun h3 => absurd h2.1 h3⟩))
    · exact fun _ => CI_mono (q20 t mem (([] : List Int).map (sx xs)) h6 rfl (hsx _) hI) (fun r m1 hr => CI_mono hr (fun r2 m2 h2 => ⟨fun _ => nx m2 h2.2, fun h3 => absurd h2.1 h3⟩))
    · exact fun _ => ⟨r1, b1, r2, b2, fun _ _ => CI_mono (q21 t mem (([i + 1, i + 2] : List Int).map (sx xs)) h6 rfl (hsx _) hI) (fun r m1 hr => fun _ _ => CI_mono hr (fun r2 m2 h2 => ⟨fun _ => nx m2 h2.2, fun h3 => absurd h2.1 h3⟩))⟩
    · exact fun _ => CI_mono (q22 t mem (([] : List Int).map (sx xs)) h6 rfl (hsx _) hI) (fun r m1 hr => CI_mono hr (fun r2 m2 h2 => ⟨fun _ => nx m2 h2.2, fun h3 => absurd h2.1 h3⟩))
    · exact fun _ => ⟨r1, b1, r2, b2, r3, b3, r4, b4, fun _ _ _ _ => CL_mono (q23 t mem (([i + 1, i + 2, i + 3, i + 4] : List Int).map (sx xs)) h6 rfl (hsx _) hI) (fun r m1 hr => fun _ _ _ _ => CL_mono hr (fun r2 m2 h2 => ⟨fun _ => nx m2 h2.2, fun h3 => absurd h2.1 h3⟩))⟩
    · exact fun _ => ⟨r1, b1, fun _ => CI_mono (q24 t mem (([i + 1] : List Int).map (sx xs)) h6 rfl (hsx _) hI) (fun r m1 hr => fun _ => CI_mono hr (fun r2 m2 h2 => ⟨fun _ => nx m2 h2.2, fun h3 => absurd h2.1 h3⟩))⟩
    · exact fun _ => ⟨r1, b1, r2, b2, fun _ _ => CI_mono (q25 t mem (([i + 1, i + 2] : List Int).map (sx xs)) h6 rfl (hsx _) hI) (fun r m1 hr => fun _ _ => CI_mono hr (fun r2 m2 h2 => ⟨fun _ => nx m2 h2.2, fun h3 => absurd h2.1 h3⟩))⟩
    · exact fun _ => ⟨r1, b1, r2, b2, r3, b3, r4, b4, fun _ _ _ _ => CI_mono (q26 t mem (([i + 1, i + 2, i + 3, i + 4] : List Int).map (sx xs)) h6 rfl (hsx _) hI) (fun r m1 hr => fun _ _ _ _ => CI_mono hr (fun r2 m2 h2 => ⟨fun _ => nx m2 h2.2, fun h3 => absurd h2.1 h3⟩))⟩
    · exact fun _ => ⟨r1, b1, r2, b2, r3, b3, fun _ _ _ => CI_mono (q27 t mem (([i + 1, i + 2, i + 3] : List Int).map (sx xs)) h6 rfl (hsx _) hI) (fun r m1 hr => fun _ _ _ => CI_mono hr (fun r2 m2 h2 => ⟨fun _ => nx m2 h2.2, fun h3 => absurd h2.1 h3⟩))⟩
    · exact fun _ => CI_mono (q28 t mem (([] : List Int).map (sx xs)) h6 rfl (hsx _) hI) (fun r m1 hr => CI_mono hr (fun r2 m2 h2 => ⟨fun _ => nx m2 h2.2, fun h3 => absurd h2.1 h3⟩))
    · exact fun _ => ⟨r1, b1, fun _ => CI_mono (q29 t mem (([i + 1] : List Int).map (sx xs)) h6 rfl (hsx _) hI) (fun r m1 hr => fun _ => CI_mono hr (fun r2 m2 h2 => ⟨fun _ => nx m2 h2.2, fun h3 => absurd h2.1 h3⟩))⟩
    · exact fun _ => ⟨r1, b1, r2, b2, fun _ _ => CI_mono (q30 t mem (([i + 1, i + 2] : List Int).map (sx xs)) h6 rfl (hsx _) hI) (fun r m1 hr => fun _ _ => CI_mono hr (fun r2 m2 h2 => ⟨fun _ => nx m2 h2.2, fun h3 => absurd h2.1 h3⟩))⟩
    · exact fun _ => ⟨r1, b1, r2, b2, fun _ _ => CI_mono (q31 t mem (([i + 1, i + 2] : List Int).map (sx xs)) h6 rfl (hsx _) hI) (fun r m1 hr => fun _ _ => CI_mono hr (fun r2 m2 h2 => ⟨fun _ => nx m2 h2.2, fun h3 => absurd h2.1 h3⟩))⟩
    · exact fun _ => ⟨r1, b1, r2, b2, r3, b3, fun _ _ _ => CL_mono (q32 t mem (([i + 1, i + 2, i + 3] : List Int).map (sx xs)) h6 rfl (hsx _) hI) (fun r m1 hr => fun _ _ _ => CL_mono hr (fun r2 m2 h2 => ⟨fun _ => nx m2 h2.2, fun h3 => absurd h2.1 h3⟩))⟩
    · exact fun _ => ⟨r1, b1, fun _ => CI_mono (q33 t mem (([i + 1] : List Int).map (sx xs)) h6 rfl (hsx _) hI) (fun r m1 hr => fun _ => CI_mono hr (fun r2 m2 h2 => ⟨fun _ => nx m2 h2.2, fun h3 => absurd h2.1 h3⟩))⟩
    · exact fun _ => ⟨r1, b1, r2, b2, fun _ _ => CI_mono (q34 t mem (([i + 1, i + 2] : List Int).map (sx xs)) h6 rfl (hsx _) hI) (fun r m1 hr => fun _ _ => CI_mono hr (fun r2 m2 h2 => ⟨fun _ => nx m2 h2.2, fun h3 => absurd h2.1 h3⟩))⟩
    · exact fun _ => ⟨r1, b1, r2, b2, fun _ _ => CI_mono (q35 t mem (([i + 1, i + 2] : List Int).map (sx xs)) h6 rfl (hsx _) hI) (fun r m1 hr => fun _ _ => CI_mono hr (fun r2 m2 h2 => ⟨fun _ => nx m2 h2.2, fun h3 => absurd h2.1 h3⟩))⟩
    · exact fun _ => ⟨r1, b1, fun _ => CI_mono (q36 t mem (([i + 1] : List Int).map (sx xs)) h6 rfl (hsx _) hI) (fun r m1 hr => fun _ => CI_mono hr (fun r2 m2 h2 => ⟨fun _ => nx m2 h2.2, fun h3 => absurd h2.1 h3⟩))⟩
    · exact fun _ => ⟨r1, b1, fun _ => CI_mono (q37 t mem (([i + 1] : List Int).map (sx xs)) h6 rfl (hsx _) hI) (fun r m1 hr => fun _ => CI_mono hr (fun r2 m2 h2 => ⟨fun _ => nx m2 h2.2, fun h3 => absurd h2.1 h3⟩))⟩
    · exact fun _ => ⟨r1, b1, fun _ => CI_mono (q38 t mem (([i + 1] : List Int).map (sx xs)) h6 rfl (hsx _) hI) (fun r m1 hr => fun _ => CI_mono hr (fun r2 m2 h2 => ⟨fun _ => nx m2 h2.2, fun h3 => absurd h2.1 h3⟩))⟩
    · exact fun _ => CI_mono (q39 t mem (([] : List Int).map (sx xs)) h6 rfl (hsx _) hI) (fun r m1 hr => CI_mono hr (fun r2 m2 h2 => ⟨fun _ => nx m2 h2.2, fun h3 => absurd h2.1 h3⟩))
    · exact fun _ => nx mem (hmo t mem hI)
set_option maxHeartbeats 400000 in
/-- the law's whole walk, out of the forty steps -/
theorem start_of {INV : Nat → Mm → Prop} (hini : ∀ m : Mm, okX m 0 → okM m 603 → INV 0 m) (hmo : ∀ t m, INV t m → INV (t + 1) m) (q0 : ∀ E : EN, Ep E → aStr E → stI E 1199 INV mX11_put mX12_put 3) (q1 : ∀ E : EN, Ep E → aStr E → stI E 1199 INV mX11_at mX12_at 2) (q2 : ∀ E : EN, Ep E → aStr E → stI E 1199 INV mX11_of mX12_of 2) (q3 : ∀ E : EN, Ep E → aStr E → stI E 1199 INV mX11_goes mX12_goes 2) (q4 : ∀ E : EN, Ep E → aStr E → stI E 1199 INV mX11_barred mX12_barred 2) (q5 : ∀ E : EN, Ep E → aStr E → stI E 1199 INV mX11_terms mX12_terms 2) (q6 : ∀ E : EN, Ep E → aStr E → stI E 1199 INV mX11_feed mX12_feed 5) (q7 : ∀ E : EN, Ep E → aStr E → stI E 1199 INV mX11_end mX12_end 1) (q8 : ∀ E : EN, Ep E → aStr E → stI E 1199 INV mX11_row mX12_row 0) (q9 : ∀ E : EN, Ep E → aStr E → stI E 1199 INV mX11_moles mX12_moles 0) (q10 : ∀ E : EN, Ep E → aStr E → stI E 1199 INV mX11_law mX12_law 0) (q11 : ∀ E : EN, Ep E → aStr E → stI E 1199 INV mX11_orders mX12_orders 0) (q12 : ∀ E : EN, Ep E → aStr E → stI E 1199 INV mX11_fault mX12_fault 0) (q13 : ∀ E : EN, Ep E → aStr E → stI E 1199 INV mX11_stopped mX12_stopped 0) (q14 : ∀ E : EN, Ep E → aStr E → stI E 1199 INV mX11_force mX12_force 1) (q15 : ∀ E : EN, Ep E → aStr E → stI E 1199 INV mX11_bury mX12_bury 3) (q16 : ∀ E : EN, Ep E → aStr E → stI E 1199 INV mX11_buy mX12_buy 1) (q17 : ∀ E : EN, Ep E → aStr E → stI E 1199 INV mX11_raise mX12_raise 1) (q18 : ∀ E : EN, Ep E → aStr E → stI E 1199 INV mX11_pass mX12_pass 0) (q19 : ∀ E : EN, Ep E → aStr E → stI E 1199 INV mX11_blocked mX12_blocked 0) (q20 : ∀ E : EN, Ep E → aStr E → stI E 1199 INV mX11_undo mX12_undo 0) (q21 : ∀ E : EN, Ep E → aStr E → stI E 1199 INV mX11_where mX12_where 2) (q22 : ∀ E : EN, Ep E → aStr E → stI E 1199 INV mX11_indoors mX12_indoors 0) (q23 : ∀ E : EN, Ep E → aStr E → stL E 1199 INV mX11_ways mX12_ways 4) (q24 : ∀ E : EN, Ep E → aStr E → stI E 1199 INV mX11_packed mX12_packed 1) (q25 : ∀ E : EN, Ep E → aStr E → stI E 1199 INV mX11_meets mX12_meets 2) (q26 : ∀ E : EN, Ep E → aStr E → stI E 1199 INV mX11_meet mX12_meet 4) (q27 : ∀ E : EN, Ep E → aStr E → stI E 1199 INV mX11_find mX12_find 3) (q28 : ∀ E : EN, Ep E → aStr E → stI E 1199 INV mX11_forget mX12_forget 0) (q29 : ∀ E : EN, Ep E → aStr E → stI E 1199 INV mX11_hidden mX12_hidden 1) (q30 : ∀ E : EN, Ep E → aStr E → stI E 1199 INV mX11_spade mX12_spade 2) (q31 : ∀ E : EN, Ep E → aStr E → stI E 1199 INV mX11_compare mX12_compare 2) (q32 : ∀ E : EN, Ep E → aStr E → stL E 1199 INV mX11_arrives mX12_arrives 3) (q33 : ∀ E : EN, Ep E → aStr E → stI E 1199 INV mX11_round mX12_round 1) (q34 : ∀ E : EN, Ep E → aStr E → stI E 1199 INV mX11_centuries mX12_centuries 2) (q35 : ∀ E : EN, Ep E → aStr E → stI E 1199 INV mX11_drawn mX12_drawn 2) (q36 : ∀ E : EN, Ep E → aStr E → stI E 1199 INV mX11_image mX12_image 1) (q37 : ∀ E : EN, Ep E → aStr E → stI E 1199 INV mX11_back mX12_back 1) (q38 : ∀ E : EN, Ep E → aStr E → stI E 1199 INV mX11_count mX12_count 1) (q39 : ∀ E : EN, Ep E → aStr E → stI E 1199 INV mX11_status mX12_status 0) {p : Program} {e : Env} {s : State} {m : MethodId} {below : List Frame} {meth : Method} {c : Code} (l : Launch) {b L : Nat} {xs : Nat → Int32} (hL : L ≤ 3072) (hnm : meth.name = yL_law.name) (C0 : lw_At p s m meth c b L xs) : W p l e room_1 s m #[Value.ref b] below meth c s.heap [] 0 0 (lw_Z below #[Value.ref b] s) (entryFrame m ([Value.ref b] : List Value).toArray 4) := by
  obtain ⟨hx, hb, hr, hml, hown, hts, hX, hbl, hlk, hgv⟩ := C0
  obtain ⟨E, rfl, hph, hB, hI, hS, hA⟩ := E_of l hL hts hX hbl hgv
  have hgo : VG E mL_law 1200 cL_C cL_S [] (fun _ _ => 0) (0, 0) 0 [(0, aF b)] [] (retI fun r _ => r = 1) := by
    refine law_entry (k := 1195) hph fun m2 hX2 hM2 => VG_main hph (fin_ok hX2 hM2) ?_
    exact law_loop (E := eMain E) (k := 1199) rfl (b := b) (L := L) (xs := xs) hS hL hmo (q0 (eMain E) rfl hA) (q1 (eMain E) rfl hA) (q2 (eMain E) rfl hA) (q3 (eMain E) rfl hA) (q4 (eMain E) rfl hA) (q5 (eMain E) rfl hA) (q6 (eMain E) rfl hA) (q7 (eMain E) rfl hA) (q8 (eMain E) rfl hA) (q9 (eMain E) rfl hA) (q10 (eMain E) rfl hA) (q11 (eMain E) rfl hA) (q12 (eMain E) rfl hA) (q13 (eMain E) rfl hA) (q14 (eMain E) rfl hA) (q15 (eMain E) rfl hA) (q16 (eMain E) rfl hA) (q17 (eMain E) rfl hA) (q18 (eMain E) rfl hA) (q19 (eMain E) rfl hA) (q20 (eMain E) rfl hA) (q21 (eMain E) rfl hA) (q22 (eMain E) rfl hA) (q23 (eMain E) rfl hA) (q24 (eMain E) rfl hA) (q25 (eMain E) rfl hA) (q26 (eMain E) rfl hA) (q27 (eMain E) rfl hA) (q28 (eMain E) rfl hA) (q29 (eMain E) rfl hA) (q30 (eMain E) rfl hA) (q31 (eMain E) rfl hA) (q32 (eMain E) rfl hA) (q33 (eMain E) rfl hA) (q34 (eMain E) rfl hA) (q35 (eMain E) rfl hA) (q36 (eMain E) rfl hA) (q37 (eMain E) rfl hA) (q38 (eMain E) rfl hA) (q39 (eMain E) rfl hA) L 0 0 m2 (by omega) (by omega) (by omega) (hini m2 hX2 hM2)
  intro T hT X
  have X2 : Stand p E.1 e (aRm 1200 cL_C cL_S) s m #[Value.ref b] below meth c T [] 0 0 := { X with room := hasRoom_mono (by decide) (by decide) (by decide) (by decide) X.room }
  have hl := lv_entry (aSt (eB E) [aF b]) (n := 4) (show 1 ≤ 4 by decide)
  rw [lg_entry_eq]
  rw [aArgs_lv] at hl
  have hse : aSt (eB E) [aF (b : Int)] = [Value.ref b] := by
    show [Value.ref ((b : Int).toNat)] = _
    rw [Int.toNat_natCast]
  rw [hse] at hl
  generalize (lg_sl [Value.ref b] ++ List.replicate (4 - (lg_sl [Value.ref b]).length) Slot.unset).toArray = ls at hl ⊢
  have hgd : ∀ w ∈ lw_gd, w.before #[Value.ref b] s = true := fun w hw => hts w (List.mem_filter.mp hw).1
  have hWd : aWd E [] (fun _ _ => 0) s.heap := ⟨fun k q hq => (nomatch (hq : (none : Option (Nat × va_E)) = some q)), fun j k n i hq => (nomatch (hq : (none : Option (Nat × Nat)) = some (k, n))), fun _ j k n i v hq => (nomatch (hq : (none : Option (Nat × Nat)) = some (k, n)))⟩
  obtain ⟨t, hst, oc, e1, e2, ⟨⟨r, sh, mem, z1, z2, z3, z4⟩, z5⟩, Ls, hF, hLs⟩ := hgo p e s m #[Value.ref b] below meth c s.heap [] ls hx ⟨hb, hr, hml, hown, hgd, hlk, hnm, hI⟩ hWd ⟨va_S.rf, by rw [hB]; rfl, Nat.le_of_eq hB⟩ hl (fun q hq => by rcases List.mem_singleton.mp hq with rfl; exact aNr_F _) (fun _ hq => by cases hq) T hT X2
  obtain ⟨-, x, rfl, rfl⟩ := z2
  refine ⟨t, hst, oc, e1, e2, by rw [z1]; rfl, hF.1, hF.2.1, hF.2.2.weaken (fun y hy hlt => ?_) (by decide) (by decide)⟩
  have h1 : eB E ≤ y.base := hLs y hy
  have h2 : y.base < s.heap.size := hlt
  rw [hB] at h1
  exact absurd h2 (Nat.not_lt.mpr h1)
