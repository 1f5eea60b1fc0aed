/-- the ground of yard y as the model's row has it -/
def iGr (m : Mm) (y : Int) : Prop := ∀ c, 0 ≤ c → c < 32 → m (y + 1) c = m 605 (80 + c) ∧ m (y + 2) c = m 605 (112 + c) ∧ m (y + 3) c = m 605 (48 + c)
/-- the plots of yard y lie where the model's row has them, no two in one cell -/
def iPl (m : Mm) (y : Int) : Prop := m y 10 = m 605 7 ∧ 0 ≤ m 605 7 ∧ m 605 7 ≤ 10 ∧ (∀ p, 0 ≤ p → p < 10 → m (y + 4) p = m 605 (8 + p)) ∧ ∀ p q, 0 ≤ p → p < m 605 7 → 0 ≤ q → q < m 605 7 → m 605 (8 + p) = m 605 (8 + q) → p = q
theorem st_at {E : EN} (hE : Ep E) {C : Mm → Prop} (hC : iFr C) (h1 : ∀ m, C m → iGr m 2 ∧ iPl m 2) : stI E 1199 (iAll C) mX11_at mX12_at 2 := by
  intro t mem av ht hl hr hI
  obtain ⟨c, w, rfl⟩ := two_arg hl
  have hc : R32 c := hr c List.mem_cons_self
  have hw : R32 w := hr w (List.mem_cons_of_mem _ List.mem_cons_self)
  obtain ⟨g, a1, a2, a3, a4, a5⟩ := h1 mem hI.2
  have hY : isYd 2 := Or.inl rfl
  have hT := iAll_thr hC hI
  have e5 : ∀ i, (aUp mem 603 0 0) 605 i = mem 605 i := fun i => aUp_rn (by decide)
  refine eX11_at (k := 1198) hc hw (rX11_at_0 hE fun _ => s_isCell hE hc (fun b1 b2 => ?_) (fun b => ?_))
  · obtain ⟨g1, g2, g3⟩ := g c b1 b2
    have go : ∀ {Q : Int → Mm → Prop}, ((w = 0 → Q (mem 605 (80 + c)) (aUp mem 603 0 0)) ∧ (w = 1 → Q (mem 605 (112 + c)) (aUp mem 603 0 0)) ∧ (w = 2 → Q (mem 605 (48 + c)) (aUp mem 603 0 0)) ∧ (w = 3 → CI E mX12_plotIn 1198 (aUp mem 603 0 0) [aR 603, aI c] Q) ∧ (w < 0 ∨ 3 < w → Q (-1) (aUp mem 603 0 0))) → CI E mX12_at 1199 mem [aR 603, aI c, aI w] Q := fun {Q} q => eX12_at (k := 1198) hc hw (rX12_at_0 hE fun _ => m_isCell (k := 1197) hE hc (fun _ _ => ⟨fun _ => ⟨fun d => ⟨⟨by omega, by omega⟩, ⟨by omega, by omega⟩, by rw [e5]; exact q.1 d⟩, fun d => ⟨⟨by omega, by omega⟩, ⟨by omega, by omega⟩, by rw [e5]; exact q.2.1 d⟩, fun d => ⟨⟨by omega, by omega⟩, ⟨by omega, by omega⟩, by rw [e5]; exact q.2.2.1 d⟩, fun d _ => q.2.2.2.1 d, q.2.2.2.2⟩, fun d => absurd d (by decide)⟩) (fun d => absurd d (by omega)))
    refine ⟨fun _ => ⟨fun d _ _ => ?_, fun d _ => ?_⟩, fun d => absurd d (by decide)⟩
    · refine eX10_fact hc hw (rX10_fact_0 hE hY ⟨fun f => ⟨⟨b1, b2⟩, go ?_⟩, fun f => ⟨⟨b1, b2⟩, go ?_⟩, fun f => ⟨⟨b1, b2⟩, go ?_⟩, fun f => go ?_⟩)
      · exact ⟨fun _ => ⟨g1, hT⟩, fun n => absurd n (by omega), fun n => absurd n (by omega), fun n => absurd n d, fun n => absurd n (by omega)⟩
      · exact ⟨fun n => absurd n (by omega), fun _ => ⟨g2, hT⟩, fun n => absurd n (by omega), fun n => absurd n d, fun n => absurd n (by omega)⟩
      · exact ⟨fun n => absurd n (by omega), fun n => absurd n (by omega), fun _ => ⟨g3, hT⟩, fun n => absurd n d, fun n => absurd n (by omega)⟩
      · exact ⟨fun n => absurd n (by omega), fun n => absurd n (by omega), fun n => absurd n (by omega), fun n => absurd n d, fun _ => ⟨rfl, hT⟩⟩
    · refine s_plotIn hE hY hc (by rw [a1]; exact a3) fun r hr1 => go ⟨fun n => absurd n (by omega), fun n => absurd n (by omega), fun n => absurd n (by omega), fun _ => m_plotIn hE hc (by rw [e5]; exact a2) (by rw [e5]; exact a3) fun r2 hr2 => ⟨?_, hT⟩, fun n => absurd n (by omega)⟩
      rw [a1] at hr1
      simp only [e5] at hr2
      exact isPl_eq (fun p u v => a4 p u (by omega)) a5 hr1 hr2
  · exact ⟨fun d => absurd rfl d, fun _ => eX12_at (k := 1198) hc hw (rX12_at_0 hE fun _ => m_isCell (k := 1197) hE hc (fun d1 d2 => absurd b (by omega)) (fun _ => ⟨fun d => absurd rfl d, fun _ => ⟨rfl, hT⟩⟩))⟩
