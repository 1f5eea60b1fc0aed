-- put
theorem st_put {E : EN} (hE : Ep E) : stI E 1199 (iAll jC) mX11_put mX12_put 3 := by
  intro t mem av ht hl hr hI
  obtain ⟨c, w, v, rfl⟩ := three_arg hl
  have hc : R32 c := hr c (by simp)
  have hw : R32 w := hr w (by simp)
  have hv : R32 v := hr v (by simp)
  obtain ⟨L, P, hV, hP, hok, hst, hrc, hrm⟩ := act_start hI ht
  have hb0 := hI.2.2.1.2.2.2.2.2.2.2.1
  have hb1 := hI.2.2.1.2.2.2.2.2.2.2.2
  have h0 := hok.1
  have h10 := hok.2.1
  -- refused on both sides
  have ref1 : ¬ ((0 ≤ c ∧ c < 32) ∧ isFt w v) → CI E mX11_refused 1198 mem [aR 0, aI (-1)] (fun r m1 => CI E mX12_put 1199 m1 [aR 603, aI c, aI w, aI v] (fun r2 m2 => r = r2 ∧ iAll jC (t + 1) m2)) := by
    intro hg
    refine s_refA hE (by decide) (by decide) (hrc mem (-1) (by decide) aFr_rf (by decide)) ?_
    obtain ⟨hW, e43⟩ := hst mem (-1) aFr_rf
    have tl : VM E mX12_put 1199 (aUp (aAns mem (-1)) 603 0 0) 20 [(0, aR 603)] [] (retI (fun r2 m2 => -1 = r2 ∧ iAll jC (t + 1) m2)) :=
      rX12_put_20 (k := 1198) (p0 := 0) (p1 := 0) (p2 := 0) hE (m_tel hE (by decide) (by decide) (hrm _ mem (-1) aFr_rf bFr_rf (by decide)) ⟨rfl, fin_act hI (by decide) aFr_rf rfl hV bFr_rf hW hok hP (fun _ _ => rfl) e43.symm hb0 hb1⟩)
    exact eX12_put (k := 1198) hc hw hv (rX12_put_0 hE fun _ => m_isCell (k := 1197) hE hc (fun a b => ⟨fun d => absurd d (by decide), fun _ _ _ => m_canBe (k := 1197) hE hw hv (fun q => absurd ⟨⟨a, b⟩, q⟩ hg) (fun _ => ⟨fun d => absurd rfl d, fun _ => tl⟩)⟩) (fun a => ⟨fun _ => tl, fun d => absurd rfl d⟩))
  refine eX11_put (k := 1198) hc hw hv (rX11_put_0 hE fun _ => s_isCell hE hc (fun a b => ⟨fun d => absurd d (by decide), fun _ _ _ => s_isFact (k := 1197) hE hw hv (fun ft => ⟨fun _ _ _ _ => ?_, fun d => absurd d (by decide)⟩) (fun nf => ⟨fun d => absurd rfl d, fun _ => ref1 fun q => nf q.2⟩)⟩) (fun a => ⟨fun _ => ref1 fun q => by omega, fun d => absurd rfl d⟩))
  have hfc : 0 ≤ rFac (mem 605) w c ∧ rFac (mem 605) w c ≤ 99 := by
    have g := hok.2.2.2.1 c a b
    unfold rFac
    split
    · omega
    · split <;> omega
  refine s_mayW (k := 1197) hE hV.1 h10 a b hw hv (fun my => ⟨fun _ _ _ => ?_, fun d => absurd d (by decide)⟩) (fun my => ⟨fun d => absurd rfl d, fun _ => ?_⟩)
  · refine s_fact2 hE hV.1 a b hw ft fun _ _ _ => ?_
    refine s_write2 (r := mem 605) hE (yR_fr hV.1 (aUp_rn (by decide)) fun o i u z => aUp_rn (by omega)) a b hw hv ft fun mc d1 d2 rr => ?_
    have ha : aFr mem mc := fun o i u _ _ => (d1 o i (by omega) (by omega) (by omega)).trans (aUp_rn (by omega))
    have h9 : mc 2 9 = mem 2 9 := (d1 2 9 (by decide) (by decide) (by decide)).trans (aUp_rn (by decide))
    have h1 : ∀ i, mc 1 i = mem 1 i := fun i => (d1 1 i (by decide) (by decide) (by decide)).trans (aUp_rn (by decide))
    have hV2 : cV mc (rSet (mem 605) w c v) (0, P.2.1, P.2.2) L := by
      refine ⟨d2, ⟨(d1 12 2 (by decide) (by decide) (by decide)).trans aUp_re, fun k u z => ?_, fun i j u z x y e => ?_, fun k u z => absurd z (by dsimp only; omega)⟩, yL_a ha h9 hV.2.2⟩
      · rw [d1 13 k (by decide) (by decide) (by decide), aUp_rn (by decide)]; exact hV.2.1.2.1 k u z
      · rw [d1 13 i (by decide) (by decide) (by decide), d1 13 j (by decide) (by decide) (by decide), aUp_rn (by decide), aUp_rn (by decide)] at e; exact hV.2.1.2.2.1 i j u z x y e
    obtain ⟨s1, s2⟩ := rSet_ok hok ft a b
    refine s_graA hE rr hfc.1 ?_
    obtain ⟨hW, e43⟩ := hst mc (rFac (mem 605) w c) ha
    have e5 := hW.1
    -- the model's end
    have fin : ∀ mm : Mm, mm 605 = rSet (mem 605) w c v → (∀ o i, o ≠ 605 → ¬ (o = 603 ∧ i = 8) → mm o i = (aUp (aAns mc (rFac (mem 605) w c)) 603 0 0) o i) → mm 603 8 = 0 → iAll jC (t + 1) (aTel mm (rFac (mem 605) w c)) := by
      intro mm f1 f2 f3
      refine fin_act hI (by omega) ha h9 hV2 (fun o i u _ _ _ _ _ z => f2 o i u (fun q => z ⟨q.1, Or.inl q.2⟩)) ⟨f1, ⟨f3, fun k u z => absurd z (by dsimp only; omega)⟩, mL_fr ?_ (fun i u => ?_) hW.2.2.1, (f2 603 20 (by decide) (by decide)).trans hW.2.2.2⟩ s1 ⟨Int.le_refl 0, by dsimp only; omega, fun k u z => absurd z (by dsimp only; omega)⟩ (fun i q => s2 i (by omega)) (by rw [h1, f2 603 43 (by decide) (by decide), e43]) (by rw [h1]; exact hb0) (by rw [h1]; exact hb1)
      · rw [f1, s2 2 (by omega), e5]
      · rw [f1, s2 i (by omega), e5]
    have t76 : VM E mX12_put 1199 (aUp (aAns mc (rFac (mem 605) w c)) 603 0 0) 76 [(0, aR 603), (1, aI c), (2, aI w), (3, aI v)] [] (retI (fun r2 m2 => rFac (mem 605) w c = r2 ∧ iAll jC (t + 1) m2)) := by
      have ch : ∀ j, 0 ≤ j → j < 5570 → mem 605 j = rFac (mem 605) w c → rUp (mem 605) j v = rSet (mem 605) w c v → CI E mX12_change 1198 (aUp (aUp (aAns mc (rFac (mem 605) w c)) 603 0 0) 603 8 0) [aR 603, aI j, aI v] (fun r3 m2 => rFac (mem 605) w c = r3 ∧ iAll jC (t + 1) m2) := by
        intro j j0 j1 x1 x2
        have e6 : (aUp (aUp (aAns mc (rFac (mem 605) w c)) 603 0 0) 603 8 0) 605 = mem 605 := (aUp_ne (by decide)).trans e5
        refine s_change hE j0 j1 hv ⟨by rw [e6, x1], ?_⟩
        have := fin (aUp (aUp (aUp (aAns mc (rFac (mem 605) w c)) 603 0 0) 603 8 0) 605 j v) (by rw [aUp_rUp, e6, x2]) (fun o i u z => by rw [aUp_rn u, aUp_at, if_neg z]) ((aUp_rn (by decide)).trans aUp_re)
        rw [aTel_pos hfc.1] at this
        exact this
      refine rX12_put_76 (k := 1198) hE ⟨fun w0 => ⟨fun w1 => ⟨⟨by omega, by omega⟩, fun _ _ => ch (48 + c) (by omega) (by omega) ?_ ?_⟩, fun w1 => ⟨⟨by omega, by omega⟩, fun _ _ => ch (112 + c) (by omega) (by omega) ?_ ?_⟩⟩, fun w0 => ⟨⟨by omega, by omega⟩, ⟨by omega, by omega⟩, fun _ _ => eX12_setKind hc hv (rX12_setKind_0 hE ⟨⟨by omega, by omega⟩, ⟨by omega, by omega⟩, ⟨by omega, by omega⟩, fun v1 => ⟨⟨by omega, by omega⟩, fun r9 => ?_⟩, fun v1 => ⟨⟨by omega, by omega⟩, fun r9 => ?_⟩⟩)⟩⟩
      · unfold rFac; rw [if_neg w0, if_neg w1]
      · unfold rSet; rw [if_neg w0, if_neg w1]
      · unfold rFac; rw [if_neg w0, if_pos w1]
      · unfold rSet; rw [if_neg w0, if_pos w1]
      all_goals
        have e6 : ∀ i, (aUp (aUp (aAns mc (rFac (mem 605) w c)) 603 0 0) 603 8 0) 605 i = mem 605 i := fun i => (aUp_rn (by decide)).trans (congrFun e5 i)
        have ew : (aUp (aAns mc (rFac (mem 605) w c)) 603 0 0) 605 (80 + c) = rFac (mem 605) w c := by
          rw [e5]; unfold rFac; rw [if_pos w0]
        rw [ew] at r9 ⊢
        refine m_tel hE r9 (by omega) (fun q => absurd q (by omega)) ⟨rfl, fin _ ?_ (fun o i u z => by rw [aUp_rn u, aUp_rn u, aUp_at, if_neg z]) ((aUp_rn (by decide)).trans ((aUp_rn (by decide)).trans aUp_re))⟩
      · rw [aUp_rUp, aUp_rUp]
        unfold rSet
        rw [if_pos w0, if_neg v1, aUp_ne (show (605 : Int) ≠ 603 by decide), e5]
      · rw [aUp_rUp, aUp_rUp]
        unfold rSet
        rw [if_pos w0, if_pos v1, aUp_ne (show (605 : Int) ≠ 603 by decide), e5, rUp_n (show (48 : Int) + c ≠ 80 + c by omega)]
    have t46 : (w = 2 → v = 0 ∨ mem 605 (80 + c) = 1) → VM E mX12_put 1199 (aUp (aAns mc (rFac (mem 605) w c)) 603 0 0) 46 [(0, aR 603), (1, aI c), (2, aI w), (3, aI v)] [] (retI (fun r2 m2 => rFac (mem 605) w c = r2 ∧ iAll jC (t + 1) m2)) := by
      intro z
      refine rX12_put_46 (k := 1198) hE ⟨fun _ => t76, fun w2 => ⟨fun _ => t76, fun v1 => ⟨⟨by omega, by omega⟩, ⟨by omega, by omega⟩, fun _ => t76, fun d => ?_⟩⟩⟩
      rw [e5] at d
      exact absurd (z w2) (by omega)
    refine eX12_put (k := 1198) hc hw hv (rX12_put_0 hE fun _ => m_isCell (k := 1197) hE hc (fun a b => ⟨fun d => absurd d (by decide), fun _ _ _ => m_canBe (k := 1197) hE hw hv (fun q => ⟨fun _ => ⟨fun w0 => t46 my.2, fun w0 _ => ?_⟩, fun d => absurd d (by decide)⟩) (fun q => absurd ft q)⟩) (fun d => absurd d (by omega)))
    have solid : (v = 1 ∨ v = 3) → ¬ (1 : Int) = 0 → R32 c → CI E mX12_plotIn 1198 (aUp (aAns mc (rFac (mem 605) w c)) 603 0 0) [aR 603, aI c] (fun r8 m7 => ((¬ r8 = (-1) → VM E mX12_put (1198 + 1) m7 69 [(0, aR 603)] [] (retI (fun r2 m2 => rFac (mem 605) w c = r2 ∧ iAll jC (t + 1) m2))) ∧ (r8 = (-1) → VM E mX12_put (1198 + 1) m7 46 [(0, aR 603), (1, aI c), (2, aI w), (3, aI v)] [] (retI (fun r2 m2 => rFac (mem 605) w c = r2 ∧ iAll jC (t + 1) m2))))) := by
      intro hs _ _
      refine m_yIn hE (by rw [e5]; exact h0) (by rw [e5]; exact h10) hc fun x hx => ⟨fun d => ?_, fun _ => t46 my.2⟩
      rw [e5] at hx
      rcases hx with ⟨x1, -⟩ | ⟨-, -, x3⟩
      · exact absurd x1 d
      · rcases my.1 w0 with z | z | z
        · omega
        · omega
        · rw [z] at x3; cases x3
    exact eX12_isSolid hv (rX12_isSolid_0 hE ⟨fun v1 => ⟨fun d => absurd d (by decide), solid (Or.inl v1)⟩, fun v1 => ⟨fun v3 => ⟨fun _ => t46 my.2, fun d => absurd rfl d⟩, fun v3 => ⟨fun d => absurd d (by decide), solid (Or.inr v3)⟩⟩⟩)
  · refine s_refA hE (by decide) (by decide) (hrc mem (-3) (by decide) aFr_rf (by decide)) ?_
    obtain ⟨hW, e43⟩ := hst mem (-3) aFr_rf
    have e5 := hW.1
    have tl : VM E mX12_put 1199 (aUp (aAns mem (-3)) 603 0 0) 69 [(0, aR 603)] [] (retI (fun r2 m2 => -3 = r2 ∧ iAll jC (t + 1) m2)) :=
      rX12_put_69 (k := 1198) (p0 := 0) (p1 := 0) (p2 := 0) hE (m_tel hE (by decide) (by decide) (hrm _ mem (-3) aFr_rf bFr_rf (by decide)) ⟨rfl, fin_act hI (by decide) aFr_rf rfl hV bFr_rf hW hok hP (fun _ _ => rfl) e43.symm hb0 hb1⟩)
    have bad : (w = 0 → v = 0 ∨ v = 2 ∨ rOc (mem 605) c = false) → VM E mX12_put 1199 (aUp (aAns mem (-3)) 603 0 0) 46 [(0, aR 603), (1, aI c), (2, aI w), (3, aI v)] [] (retI (fun r2 m2 => -3 = r2 ∧ iAll jC (t + 1) m2)) := by
      intro z
      have n2 : ¬ (w = 2 → v = 0 ∨ mem 605 (80 + c) = 1) := fun q => my ⟨z, q⟩
      have w2 : w = 2 := Classical.byContradiction fun q => n2 fun u => absurd u q
      have nv : ¬ (v = 0 ∨ mem 605 (80 + c) = 1) := fun q => n2 fun _ => q
      unfold isFt at ft
      refine rX12_put_46 (k := 1198) hE ⟨fun d => absurd w2 d, fun _ => ⟨fun d => absurd d (by omega), fun v1 => ⟨⟨by omega, by omega⟩, ⟨by omega, by omega⟩, fun d => ?_, fun _ => tl⟩⟩⟩
      rw [e5] at d
      exact absurd (Or.inr d) nv
    refine eX12_put (k := 1198) hc hw hv (rX12_put_0 hE fun _ => m_isCell (k := 1197) hE hc (fun a b => ⟨fun d => absurd d (by decide), fun _ _ _ => m_canBe (k := 1197) hE hw hv (fun q => ⟨fun _ => ⟨fun w0 => bad fun u => absurd u w0, fun w0 _ => ?_⟩, fun d => absurd d (by decide)⟩) (fun q => absurd ft q)⟩) (fun d => absurd d (by omega)))
    have solid : (v = 1 ∨ v = 3) → ¬ (1 : Int) = 0 → R32 c → CI E mX12_plotIn 1198 (aUp (aAns mem (-3)) 603 0 0) [aR 603, aI c] (fun r8 m7 => ((¬ r8 = (-1) → VM E mX12_put (1198 + 1) m7 69 [(0, aR 603)] [] (retI (fun r2 m2 => -3 = r2 ∧ iAll jC (t + 1) m2))) ∧ (r8 = (-1) → VM E mX12_put (1198 + 1) m7 46 [(0, aR 603), (1, aI c), (2, aI w), (3, aI v)] [] (retI (fun r2 m2 => -3 = r2 ∧ iAll jC (t + 1) m2))))) := by
      intro hs _ _
      refine m_yIn hE (by rw [e5]; exact h0) (by rw [e5]; exact h10) hc fun x hx => ⟨fun _ => tl, fun d => ?_⟩
      rw [e5] at hx
      rcases hx with ⟨-, x2⟩ | ⟨x1, -, -⟩
      · exact bad fun _ => Or.inr (Or.inr x2)
      · omega
    exact eX12_isSolid hv (rX12_isSolid_0 hE ⟨fun v1 => ⟨fun d => absurd d (by decide), solid (Or.inl v1)⟩, fun v1 => ⟨fun v3 => ⟨fun _ => bad fun _ => by unfold isFt at ft; omega, fun d => absurd rfl d⟩, fun v3 => ⟨fun d => absurd d (by decide), solid (Or.inr v3)⟩⟩⟩)
