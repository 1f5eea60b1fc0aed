-- of, goes, barred
theorem three_arg {av : List Int} (h : av.length = 3) : ∃ a b c, av = [a, b, c] := by
  match av, h with
  | [a, b, c], _ => exact ⟨a, b, c, rfl⟩
theorem four_arg {av : List Int} (h : av.length = 4) : ∃ a b c d, av = [a, b, c, d] := by
  match av, h with
  | [a, b, c, d], _ => exact ⟨a, b, c, d, rfl⟩
theorem s_has2 {E : EN} (hE : Ep E) {k : Nat} {mem : Mm} {Q : Int → Mm → Prop} {p : Int} (hC : jC mem) (hp : R32 p) (h1 : 0 ≤ p → p < mem 605 7 → Q 1 mem) (h0 : p < 0 ∨ mem 605 7 ≤ p → Q 0 mem) : CI E mX10_hasPlot k mem [aR 2, aI p] Q := by
  have e := hC.2.2.1.2.1.1
  have h7 := hC.2.2.1.1.2.1
  exact s_hasPlot hE isYd2 hp (by omega) (fun a b => h1 a (by omega)) fun a => h0 (by omega)
theorem m_isP2 {E : EN} (hE : Ep E) {k : Nat} {mem : Mm} {Q : Int → Mm → Prop} {p : Int} (hC : jC mem) (hp : R32 p) (h1 : 0 ≤ p → p < mem 605 7 → Q 1 mem) (h0 : p < 0 ∨ mem 605 7 ≤ p → Q 0 mem) : CI E mX12_isPlot (k + 1) mem [aR 603, aI p] Q :=
  m_isPlot hE hp hC.2.2.1.1.1 hC.2.2.1.1.2.1 h1 h0
theorem i20 {m : Mm} (hC : jC m) : m 603 20 = 0 := hC.2.1.2.2.2.2.1
theorem jC_thr {m : Mm} (hC : jC m) : jC (aUp m 603 0 0) := jC_fr (rEq_k rEq_thr) hC
theorem mL_eq {m m2 : Mm} {L : LW} (h : m2 605 = m 605) (hL : mL m L) : mL m2 L := mL_fr (by rw [h]) (fun i _ => by rw [h]) hL
/-- the model's state behind its first store, against the state ahead of the class's call -/
theorem thr_all {mem m1 : Mm} {L : LW} (hL : mL mem L) (q : rEq mem m1) (hC : jC m1) : jC (aUp m1 603 0 0) ∧ (aUp m1 603 0 0) 605 = mem 605 ∧ mL (aUp m1 603 0 0) L ∧ (aUp m1 603 0 0) 603 20 = 0 ∧ rEq m1 (aUp m1 603 0 0) := by
  have h1 := jC_thr hC
  have h2 : (aUp m1 603 0 0) 605 = mem 605 := (aUp_ne (by decide)).trans (rEq_605 q)
  exact ⟨h1, h2, mL_eq h2 hL, i20 h1, rEq_thr⟩
theorem st_of {E : EN} (hE : Ep E) : stI E 1199 (iAll jC) mX11_of mX12_of 2 := by
  refine obs_pair fun mem av hl hr hC => ?_
  obtain ⟨p, w, rfl⟩ := two_arg hl
  have hp : R32 p := hr p List.mem_cons_self
  have hw : R32 w := hr w (List.mem_cons_of_mem _ List.mem_cons_self)
  obtain ⟨L, hy, hm⟩ := jC_law hC
  have hF := hC.2.2.1
  have h7 := hF.1.2.1
  refine ⟨if 0 ≤ p ∧ p < mem 605 7 then (if w = 0 then mem 605 (8 + p) else if w = 1 then mem 605 (18 + p) else if w = 2 then mem 605 (28 + p) else if w = 3 then mem 605 (38 + p) else if w = 4 then rMv L (mem 605) p else if w = 5 then rDg L (mem 605) p else -1) else -1, fun Q hQ => ?_, fun m1 Q q1 hC1 hQ => ?_⟩
  · refine eX11_of (k := 1198) hp hw (rX11_of_0 hE fun _ => s_has2 hE hC hp (fun a b => ⟨fun _ => ?_, fun c => absurd c (by decide)⟩) (fun a => ⟨fun c => absurd rfl c, fun _ => ?_⟩))
    · obtain ⟨d1, d2, d3, d4⟩ := hF.2.1.2.2.1 p a (by omega)
      rw [if_pos ⟨a, b⟩] at hQ
      refine ⟨fun c => ?_, fun c => ?_, fun c => ?_, fun c => ?_, fun c _ => ?_, fun c _ => ?_, fun c => ?_⟩
      · subst c; exact ⟨⟨a, by omega⟩, d1 ▸ hQ mem rEq_rf⟩
      · subst c; exact ⟨⟨a, by omega⟩, d2 ▸ hQ mem rEq_rf⟩
      · subst c; exact ⟨⟨a, by omega⟩, d3 ▸ hQ mem rEq_rf⟩
      · subst c; exact ⟨⟨a, by omega⟩, d4 ▸ hQ mem rEq_rf⟩
      · subst c; exact s_yMv (k := 1195) hE isYd2 hF.2.1 hy (by decide) hF.1 a (by omega) fun m2 q => hQ m2 (qFr2_rEq q)
      · subst c; exact s_yDg (k := 1195) hE isYd2 hF.2.1 hy (by decide) hF.1 a (by omega) fun m2 q => hQ m2 (qFr2_rEq q)
      · rw [if_neg (by omega), if_neg (by omega), if_neg (by omega), if_neg (by omega), if_neg (by omega), if_neg (by omega)] at hQ
        exact hQ mem rEq_rf
    · rw [if_neg (by omega)] at hQ
      exact hQ mem rEq_rf
  · obtain ⟨hC2, e, hL, h20, hth⟩ := thr_all hm q1 hC1
    have hF1 := hC2.2.2.1.1
    refine eX12_of (k := 1198) hp hw (rX12_of_0 hE fun _ => m_isP2 (k := 1197) hE hC2 hp (fun a b => ⟨fun _ => ?_, fun c => absurd c (by decide)⟩) (fun a => ⟨fun c => absurd rfl c, fun _ => ?_⟩))
    · rw [e] at b
      rw [if_pos ⟨a, b⟩] at hQ
      rw [e]
      refine ⟨fun c => ?_, fun c => ?_, fun c => ?_, fun c => ?_, fun c _ => ?_, fun c _ => ?_, fun c => ?_⟩
      · subst c; exact ⟨⟨by omega, by omega⟩, ⟨by omega, by omega⟩, hQ _ hth⟩
      · subst c; exact ⟨⟨by omega, by omega⟩, ⟨by omega, by omega⟩, hQ _ hth⟩
      · subst c; exact ⟨⟨by omega, by omega⟩, ⟨by omega, by omega⟩, hQ _ hth⟩
      · subst c; exact ⟨⟨by omega, by omega⟩, ⟨by omega, by omega⟩, hQ _ hth⟩
      · subst c; exact m_movesOf (k := 1193) hE h20 hL (by decide) hF1 a (by omega) fun m2 q => by rw [e]; exact hQ m2 (rEq_tr hth (gFr_rEq q))
      · subst c; exact m_digsOf (k := 1193) hE h20 hL (by decide) hF1 a (by omega) fun m2 q => by rw [e]; exact hQ m2 (rEq_tr hth (gFr_rEq q))
      · rw [if_neg (by omega), if_neg (by omega), if_neg (by omega), if_neg (by omega), if_neg (by omega), if_neg (by omega)] at hQ
        exact hQ _ hth
    · rw [e] at a
      rw [if_neg (by omega)] at hQ
      exact hQ _ hth
theorem st_goes {E : EN} (hE : Ep E) : stI E 1199 (iAll jC) mX11_goes mX12_goes 2 := by
  refine obs_pair fun mem av hl hr hC => ?_
  obtain ⟨p, c, rfl⟩ := two_arg hl
  have hp : R32 p := hr p List.mem_cons_self
  have hc : R32 c := hr c (List.mem_cons_of_mem _ List.mem_cons_self)
  obtain ⟨L, hy, hm⟩ := jC_law hC
  have hF := hC.2.2.1
  have h7 := hF.1.2.1
  refine ⟨if (0 ≤ p ∧ p < mem 605 7) ∧ 0 ≤ c ∧ c < 32 then (if rGo L (mem 605) p c then 1 else 0) else -1, fun Q hQ => ?_, fun m1 Q q1 hC1 hQ => ?_⟩
  · refine eX11_goes (k := 1198) hp hc (rX11_goes_0 hE fun _ => s_has2 hE hC hp (fun a b => ⟨fun d => absurd d (by decide), fun _ _ => s_isCell hE hc (fun a2 b2 => ⟨fun _ _ _ => ?_, fun d => absurd d (by decide)⟩) (fun a2 => ⟨fun d => absurd rfl d, fun _ => ?_⟩)⟩) (fun a => ⟨fun _ => ?_, fun d => absurd rfl d⟩))
    · rw [if_pos ⟨⟨a, b⟩, a2, b2⟩] at hQ
      refine s_yGo (k := 1195) hE isYd2 hF.2.1 hy (by decide) hF.1 a (by omega) a2 b2 fun m2 q => ?_
      have h := hQ m2 (qFr2_rEq q)
      cases z : rGo L (mem 605) p c with
      | true => rw [z] at h; exact ⟨fun u => absurd u (by decide), fun _ => h⟩
      | false => rw [z] at h; exact ⟨fun _ => h, fun u => absurd rfl u⟩
    · rw [if_neg (by omega)] at hQ
      exact hQ mem rEq_rf
    · rw [if_neg (by omega)] at hQ
      exact hQ mem rEq_rf
  · obtain ⟨hC2, e, hL, h20, hth⟩ := thr_all hm q1 hC1
    have hF1 := hC2.2.2.1.1
    refine eX12_goes (k := 1198) hp hc (rX12_goes_0 hE fun _ => m_isP2 (k := 1197) hE hC2 hp (fun a b => ⟨fun d => absurd d (by decide), fun _ _ => m_isCell (k := 1197) hE hc (fun a2 b2 => ⟨fun _ _ _ => ?_, fun d => absurd d (by decide)⟩) (fun a2 => ⟨fun d => absurd rfl d, fun _ => ?_⟩)⟩) (fun a => ⟨fun _ => ?_, fun d => absurd rfl d⟩))
    · rw [e] at b
      rw [if_pos ⟨⟨a, b⟩, a2, b2⟩] at hQ
      refine m_canGo (k := 1193) hE h20 hL (by decide) hF1 a (by omega) a2 b2 fun m2 q => ?_
      have h := hQ m2 (rEq_tr hth (gFr_rEq q))
      rw [e]
      cases z : rGo L (mem 605) p c with
      | true => rw [z] at h; exact ⟨fun u => absurd u (by decide), fun _ => h⟩
      | false => rw [z] at h; exact ⟨fun _ => h, fun u => absurd rfl u⟩
    · rw [if_neg (by omega)] at hQ
      exact hQ _ hth
    · rw [e] at a
      rw [if_neg (by omega)] at hQ
      exact hQ _ hth
theorem st_barred {E : EN} (hE : Ep E) : stI E 1199 (iAll jC) mX11_barred mX12_barred 2 := by
  refine obs_pair fun mem av hl hr hC => ?_
  obtain ⟨p, c, rfl⟩ := two_arg hl
  have hp : R32 p := hr p List.mem_cons_self
  have hc : R32 c := hr c (List.mem_cons_of_mem _ List.mem_cons_self)
  obtain ⟨L, hy, hm⟩ := jC_law hC
  have hF := hC.2.2.1
  refine ⟨if (0 ≤ p ∧ p < 6) ∧ 0 ≤ c ∧ c < 32 then (if rBr L (mem 605) p c then 1 else 0) else -1, fun Q hQ => ?_, fun m1 Q q1 hC1 hQ => ?_⟩
  · refine eX11_barred (k := 1198) hp hc (rX11_barred_0 hE fun _ => s_isFamily hE hp (fun a b => ⟨fun d => absurd d (by decide), fun _ _ => s_isCell hE hc (fun a2 b2 => ⟨fun _ _ _ => ?_, fun d => absurd d (by decide)⟩) (fun a2 => ⟨fun d => absurd rfl d, fun _ => ?_⟩)⟩) (fun a => ⟨fun _ => ?_, fun d => absurd rfl d⟩))
    · rw [if_pos ⟨⟨a, b⟩, a2, b2⟩] at hQ
      refine s_yBr (k := 1195) hE isYd2 hF.2.1 hy (by decide) hF.1 a b a2 b2 fun m2 q => ?_
      have h := hQ m2 (qFr2_rEq q)
      cases z : rBr L (mem 605) p c with
      | true => rw [z] at h; exact ⟨fun u => absurd u (by decide), fun _ => h⟩
      | false => rw [z] at h; exact ⟨fun _ => h, fun u => absurd rfl u⟩
    · rw [if_neg (by omega)] at hQ
      exact hQ mem rEq_rf
    · rw [if_neg (by omega)] at hQ
      exact hQ mem rEq_rf
  · obtain ⟨hC2, e, hL, h20, hth⟩ := thr_all hm q1 hC1
    have hF1 := hC2.2.2.1.1
    refine eX12_barred (k := 1198) hp hc (rX12_barred_0 hE fun r => s_in hE r (by decide) (by decide) (fun a b => ⟨fun d => absurd d (by decide), fun _ _ => m_isCell (k := 1197) hE hc (fun a2 b2 => ⟨fun _ _ _ => ?_, fun d => absurd d (by decide)⟩) (fun a2 => ⟨fun d => absurd rfl d, fun _ => ?_⟩)⟩) (fun a => ⟨fun _ => ?_, fun d => absurd rfl d⟩))
    · rw [if_pos ⟨⟨a, by omega⟩, a2, b2⟩] at hQ
      refine m_isBarred (k := 1193) hE h20 hL (by decide) hF1 a (by omega) a2 b2 fun m2 q => ?_
      have h := hQ m2 (rEq_tr hth (gFr_rEq q))
      rw [e]
      cases z : rBr L (mem 605) p c with
      | true => rw [z] at h; exact ⟨fun u => absurd u (by decide), fun _ => h⟩
      | false => rw [z] at h; exact ⟨fun _ => h, fun u => absurd rfl u⟩
    · rw [if_neg (by omega)] at hQ
      exact hQ _ hth
    · rw [if_neg (by omega)] at hQ
      exact hQ _ hth
