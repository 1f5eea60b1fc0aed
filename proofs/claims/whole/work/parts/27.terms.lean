theorem two_arg {av : List Int} (h : av.length = 2) : ∃ a b, av = [a, b] := by
  match av, h with
  | [a, b], _ => exact ⟨a, b, rfl⟩
theorem iRf_fr {n : Nat} {m m2 : Mm} (h1 : m2 0 13 = m2 603 1) (h2 : ∀ j, m2 602 j = m 602 j) (h3 : ∀ j, m2 604 j = m 604 j) (h : iRf n m) : iRf (n + 1) m2 := ⟨h1, fun j a b => by
  rw [h2, h3]
  obtain ⟨e1, e2, e3⟩ := h.2 j a b
  exact ⟨e1, e2, by omega⟩⟩
theorem m_terms {E : EN} (hE : Ep E) {k : Nat} {mem : Mm} {Q : Int → Mm → Prop} {w v : Int} (hw : R32 w) (hv : R32 v) (h1 : isTm w v → Q (mem 605 (3 + w)) (aUp (aUp (aUp (aUp mem 603 0 0) 603 8 0) 605 (3 + w) v) 603 1 0)) (h0 : ¬ isTm w v → CI E mX12_tell k (aUp mem 603 0 0) [aR 603, aI (-1)] Q) : CI E mX12_terms (k + 1) mem [aR 603, aI w, aI v] Q := by
  have e1 : (aUp (aUp mem 603 0 0) 603 8 0) 605 (3 + w) = mem 605 (3 + w) := by rw [aUp_rn (by decide), aUp_rn (by decide)]
  have hc : 0 ≤ w → w < 4 → isTm w v → CI E mX12_change k (aUp (aUp mem 603 0 0) 603 8 0) [aR 603, aI (3 + w), aI v] Q := fun a b q => s_change hE (by omega) (by omega) hv (by rw [e1]; exact h1 q)
  refine eX12_terms hw hv (rX12_terms_0 hE ⟨fun c0 => ⟨fun c1 => ⟨fun c2 => ⟨fun c3 => ?_, fun c3 _ => ?_⟩, fun c2 _ => ?_⟩, fun c1 _ => ?_⟩, fun c0 _ => ?_⟩)
  · exact h0 fun q => by unfold isTm at q; omega
  · refine s_in hE (r64_of hv) (by decide) (by decide) (fun d1 d2 => ?_) (fun d => ?_)
    · exact ⟨fun q => absurd q (by decide), fun _ => ⟨⟨by omega, by omega⟩, fun _ _ => hc (by omega) (by omega) (Or.inr (Or.inr (Or.inr ⟨c3, d1, d2⟩)))⟩⟩
    · exact ⟨fun _ => h0 fun q => by unfold isTm at q; omega, fun q => absurd rfl q⟩
  · refine s_in hE (r64_of hv) (by decide) (by decide) (fun d1 d2 => ?_) (fun d => ?_)
    · exact ⟨fun _ => ⟨⟨by omega, by omega⟩, fun _ _ => hc (by omega) (by omega) (Or.inr (Or.inr (Or.inl ⟨c2, d1, d2⟩)))⟩, fun q => absurd q (by decide)⟩
    · exact ⟨fun q => absurd rfl q, fun _ => h0 fun q => by unfold isTm at q; omega⟩
  · refine s_in hE (r64_of hv) (by decide) (by decide) (fun d1 d2 => ?_) (fun d => ?_)
    · exact ⟨fun _ => ⟨⟨by omega, by omega⟩, fun _ _ => hc (by omega) (by omega) (Or.inr (Or.inl ⟨c1, d1, d2⟩))⟩, fun q => absurd q (by decide)⟩
    · exact ⟨fun q => absurd rfl q, fun _ => h0 fun q => by unfold isTm at q; omega⟩
  · refine s_in hE (r64_of hv) (by decide) (by decide) (fun d1 d2 => ?_) (fun d => ?_)
    · exact ⟨fun _ => ⟨⟨by omega, by omega⟩, fun _ _ => hc (by omega) (by omega) (Or.inl ⟨c0, d1, d2⟩)⟩, fun q => absurd q (by decide)⟩
    · exact ⟨fun q => absurd rfl q, fun _ => h0 fun q => by unfold isTm at q; omega⟩
theorem st_terms {E : EN} (hE : Ep E) {C : Mm → Prop} (hC : iFr C) (h1 : ∀ m w, C m → 0 ≤ w → w < 4 → m 10 w = m 605 (3 + w) ∧ R32 (m 10 w)) (h2 : ∀ m w v, C m → isTm w v → C (aUp (aUp (aUp (aUp m 12 2 0) 10 w v) 603 8 0) 605 (3 + w) v)) : stI E 1199 (iAll C) mX11_terms mX12_terms 2 := by
  intro t mem av ht hl hr hI
  obtain ⟨w, v, rfl⟩ := two_arg hl
  have hw : R32 w := hr w List.mem_cons_self
  have hv : R32 v := hr v (List.mem_cons_of_mem _ List.mem_cons_self)
  refine eX11_terms (k := 1198) hw hv (rX11_terms_0 hE fun _ _ => s_isTerm hE (k := 1197) hw hv (fun q => ?_) (fun q => ?_))
  · have b1 : 0 ≤ w := by unfold isTm at q; omega
    have b2 : w < 4 := by unfold isTm at q; omega
    obtain ⟨e1, e2⟩ := h1 mem w hI.2 b1 b2
    refine ⟨fun _ => ⟨⟨b1, b2⟩, fun _ => s_granted hE e2 (m_terms (k := 1198) hE hw hv (fun _ => ⟨?_, ?_, ?_⟩) fun n => absurd q n)⟩, fun c => absurd c (by decide)⟩
    · rw [aUp_rn (b := 605) (by decide), aUp_rn (b := 605) (by decide), aUp_rn (b := 605) (by decide)]
      exact e1
    · refine iRf_fr ?_ (fun j => ?_) (fun j => ?_) hI.1
      · rw [aUp_rn (b := 0) (by decide), aUp_rn (b := 0) (by decide), aUp_rn (b := 0) (by decide), aUp_rn (b := 0) (by decide), aUp_re, aUp_re]
      · rw [aUp_rn (b := 602) (by decide), aUp_rn (b := 602) (by decide), aUp_rn (b := 602) (by decide), aUp_rn (b := 602) (by decide), aUp_rn (b := 602) (by decide), aUp_rn (b := 602) (by decide), aUp_rn (b := 602) (by decide)]
      · rw [aUp_rn (b := 604) (by decide), aUp_rn (b := 604) (by decide), aUp_rn (b := 604) (by decide), aUp_rn (b := 604) (by decide), aUp_rn (b := 604) (by decide), aUp_rn (b := 604) (by decide), aUp_rn (b := 604) (by decide)]
    · exact hC _ _ (fun o i k => (K_sta k).trans (aUp_cg (aUp_cg ((K_thr k).trans (K_lat k))))) (h2 mem w v hI.2 q)
  · exact ⟨fun c => absurd rfl c, fun _ => both_ref hE hC (by decide) (by decide) ht hI fun m1 _ h => m_terms (k := 1198) hE hw hv (fun n => absurd n q) fun _ => h _ _ fun m2 q2 => ⟨rfl, q2⟩⟩
