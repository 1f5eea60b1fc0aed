-- law(): the model copies what it read into its row
theorem m_lawC2 {E : EN} (hE : Ep E) {K : Nat} {m2 : Mm} {Q : Int → Mm → Prop} {a mk nC s2 : Int} (ha : a = 170 + 900 * mk) (hm : 0 ≤ mk ∧ mk < 6) (h51 : m2 605 1 = mk) (hs : 0 ≤ s2 ∧ s2 ≤ 400) (h23 : m2 603 23 = s2) (hn : 0 ≤ nC ∧ nC ≤ 12)
    (hT : ∀ m3, (∀ o i, o ≠ 605 → m3 o i = m2 o i) → (∀ i, i ≤ a → i ≠ 1 → m3 605 i = m2 605 i) → m3 605 1 = mk + 1 → m3 605 (a + 1) = nC → (∀ x, 0 ≤ x → x < 8 * nC → m3 605 (a + 2 + x) = m2 613 x) → (∀ y, 0 ≤ y → y < s2 → m3 605 (a + 98 + 2 * y) = m2 614 y ∧ m3 605 (a + 98 + 2 * y + 1) = m2 615 y) → CI E mX12_tell (K + 8) m3 [aR 603, aI mk] Q) :
    ∀ (d : Nat) (j : Int) (m : Mm), (∀ o i, o ≠ 605 → m o i = m2 o i) → (∀ i, i ≤ a → m 605 i = m2 605 i) → m 605 (a + 1) = nC → (∀ x, 0 ≤ x → x < 8 * nC → m 605 (a + 2 + x) = m2 613 x) → 0 ≤ j → j + d = s2 → (∀ y, 0 ≤ y → y < j → m 605 (a + 98 + 2 * y) = m2 614 y ∧ m 605 (a + 98 + 2 * y + 1) = m2 615 y) → VM E mX12_law (K + 8 + 1) m 146 [(0, aR 603), (1, aI a), (2, aI j)] [] (retI Q) := by
  intro d
  induction d with
  | zero =>
    intro j m g1 g2 g3 g4 hj hd g5
    refine rX12_law_146 (k := K + 8) hE ?_
    rw [g1 603 23 (by decide), h23, g2 1 (by omega), h51]
    refine ⟨fun _ => ⟨⟨by omega, by omega⟩, ⟨by omega, by omega⟩, fun _ => ?_⟩, fun z => absurd z (by omega)⟩
    rw [show mk + 1 - 1 = mk by omega]
    have fs : ∀ i, i ≠ 1 → (aUp m 605 1 (mk + 1)) 605 i = m 605 i := fun i z => aUp_ri z
    exact hT _ (fun o i z => (aUp_rn z).trans (g1 o i z)) (fun i z1 z2 => (fs i z2).trans (g2 i z1)) aUp_re ((fs _ (by omega)).trans g3) (fun x x0 x1 => (fs _ (by omega)).trans (g4 x x0 x1)) fun y y0 y1 => ⟨(fs _ (by omega)).trans (g5 y y0 (by omega)).1, (fs _ (by omega)).trans (g5 y y0 (by omega)).2⟩
  | succ d ih =>
    intro j m g1 g2 g3 g4 hj hd g5
    refine rX12_law_146 (k := K + 8) hE ?_
    rw [g1 603 23 (by decide), h23]
    refine ⟨fun z => absurd z (by omega), fun _ => ⟨⟨by omega, by omega⟩, ⟨by omega, by omega⟩, ⟨by omega, by omega⟩, ⟨by omega, by omega⟩, ⟨by omega, by omega⟩, ⟨by omega, by omega⟩, ⟨by omega, by omega⟩, ⟨by omega, by omega⟩, ?_⟩⟩
    rw [g1 614 j (by decide), g1 615 j (by decide)]
    have fs : ∀ i, i ≠ a + 98 + 2 * j → i ≠ a + 98 + 2 * j + 1 → (aUp (aUp m 605 (a + 98 + 2 * j) (m2 614 j)) 605 (a + 98 + 2 * j + 1) (m2 615 j)) 605 i = m 605 i := fun i z1 z2 => by rw [aUp_ri z2, aUp_ri z1]
    refine ih (j + 1) _ (fun o i z => by rw [aUp_rn z, aUp_rn z]; exact g1 o i z) (fun i z => (fs i (by omega) (by omega)).trans (g2 i z)) ((fs _ (by omega) (by omega)).trans g3) (fun x x0 x1 => (fs _ (by omega) (by omega)).trans (g4 x x0 x1)) (by omega) (by omega) fun y y0 y1 => ?_
    by_cases c : y = j
    · subst c
      exact ⟨by rw [aUp_ri (by omega), aUp_re], aUp_re⟩
    · exact ⟨(fs _ (by omega) (by omega)).trans (g5 y y0 (by omega)).1, (fs _ (by omega) (by omega)).trans (g5 y y0 (by omega)).2⟩
theorem m_lawC1 {E : EN} (hE : Ep E) {K : Nat} {m2 : Mm} {Q : Int → Mm → Prop} {a mk nC s2 : Int} (ha : a = 170 + 900 * mk) (hm : 0 ≤ mk ∧ mk < 6) (h51 : m2 605 1 = mk) (hs : 0 ≤ s2 ∧ s2 ≤ 400) (h23 : m2 603 23 = s2) (hn : 0 ≤ nC ∧ nC ≤ 12) (h21 : m2 603 21 = nC)
    (hT : ∀ m3, (∀ o i, o ≠ 605 → m3 o i = m2 o i) → (∀ i, i ≤ a → i ≠ 1 → m3 605 i = m2 605 i) → m3 605 1 = mk + 1 → m3 605 (a + 1) = nC → (∀ x, 0 ≤ x → x < 8 * nC → m3 605 (a + 2 + x) = m2 613 x) → (∀ y, 0 ≤ y → y < s2 → m3 605 (a + 98 + 2 * y) = m2 614 y ∧ m3 605 (a + 98 + 2 * y + 1) = m2 615 y) → CI E mX12_tell (K + 8) m3 [aR 603, aI mk] Q) :
    ∀ (d : Nat) (j : Int) (m : Mm), (∀ o i, o ≠ 605 → m o i = m2 o i) → (∀ i, i ≤ a → m 605 i = m2 605 i) → m 605 (a + 1) = nC → (∀ x, 0 ≤ x → x < j → m 605 (a + 2 + x) = m2 613 x) → 0 ≤ j → j + d = 8 * nC → VM E mX12_law (K + 8 + 1) m 111 [(0, aR 603), (1, aI a), (2, aI j)] [] (retI Q) := by
  intro d
  induction d with
  | zero =>
    intro j m g1 g2 g3 g4 hj hd
    refine rX12_law_111 (k := K + 8) hE ?_
    rw [g1 603 21 (by decide), h21]
    exact ⟨⟨by omega, by omega⟩, fun _ => m_lawC2 hE ha hm h51 hs h23 hn hT s2.toNat 0 m g1 g2 g3 (fun x x0 x1 => g4 x x0 (by omega)) (by decide) (by omega) (fun y y0 y1 => absurd y1 (by omega)), fun z => absurd z (by omega)⟩
  | succ d ih =>
    intro j m g1 g2 g3 g4 hj hd
    refine rX12_law_111 (k := K + 8) hE ?_
    rw [g1 603 21 (by decide), h21]
    refine ⟨⟨by omega, by omega⟩, fun z => absurd z (by omega), fun _ => ⟨⟨by omega, by omega⟩, ⟨by omega, by omega⟩, ⟨by omega, by omega⟩, ⟨by omega, by omega⟩, ⟨by omega, by omega⟩, ?_⟩⟩
    rw [g1 613 j (by decide)]
    have fs : ∀ i, i ≠ a + 2 + j → (aUp m 605 (a + 2 + j) (m2 613 j)) 605 i = m 605 i := fun i z => aUp_ri z
    refine ih (j + 1) _ (fun o i z => (aUp_rn z).trans (g1 o i z)) (fun i z => (fs i (by omega)).trans (g2 i z)) ((fs _ (by omega)).trans g3) (fun x x0 x1 => ?_) (by omega) (by omega)
    by_cases c : x = j
    · subst c; exact aUp_re
    · exact (fs _ (by omega)).trans (g4 x x0 (by omega))
-- a LAW by its CLAUSES
def zC : CLd := (0, 1, f1, f1, f1)
def ldL (l : List CLd) : LD := ((l.length : Int), fun i => (l.getD i.toNat zC).1, fun i => (l.getD i.toNat zC).2.2.2.2, fun i => (l.getD i.toNat zC).2.2.1)
theorem ldL_g {l : List CLd} {i : Int} (h0 : 0 ≤ i) (h1 : i < (l.length : Int)) : l[i.toNat]? = some (l.getD i.toNat zC) ∧ l.getD i.toNat zC ∈ l := by
  have : i.toNat < l.length := by omega
  rw [List.getD_eq_getElem?_getD, List.getElem?_eq_getElem this]
  exact ⟨rfl, List.getElem_mem this⟩
theorem ldL_ok {l : List CLd} (hl : l.length ≤ 12) (h : ∀ cl ∈ l, clOk cl) : ldOk (ldL l) := by
  refine ⟨by show 0 ≤ (l.length : Int); omega, by show (l.length : Int) ≤ 12; omega, fun i h0 h1 w hw => ?_⟩
  obtain ⟨a, b, c, d, e, f, g⟩ := h _ (ldL_g h0 h1).2
  have t := g w hw
  exact ⟨by show (l.getD i.toNat zC).2.2.2.2 w = 0 ∨ (l.getD i.toNat zC).2.2.2.2 w = 1 ∨ (l.getD i.toNat zC).2.2.2.2 w = bRK; rcases t with t | t | t; exact Or.inr (Or.inr t); exact Or.inl t; exact Or.inr (Or.inl t), e w hw⟩
theorem ldL_Tx {m : Mm} {t s2 : Int} {l : List CLd} (hl : l.length ≤ 12) (hok : ∀ cl ∈ l, clOk cl) (h0 : m t 0 = (l.length : Int)) (h8 : m t 8 = s2) (hs : s2 ≤ 400) (h : ∀ (i : Nat) cl, l[i]? = some cl → cCl 10 m t s2 i cl) : TxS m t 10 (ldL l) := by
  refine ⟨h0, by rw [h8]; exact hs, ldL_ok hl hok, fun i a b => ?_⟩
  obtain ⟨r1, r2, r3, r4, r5⟩ := h i.toNat _ (ldL_g a b).1
  rw [show ((i.toNat : Nat) : Int) = i by omega] at r1 r3 r5
  exact ⟨r1, cV_vS r5 h8 hs, fun _ => cV_vS r3 h8 hs⟩
theorem lfT_f (w : Rw) : lfT false w = wLf w := by
  funext o a
  unfold lfT wLf
  by_cases c : o = 0
  · rw [if_pos c, if_pos c]
  · rw [if_neg c, if_neg c, if_neg (by decide)]
theorem ldL_sl {m2 : Mm} {r : Rw} {a s2 : Int} {l : List CLd} (hl : l.length ≤ 12) (hok : ∀ cl ∈ l, clOk cl) (hs : s2 ≤ 400) (h1 : r (a + 1) = (l.length : Int)) (h2 : ∀ x, 0 ≤ x → x < 8 * (l.length : Int) → r (a + 2 + x) = m2 613 x) (h3 : ∀ y, 0 ≤ y → y < s2 → r (a + 98 + 2 * y) = m2 614 y ∧ r (a + 98 + 2 * y + 1) = m2 615 y) (h : ∀ (i : Nat) cl, l[i]? = some cl → mLw m2 s2 i cl) : slotS r a (ldL l) := by
  refine ⟨h1, ldL_ok hl hok, fun i u v => ?_⟩
  have v : i < (l.length : Int) := v
  obtain ⟨g1, g2⟩ := ldL_g u v
  obtain ⟨r1, r2, r3⟩ := h i.toNat _ g1
  rw [show ((i.toNat : Nat) : Int) = i by omega] at r1 r2 r3
  obtain ⟨c1, c2, c3, c4, c5, c6, c7⟩ := hok _ g2
  have hr : ∀ j, 0 ≤ j → j < 8 → r (a + 2 + 8 * i + j) = m2 613 (8 * i + j) := fun j _ _ => by rw [show a + 2 + 8 * i + j = a + 2 + (8 * i + j) by omega]; exact h2 _ (by omega) (by omega)
  have sl : ∀ lo hi F, mSg false (m2 614) (m2 615) lo hi F → hi ≤ s2 → vB F → slR r a lo hi F := by
    intro lo hi F hS hh hv w hw
    have hlo := hS.1
    have S2 : mSg false (fun j => r (a + 98 + 2 * j)) (fun j => r (a + 98 + 2 * j + 1)) lo hi F := sg_fr (fun j x y => ⟨(h3 j (by omega) (by omega)).1, (h3 j (by omega) (by omega)).2⟩) hS
    obtain ⟨n, e⟩ := sg_doneM S2 (by omega) hv w hw
    rw [lfT_f] at e
    exact ⟨n, e⟩
  have e0 := hr 0 (by decide) (by decide)
  rw [Int.add_zero, Int.add_zero] at e0
  rw [e0, hr 6 (by decide) (by decide), hr 5 (by decide) (by decide), hr 3 (by decide) (by decide), hr 4 (by decide) (by decide)]
  refine ⟨r1, ?_, fun z => ?_⟩
  · rcases r3 with ⟨q1, q2⟩ | ⟨q1, q2, q3⟩
    · exact Or.inl ⟨q1, fun w => q2 w⟩
    · exact Or.inr ⟨q1, sl _ _ _ q2 q3 (tB_v c7)⟩
  · obtain ⟨q1, q2⟩ := r2 z
    exact sl _ _ _ q1 q2 c5
