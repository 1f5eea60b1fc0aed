-- what the model's law tells
def wLf (w : Rw) (o a : Int) : Int := if o = 0 then a else w (o - 1)
theorem mGo_lf {op ag : Int → Int} {lf lf2 : Int → Int → Int} {last : Int} (h : ∀ o a, 0 ≤ o → o < 11 → 0 ≤ a → a ≤ 2000 → (o = 5 → a < 10) → (5 < o ∧ o < 11 → a < 32) → lf o a = lf2 o a) : ∀ (n : Nat) (k : Int) (s : List Int), mGo op ag lf last n k s = mGo op ag lf2 last n k s := by
  intro n
  induction n with
  | zero => intro k s; rfl
  | succ n ih =>
    intro k s
    unfold mGo
    by_cases c : last ≤ k
    · rw [if_pos c, if_pos c]
    rw [if_neg c, if_neg c]
    by_cases g : ¬ (0 ≤ k ∧ k < 400 ∧ s.length < 399 ∧ 0 ≤ op k ∧ op k ≤ 30 ∧ (op k < 11 ∨ 20 ≤ op k) ∧ 0 ≤ ag k ∧ ag k ≤ 2000 ∧ (op k = 5 → ag k < 10) ∧ (5 < op k ∧ op k < 11 → ag k < 32))
    · rw [if_pos g, if_pos g]
    rw [if_neg g, if_neg g]
    have g := Classical.not_not.mp g
    by_cases d : op k < 20
    · rw [if_pos d, if_pos d, h _ _ (by omega) (by omega) (by omega) (by omega) (by omega) (by omega)]
      exact ih _ _
    rw [if_neg d, if_neg d]
    cases s with
    | nil => rfl
    | cons b s1 =>
      dsimp only
      cases s1 with
      | nil => simp only [ih]
      | cons c s2 => simp only [ih]
def slR (r : Rw) (a : Int) (lo hi : Int) (F : Rw → Int) : Prop := ∀ w, wOk w → ∃ n, mGo (fun j => r (a + 98 + 2 * j)) (fun j => r (a + 98 + 2 * j + 1)) (wLf w) hi n lo [] = some (F w)
/-- the model's slot at a of the row has law D -/
def slotS (r : Rw) (a : Int) (D : LD) : Prop := r (a + 1) = D.1 ∧ ldOk D ∧ ∀ i, 0 ≤ i → i < D.1 → r (a + 2 + 8 * i) = D.2.1 i ∧
  ((r (a + 2 + 8 * i + 6) ≤ r (a + 2 + 8 * i + 5) ∧ ∀ w, D.2.2.1 i w = 1) ∨ (r (a + 2 + 8 * i + 5) < r (a + 2 + 8 * i + 6) ∧ slR r a (r (a + 2 + 8 * i + 5)) (r (a + 2 + 8 * i + 6)) (D.2.2.1 i))) ∧
  (D.2.1 i < 2 → slR r a (r (a + 2 + 8 * i + 3)) (r (a + 2 + 8 * i + 4)) (D.2.2.2 i))
theorem slotS_fr {r r2 : Rw} {a : Int} {D : LD} (h : ∀ i, a ≤ i → r2 i = r i) (hS : slotS r a D) : slotS r2 a D := by
  obtain ⟨h1, h2, h3⟩ := hS
  have sl : ∀ lo hi F, slR r a lo hi F → slR r2 a lo hi F := by
    intro lo hi F q w hw
    obtain ⟨n, e⟩ := q w hw
    refine ⟨n, ?_⟩
    have gen : ∀ (n : Nat) (k : Int) (s : List Int), mGo (fun j => r2 (a + 98 + 2 * j)) (fun j => r2 (a + 98 + 2 * j + 1)) (wLf w) hi n k s = mGo (fun j => r (a + 98 + 2 * j)) (fun j => r (a + 98 + 2 * j + 1)) (wLf w) hi n k s := by
      intro n
      induction n with
      | zero => intro k s; rfl
      | succ n ih =>
        intro k s
        unfold mGo
        by_cases c : hi ≤ k
        · rw [if_pos c, if_pos c]
        rw [if_neg c, if_neg c]
        by_cases g0 : 0 ≤ k
        · rw [h (a + 98 + 2 * k) (by omega), h (a + 98 + 2 * k + 1) (by omega)]
          simp only [ih]
        · rw [if_pos (fun q => g0 q.1), if_pos (fun q => g0 q.1)]
    rw [gen]
    exact e
  refine ⟨(h _ (by omega)).trans h1, h2, fun i u v => ?_⟩
  rw [h (a + 2 + 8 * i) (by omega), h (a + 2 + 8 * i + 6) (by omega), h (a + 2 + 8 * i + 5) (by omega), h (a + 2 + 8 * i + 3) (by omega), h (a + 2 + 8 * i + 4) (by omega)]
  obtain ⟨a1, a2, a3⟩ := h3 i u v
  exact ⟨a1, a2.imp id fun q => ⟨q.1, sl _ _ _ q.2⟩, fun q => sl _ _ _ (a3 q)⟩
def mL (m : Mm) (L : LW) : Prop := (m 605 2 = -1 ∧ L = noLW) ∨ (0 ≤ m 605 2 ∧ m 605 2 < 6 ∧ ∃ D, slotS (m 605) (170 + 900 * m 605 2) D ∧ L = lsOf D)
theorem mL_fr {m m2 : Mm} {L : LW} (h2 : m2 605 2 = m 605 2) (h : ∀ i, 170 ≤ i → m2 605 i = m 605 i) (hL : mL m L) : mL m2 L := by
  unfold mL
  rw [h2]
  rcases hL with q | ⟨a, b, D, q1, q2⟩
  · exact Or.inl q
  · exact Or.inr ⟨a, b, D, slotS_fr (fun i u => h i (by omega)) q1, q2⟩
def tFr (m m2 : Mm) : Prop := ∀ o i, o ≠ 623 → ¬ (o = 603 ∧ (i = 38 ∨ i = 39 ∨ i = 40)) → m2 o i = m o i
def gFr (m m2 : Mm) : Prop := ∀ o i, o ≠ 621 → o ≠ 623 → ¬ (o = 603 ∧ (i = 34 ∨ i = 38 ∨ i = 39 ∨ i = 40)) → m2 o i = m o i
theorem tFr_e {m m2 : Mm} (h : eFr m m2) : tFr m m2 := fun o i a b => h o i a fun q => b ⟨q.1, by omega⟩
theorem tFr_tr {m m2 m3 : Mm} (h : tFr m m2) (h2 : tFr m2 m3) : tFr m m3 := fun o i a b => (h2 o i a b).trans (h o i a b)
theorem tFr_rf {m : Mm} : tFr m m := fun _ _ _ _ => rfl
theorem tFr_40 {m : Mm} {v : Int} : tFr m (aUp m 603 40 v) := fun o i _ b => if_neg fun q => b ⟨q.1, Or.inr (Or.inr q.2)⟩
theorem gFr_t {m m2 : Mm} (h : tFr m m2) : gFr m m2 := fun o i _ b c => h o i b fun q => c ⟨q.1, by omega⟩
theorem gFr_tr {m m2 m3 : Mm} (h : gFr m m2) (h2 : gFr m2 m3) : gFr m m3 := fun o i a b c => (h2 o i a b c).trans (h o i a b c)
theorem gFr_rf {m : Mm} : gFr m m := fun _ _ _ _ _ => rfl
theorem r32_605 {mem : Mm} (h : aNm SH mem) (i : Int) : R32 (mem 605 i) := r32_sh h at605 i
/-- one reckoning of the law at la -/
theorem m_recL {E : EN} (hE : Ep E) {k : Nat} {mem : Mm} {Q : Mm → Prop} {lo hi la : Int} {w : Rw} {F : Rw → Int} (hnm : aNm SH mem) (hb : mem 603 20 = 0) (hla : mem 603 34 = la) (hla0 : 0 ≤ la) (hla1 : la ≤ 4670) (h7 : 0 ≤ mem 605 7) (h72 : mem 605 7 ≤ 10) (r1 : R32 lo) (r2 : R32 hi) (hw : ∀ i, 0 ≤ i → i < 10 → mem 621 (i + 1) = w i) (hok : wOk w) (hF : slR (mem 605) la lo hi F) (hQ : ∀ m2 : Mm, eFr mem m2 → eRs m2 (F w) → Q m2) : CV E mX12_reckonAll (k + 2) mem [aR 603, aI lo, aI hi] Q := by
  obtain ⟨n, e⟩ := hF w hok
  refine m_reckonAll hE (n := n) r1 r2 hb hla (fun _ => ⟨hla0, hla1⟩) h7 h72 (fun j a c => (if_pos rfl).symm) (fun j a c => (if_pos rfl).symm) ?_ hQ
  rw [← e]
  refine mGo_lf (fun o a h0 h1 _ _ _ _ => ?_) _ _ _
  unfold mLf wLf
  by_cases q : o = 0
  · rw [if_pos q, if_pos q]
  · rw [if_neg q, if_neg q, if_pos rfl, ← hw (o - 1) (by omega) (by omega)]
    congr 1
    omega
theorem m_isSo {E : EN} (hE : Ep E) {k : Nat} {mem : Mm} {Q : Int → Mm → Prop} {la i : Int} {w : Rw} {D : LD} (hb : mem 603 20 = 0) (hla : mem 603 34 = la) (hla0 : 0 ≤ la) (hla1 : la ≤ 4670) (h7 : 0 ≤ mem 605 7) (h72 : mem 605 7 ≤ 10) (hw : ∀ i, 0 ≤ i → i < 10 → mem 621 (i + 1) = w i) (hok : wOk w) (hS : slotS (mem 605) la D) (hi : 0 ≤ i) (hi2 : i < D.1)
    (h0 : ¬ (D.2.2.1 i w = 1 ∧ (D.2.1 i < 2 → ¬ D.2.2.2 i w = bRK)) → ∀ m2, tFr mem m2 → Q 0 m2) (h1 : D.2.2.1 i w = 1 → (D.2.1 i < 2 → ¬ D.2.2.2 i w = bRK) → ∀ m2, tFr mem m2 → (D.2.1 i < 2 → m2 603 40 = D.2.2.2 i w) → Q 1 m2) : CI E mX12_isSo (k + 3) mem [aR 603, aI (la + 2 + 8 * i)] Q := by
  have hD := hS.2.1
  have hn := hD.2.1
  obtain ⟨s1, s2, s3⟩ := hS.2.2 i hi hi2
  obtain ⟨hc, hsum⟩ := hD.2.2 i hi hi2 w hok
  -- the SUM
  have sumP : ∀ m1 : Mm, tFr mem m1 → D.2.2.1 i w = 1 → aNm SH mem → (0 ≤ la + 2 + 8 * i ∧ la + 2 + 8 * i < 5570) ∧ ((2 ≤ (m1 605 (la + 2 + 8 * i)) → Q 1 m1) ∧ ((m1 605 (la + 2 + 8 * i)) < 2 → (R32 (la + 2 + 8 * i + 3)) ∧ (0 ≤ (la + 2 + 8 * i + 3) ∧ (la + 2 + 8 * i + 3) < 5570) ∧ (R32 (la + 2 + 8 * i + 4)) ∧ (0 ≤ (la + 2 + 8 * i + 4) ∧ (la + 2 + 8 * i + 4) < 5570) ∧ (R32 (m1 605 (la + 2 + 8 * i + 3)) → R32 (m1 605 (la + 2 + 8 * i + 4)) → CV E mX12_reckonAll (k + 2) m1 [aR 603, aI (m1 605 (la + 2 + 8 * i + 3)), aI (m1 605 (la + 2 + 8 * i + 4))] (fun m10 => ((¬ (m10 603 38) = 0 → Q 0 (aUp m10 603 40 (m10 603 39))) ∧ ((m10 603 38) = 0 → Q 1 (aUp m10 603 40 (m10 603 39)))))))) := by
    intro m1 t1 hc1 hnm
    have e605 : m1 605 = mem 605 := funext fun j => t1 605 j (by decide) (fun q => absurd q.1 (by decide))
    have e621 : ∀ j, m1 621 j = mem 621 j := fun j => t1 621 j (by decide) (fun q => absurd q.1 (by decide))
    rw [e605, s1]
    refine ⟨⟨by omega, by omega⟩, fun c => ?_, fun c => ⟨⟨by omega, by omega⟩, ⟨by omega, by omega⟩, ⟨by omega, by omega⟩, ⟨by omega, by omega⟩, fun r3 r4 => ?_⟩⟩
    · exact h1 hc1 (fun q => absurd q (by omega)) m1 t1 fun q => absurd q (by omega)
    · have hnm1 : aNm SH m1 → True := fun _ => trivial
      obtain ⟨n, e⟩ := s3 c w hok
      have hSR := s3 c
      rw [← e605] at hSR
      obtain ⟨n, e⟩ := hSR w hok
      refine m_reckonAll hE (n := n) (b := 0) (la := la) r3 r4 ((t1 603 20 (by decide) (by decide)).trans hb) ((t1 603 34 (by decide) (by decide)).trans hla) (fun _ => ⟨hla0, hla1⟩) (by rw [e605]; exact h7) (by rw [e605]; exact h72) (fun j a c => (if_pos rfl).symm) (fun j a c => (if_pos rfl).symm) (v := D.2.2.2 i w) ?_ fun m2 a b => ?_
      · rw [e605] at e ⊢
        rw [← e]
        refine mGo_lf (fun o a h0 h1 _ _ _ _ => ?_) _ _ _
        unfold mLf wLf
        by_cases q : o = 0
        · rw [if_pos q, if_pos q]
        · rw [if_neg q, if_neg q, if_pos rfl, ← hw (o - 1) (by omega) (by omega), e621]
          congr 1
          omega
      · have hf : tFr mem (aUp m2 603 40 (m2 603 39)) := tFr_tr t1 (tFr_tr (tFr_e a) tFr_40)
        rcases b with ⟨b1, b2⟩ | ⟨b1, b2, b3⟩
        · exact ⟨fun _ => h0 (fun q => q.2 c b1) _ hf, fun q => absurd (b2.symm.trans q) (by decide)⟩
        · exact ⟨fun q => absurd b2 q, fun _ => h1 hc1 (fun _ => b1) _ hf fun _ => aUp_re.trans b3⟩
  refine eX12_isSo ⟨by omega, by omega⟩ (VG_rng fun _ _ hnm _ => rX12_isSo_0 hE ⟨⟨by omega, by omega⟩, ⟨by omega, by omega⟩, ⟨by omega, by omega⟩, ⟨by omega, by omega⟩, fun c => ?_, fun c r3 r4 => ?_⟩)
  · have hc1 : D.2.2.1 i w = 1 := by
      rcases s2 with ⟨-, q⟩ | ⟨q, -⟩
      · exact q w
      · omega
    exact sumP mem tFr_rf hc1 hnm
  · rcases s2 with ⟨q, -⟩ | ⟨-, q⟩
    · omega
    · refine m_recL hE hnm hb hla hla0 hla1 h7 h72 r3 r4 hw hok q fun m2 a b => ?_
      rcases b with ⟨b1, b2⟩ | ⟨b1, b2, b3⟩
      · exact ⟨fun _ => h0 (fun z => by rw [b1] at z; exact absurd z.1 (by decide)) _ (tFr_e a), fun z => absurd (b2.symm.trans z) (by decide)⟩
      · refine ⟨fun z => absurd b2 z, fun _ => ?_⟩
        rw [b3]
        rcases hc with z | z | z
        · exact ⟨fun u => absurd z u, fun _ => h0 (fun u => by rw [z] at u; exact absurd u.1 (by decide)) _ (tFr_e a)⟩
        · exact ⟨fun _ => sumP m2 (tFr_e a) z hnm, fun u => by rw [z] at u; exact absurd u (by decide)⟩
        · exact absurd z b1
def tlS (L : LW) (h : Int) (w : Rw) (wo : Int) : Int := if h < 2 then (if L.1 h w = bRK then wo else L.1 h w) else (if L.1 h w = 1 then 1 else wo)
theorem m_term {E : EN} (hE : Ep E) {k : Nat} {mem : Mm} {Q : Int → Mm → Prop} {t : Int} (h0 : 0 ≤ t) (h1 : t < 4) (hQ : Q (mem 605 (3 + t)) mem) : CI E mX12_term k mem [aR 603, aI t] Q :=
  eX12_term ⟨by omega, by omega⟩ (rX12_term_0 hE ⟨⟨by omega, by omega⟩, ⟨by omega, by omega⟩, hQ⟩)
theorem m_tells_l {E : EN} (hE : Ep E) {k : Nat} {m0 : Mm} {Q : Int → Mm → Prop} {la h wo : Int} {w : Rw} {D : LD} (hb : m0 603 20 = 0) (hla : m0 603 34 = la) (hla0 : 0 ≤ la) (hla1 : la ≤ 4670) (h7 : 0 ≤ m0 605 7) (h72 : m0 605 7 ≤ 10) (hw : ∀ i, 0 ≤ i → i < 10 → m0 621 (i + 1) = w i) (hok : wOk w) (hS : slotS (m0 605) la D) (hh : R32 h)
    (hQ : ∀ m2 : Mm, tFr m0 m2 → Q (tlS (lsOf D) h w wo) m2) : ∀ (d j : Nat) (mem : Mm) (x : Int), tFr m0 mem → (j : Int) ≤ D.1 → D.1.toNat = j + d → x = (if h < 2 then (if ldLast D h w j = bRK then wo else ldLast D h w j) else (if ldHas D h w j then 1 else wo)) → VM E mX12_tells (k + 4) mem 195 [(0, aR 603), (1, aI h), (7, aL x), (9, aI j)] [] (retL Q) := by
  have hn := hS.2.1.2.1
  intro d
  induction d with
  | zero =>
    intro j mem x q1 q2 q3 q4
    have e34 : mem 603 34 = la := (q1 603 34 (by decide) (by decide)).trans hla
    have e605 : mem 605 = m0 605 := funext fun j => q1 605 j (by decide) (fun q => absurd q.1 (by decide))
    have hj : D.1.toNat = j := by omega
    refine rX12_tells_195 (p1 := 0) (p2 := 0) (p3 := 0) (p4 := 0) hE ⟨by rw [e34]; exact ⟨by omega, by omega⟩, by rw [e34]; exact ⟨by omega, by omega⟩, fun _ => ?_, fun c => ?_⟩
    · have := hQ mem q1
      have e : tlS (lsOf D) h w wo = x := by
        rw [q4, ← hj]
        unfold tlS lsOf
        dsimp only
        by_cases c : h < 2
        · simp only [if_pos c]
        · simp only [if_neg c]
          cases ldHas D h w D.1.toNat <;> rfl
      rw [e] at this
      exact this
    · rw [e34, e605, hS.1] at c
      omega
  | succ d ih =>
    intro j mem x q1 q2 q3 q4
    have e34 : mem 603 34 = la := (q1 603 34 (by decide) (by decide)).trans hla
    have e605 : mem 605 = m0 605 := funext fun j => q1 605 j (by decide) (fun q => absurd q.1 (by decide))
    obtain ⟨s1, s2, s3⟩ := hS.2.2 j (by omega) (by omega)
    have go : ∀ (m2 : Mm) (x2 : Int), tFr m0 m2 → x2 = (if h < 2 then (if ldLast D h w (j + 1) = bRK then wo else ldLast D h w (j + 1)) else (if ldHas D h w (j + 1) then 1 else wo)) → VM E mX12_tells (k + 4) m2 260 [(0, aR 603), (1, aI h), (7, aL x2), (9, aI j)] [] (retL Q) := by
      intro m2 x2 a b
      exact rX12_tells_260 (p1 := 0) (p2 := 0) (p3 := 0) (p4 := 0) hE ⟨⟨by omega, by omega⟩, ih (j + 1) m2 x2 a (by omega) (by omega) b⟩
    have no : ¬ (D.2.1 j = h ∧ D.2.2.1 j w = 1 ∧ (D.2.1 j < 2 → ¬ D.2.2.2 j w = bRK)) → x = (if h < 2 then (if ldLast D h w (j + 1) = bRK then wo else ldLast D h w (j + 1)) else (if ldHas D h w (j + 1) then 1 else wo)) := by
      intro z
      rw [q4]
      by_cases c : h < 2
      · rw [if_pos c, if_pos c]
        have e : ldLast D h w (j + 1) = ldLast D h w j := by
          show (if _ then _ else _) = _
          rw [if_neg fun u => z ⟨u.1, u.2.1, fun _ => u.2.2⟩]
        rw [e]
      · rw [if_neg c, if_neg c]
        have e : ldHas D h w (j + 1) = ldHas D h w j := by
          show (ldHas D h w j || (D.2.1 j == h && D.2.2.1 j w == 1)) = _
          have : (D.2.1 j == h && D.2.2.1 j w == 1) = false := by
            cases u : (D.2.1 j == h && D.2.2.1 j w == 1) with
            | false => rfl
            | true =>
              simp at u
              exact absurd ⟨u.1, u.2, fun v => absurd v (by omega)⟩ z
          rw [this, Bool.or_false]
        rw [e]
    refine rX12_tells_195 (p1 := 0) (p2 := 0) (p3 := 0) (p4 := 0) hE ⟨by rw [e34]; exact ⟨by omega, by omega⟩, by rw [e34]; exact ⟨by omega, by omega⟩, fun c => ?_, fun c => ?_⟩
    · rw [e34, e605, hS.1] at c
      omega
    · rw [e34, e605, s1]
      refine ⟨⟨by omega, by omega⟩, ⟨by omega, by omega⟩, ⟨by omega, by omega⟩, ⟨by omega, by omega⟩, fun c2 => ?_, fun c2 _ => ?_⟩
      · exact go mem x q1 (no fun z => c2 z.1)
      · refine m_isSo hE ((q1 603 20 (by decide) (by decide)).trans hb) e34 hla0 hla1 (by rw [e605]; exact h7) (by rw [e605]; exact h72) (fun i a b => (q1 621 (i + 1) (by decide) (fun q => absurd q.1 (by decide))).trans (hw i a b)) hok (by rw [e605]; exact hS) (by omega) (by omega) (fun z m2 a => ?_) (fun z1 z2 m2 a b => ?_)
        · exact ⟨fun _ => go m2 x (tFr_tr q1 a) (no fun u => z ⟨u.2.1, u.2.2⟩), fun u => absurd rfl u⟩
        · refine ⟨fun u => absurd u (by decide), fun _ => ⟨fun c => go m2 1 (tFr_tr q1 a) ?_, fun c => go m2 _ (tFr_tr q1 a) ?_⟩⟩
          · rw [if_neg (by omega)]
            have e : ldHas D h w (j + 1) = true := by show (ldHas D h w j || _) = true; simp [c2, z1]
            rw [e, if_pos rfl]
          · rw [if_pos c, b (by omega)]
            have e : ldLast D h w (j + 1) = D.2.2.2 j w := by show (if _ then _ else _) = _; rw [if_pos ⟨c2, z1, z2 (by omega)⟩]
            rw [e, if_neg (z2 (by omega))]
theorem m_tells {E : EN} (hE : Ep E) {k : Nat} {mem : Mm} {Q : Int → Mm → Prop} {h p fam c wo Y : Int} {L : LW} (hb : mem 603 20 = 0) (hL : mL mem L) (hY : Y ≤ 5000) (hok : rOk Y (mem 605)) (hh : 0 ≤ h) (hh2 : h < 4) (hp : -1 ≤ p) (hp2 : p < 10) (hf : 0 ≤ fam) (hf2 : fam < 6) (hc : 0 ≤ c) (hc2 : c < 32) (hwo : R64 wo) (hwo2 : 2 ≤ h → wo = 0)
    (hQ : ∀ m2 : Mm, gFr mem m2 → Q (tlS L h (rWd (mem 605) p fam c) wo) m2) : CL E mX12_tells (k + 4) mem [aR 603, aI h, aI p, aI fam, aI c, aL wo] Q := by
  have h7 := hok.1
  have h72 := hok.2.1
  refine eX12_tells ⟨by omega, by omega⟩ ⟨by omega, by omega⟩ ⟨by omega, by omega⟩ ⟨by omega, by omega⟩ hwo ?_
  rcases hL with ⟨q, rfl⟩ | ⟨q1, q2, D, q3, rfl⟩
  · refine rX12_tells_0 hE ⟨fun z => absurd q z, fun _ => ?_⟩
    have := hQ mem gFr_rf
    have e : tlS noLW h (rWd (mem 605) p fam c) wo = wo := by
      unfold tlS noLW
      dsimp only
      by_cases z : h < 2
      · simp only [if_pos z, if_true]
      · simp only [if_neg z]
        rw [if_neg (by decide)]
    rw [e] at this
    exact this
  · have hwd := rWd_ok hY hok hp hp2 hf hf2 hc hc2
    have go : ∀ (u7 u8 : Int), u7 = (if p = -1 then -1 else mem 605 (28 + p)) → u8 = (if p = -1 then 0 else mem 605 (38 + p)) → CI E mX12_term (k + 3) (aUp (aUp (aUp (aUp (aUp (aUp (aUp (aUp (aUp mem 603 34 (170 + (900 * (mem 605 2)))) 621 1 p) 621 2 c) 621 3 (mem 605 (80 + c))) 621 4 (mem 605 (112 + c))) 621 5 (mem 605 (48 + c))) 621 6 fam) 621 7 u7) 621 8 u8) [aR 603, aI 0] (fun r14 m13 => (CI E mX12_term (k + 3) (aUp m13 621 9 r14) [aR 603, aI 3] (fun r16 m15 => VM E mX12_tells (k + 4) (aUp m15 621 10 r16) 195 [(0, aR 603), (1, aI h), (7, aL wo), (9, aI 0)] [] (retL Q)))) := by
      intro u7 u8 z7 z8
      refine m_term hE (by decide) (by decide) (m_term hE (by decide) (by decide) ?_)
      have e3 : ∀ m : Mm, (∀ i, m 605 i = mem 605 i) → m 605 (3 + 0) = mem 605 3 ∧ m 605 (3 + 3) = mem 605 6 := fun m e => ⟨e _, e _⟩
      refine m_tells_l hE (la := 170 + 900 * mem 605 2) (w := rWd (mem 605) p fam c) (D := D) ?_ ?_ (by omega) (by omega) ?_ ?_ (fun i a b => ?_) hwd ?_ ⟨by omega, by omega⟩ (fun m2 a => hQ m2 (gFr_tr (fun o i a b c => ?_) (gFr_t a))) D.1.toNat 0 _ wo tFr_rf (by have := q3.2.1.1; omega) (by omega) ?_
      · simp (disch := decide) only [aUp_rn]
        exact hb
      · simp (disch := decide) only [aUp_rn, aUp_re]
      · simp (disch := decide) only [aUp_rn]
        exact h7
      · simp (disch := decide) only [aUp_rn]
        exact h72
      · have hi : i = 0 ∨ i = 1 ∨ i = 2 ∨ i = 3 ∨ i = 4 ∨ i = 5 ∨ i = 6 ∨ i = 7 ∨ i = 8 ∨ i = 9 := by omega
        unfold rWd
        rcases hi with rfl | rfl | rfl | rfl | rfl | rfl | rfl | rfl | rfl | rfl <;> simp (disch := decide) only [aUp_re, aUp_ri, aUp_rn, if_pos, if_neg, Int.reduceAdd] <;> first | rfl | assumption
      · refine slotS_fr (fun i _ => ?_) q3
        simp (disch := decide) only [aUp_rn]
      · simp (disch := assumption) only [aUp_rn]
        exact if_neg fun q => c ⟨q.1, Or.inl q.2⟩
      · by_cases z : h < 2
        · rw [if_pos z]; rfl
        · rw [if_neg z]; rfl
    refine rX12_tells_0 hE ⟨fun _ => ⟨⟨by omega, by omega⟩, ⟨by omega, by omega⟩, ⟨by omega, by omega⟩, ⟨by omega, by omega⟩, ⟨by omega, by omega⟩, ⟨by omega, by omega⟩, ⟨by omega, by omega⟩, ⟨by omega, by omega⟩, fun z => ⟨⟨by omega, by omega⟩, ⟨by omega, by omega⟩, fun _ => ⟨⟨by omega, by omega⟩, ⟨by omega, by omega⟩, ?_⟩, fun z2 => absurd z2 z⟩, fun z => ⟨fun z2 => absurd z z2, fun _ => ?_⟩⟩, fun z => absurd z (by omega)⟩
    · exact go _ _ (by rw [if_neg z]) (by rw [if_neg z])
    · exact go _ _ (by rw [if_pos z]) (by rw [if_pos z])
