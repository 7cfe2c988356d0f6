section
/-! the reference reads letters -/
theorem c_M_next (d : Nat) {i L : Nat} {T : Nat → Nat} {μ : QM} (h : MLet μ L T) (hL : L ≤ 96) (h18 : μ.1 (24, 0, 0) 18 = zI (i : Nat)) (hi : i ≤ 1000) : qcall qprogs (d + 1) 162 [qR (24, 0, 0)] μ = some (some (qI (zI (tl T L i))), μ) := by
  rw [qe_M_next, qb_M_next_0, h.1, h18]
  unfold tl
  by_cases q : i < L
  · rw [if_neg (by rw [zI_le (by omega)]; omega), zI_oob (n := 96) (by omega), cond_false, show qix (zI (i : Nat)) = i from zI_ixN (by omega), h.2 i q, qb_M_next_24, if_pos q]
  · rw [if_pos (by rw [zI_le (by omega)]; omega), qb_M_next_23, qb_M_next_24, if_neg q, zI_of]
def FrD (μ μ' : QM) (p q : Nat) : Prop := (∀ a, a ≠ (24, 0, 0) → a ≠ (39, 0, 0) → μ'.1 a = μ.1 a) ∧ (∀ k, k ≠ 18 → μ'.1 (24, 0, 0) k = μ.1 (24, 0, 0) k) ∧ (∀ x, x < p ∨ q ≤ x → μ'.1 (39, 0, 0) x = μ.1 (39, 0, 0) x) ∧ μ'.2 = μ.2
theorem FrD.rf {μ : QM} {p q : Nat} : FrD μ μ p q := ⟨fun _ _ _ => rfl, fun _ _ => rfl, fun _ _ => rfl, rfl⟩
theorem FrD.tr {μ μ1 μ2 : QM} {p q : Nat} (h : FrD μ μ1 p q) (h2 : FrD μ1 μ2 p q) : FrD μ μ2 p q := ⟨fun a b c => (h2.1 a b c).trans (h.1 a b c), fun k b => (h2.2.1 k b).trans (h.2.1 k b), fun x b => (h2.2.2.1 x b).trans (h.2.2.1 x b), h2.2.2.2.trans h.2.2.2⟩
theorem FrD.w {μ μ1 : QM} {p q p' q' : Nat} (h : FrD μ μ1 p q) (h1 : p' ≤ p) (h2 : q ≤ q') : FrD μ μ1 p' q' := ⟨h.1, h.2.1, fun x b => h.2.2.1 x (by omega), h.2.2.2⟩
theorem FrD.at1 {μ μ1 : QM} {p q : Nat} {v : Int32} (h : FrD μ μ1 p q) : FrD μ (qsi μ1 (24, 0, 0) 18 v) p q := ⟨fun a b c => by rw [qsi_ne b]; exact h.1 a b c, fun k b => by rw [qsi_get, if_neg (fun z => b z.2)]; exact h.2.1 k b, fun x b => by rw [qsi_ne (by simp)]; exact h.2.2.1 x b, h.2.2.2⟩
theorem FrD.tel {μ μ1 : QM} {p q x : Nat} {v : Int32} (h : FrD μ μ1 p q) (hx : p ≤ x ∧ x < q) : FrD μ (qsi μ1 (39, 0, 0) x v) p q := ⟨fun a b c => by rw [qsi_ne c]; exact h.1 a b c, fun k b => by rw [qsi_ne (by simp)]; exact h.2.1 k b, fun y b => by rw [qsi_get, if_neg (by omega)]; exact h.2.2.1 y b, h.2.2.2⟩
theorem MLet.d {μ μ1 : QM} {p q L : Nat} {T : Nat → Nat} (h : MLet μ L T) (f : FrD μ μ1 p q) : MLet μ1 L T := h.c (f.2.1 17 (by decide)) (f.1 _ (by simp) (by simp))
theorem c_M_readsDigits (d : Nat) {p n i L : Nat} {T : Nat → Nat} {μ : QM} (h : MLet μ L T) (hL : L ≤ 96) (hT : ∀ i, i < L → T i ≤ 255) (h18 : μ.1 (24, 0, 0) 18 = zI (i : Nat)) (hi : i ≤ 500) (hn : n ≤ 3) (hp : p < 192) :
    ∃ μ', qcall qprogs (d + 2) 163 [qR (24, 0, 0), qI (zI (p : Nat)), qI (zI (n : Nat))] μ = some (some (qI (qB (ffr (nod (tl T L)) n i).isNone)), μ') ∧ FrD μ μ' p (p + 1) ∧ (∀ j, ffr (nod (tl T L)) n i = some j → μ'.1 (24, 0, 0) 18 = zI (j : Nat)) ∧ (ffr (nod (tl T L)) n i = none → μ'.1 (24, 0, 0) 18 = zI ((i + n : Nat) : Int) ∧ μ'.1 (39, 0, 0) p = zI (fig (tl T L) i n : Nat)) := by
  have lp : ∀ r k (μ1 : QM), k + r = n → FrD μ μ1 p (p + 1) → μ1.1 (24, 0, 0) 18 = zI ((i + k : Nat) : Int) → (∀ j, i ≤ j → j < i + k → 48 ≤ tl T L j ∧ tl T L j ≤ 57) →
      ∃ μ', qx (d + 1) qc_M_readsDigits 5 [some (qR (24, 0, 0)), some (qI (zI (p : Nat))), some (qI (zI (n : Nat))), some (qI (zI (fig (tl T L) i k : Nat))), some (qI (zI (k : Nat)))] [] μ1 = some (some (qI (qB (ffr (nod (tl T L)) r (i + k)).isNone)), μ') ∧ FrD μ μ' p (p + 1) ∧ (∀ j, ffr (nod (tl T L)) r (i + k) = some j → μ'.1 (24, 0, 0) 18 = zI (j : Nat)) ∧ (ffr (nod (tl T L)) r (i + k) = none → μ'.1 (24, 0, 0) 18 = zI ((i + n : Nat) : Int) ∧ μ'.1 (39, 0, 0) p = zI (fig (tl T L) i n : Nat)) := by
    intro r
    induction r with
    | zero =>
      intro k μ1 hk hF h1 hd
      have e : k = n := by omega
      subst e
      refine ⟨qsi μ1 (39, 0, 0) p (zI (fig (tl T L) i k : Nat)), ?_, hF.tel (by omega), fun j hj => (by cases hj), fun _ => ⟨by rw [qsi_ne (by simp)]; exact h1, qsi_self _ _ _ _⟩⟩
      rw [qb_M_readsDigits_5, if_pos (by rw [zI_le (by omega)]; omega), qb_M_readsDigits_56, zI_oob (n := 192) (by omega), cond_false, show qix (zI (p : Nat)) = p from zI_ixN (by omega), zI_of, if_pos (Or.inr (by decide +kernel))]
      rfl
    | succ r ih =>
      intro k μ1 hk hF h1 hd
      have hl := h.d hF
      have tb := tl_b hT (i + k)
      rw [ffr_s]
      rw [qb_M_readsDigits_5, if_neg (by rw [zI_le (by omega)]; omega), c_M_next d hl hL h1 (by omega), qbI_some, zI_of, zI_of, c_M_isIn d (by omega), qbI_some, show (decide ((48 : Int) ≤ tl T L (i + k)) && decide (tl T L (i + k) ≤ 57)) = isd (tl T L (i + k)) from rfl]
      cases e9 : isd (tl T L (i + k))
      · have e8 : nod (tl T L) (i + k) = true := by unfold nod; rw [e9]; rfl
        rw [if_pos (show qB false = 0 from zI0), if_pos e8, zI_of, if_pos (Or.inl (by decide +kernel))]
        exact ⟨μ1, rfl, hF, fun j hj => by cases hj; exact h1, fun z => by cases z⟩
      · have e8 : ¬ nod (tl T L) (i + k) = true := by unfold nod; rw [e9]; decide
        have e7 : 48 ≤ tl T L (i + k) ∧ tl T L (i + k) ≤ 57 := by unfold isd at e9; simpa using e9
        have f9 := fig_lt k hd
        have f10 : fig (tl T L) i k < 1000 := Nat.lt_of_lt_of_le f9 (show 10 ^ k ≤ 10 ^ 3 from Nat.pow_le_pow_right (by decide) (by omega))
        rw [if_neg (show ¬ qB true = 0 by decide), if_neg e8, qb_M_readsDigits_27, c_M_next d hl hL h1 (by omega), qbI_some, h1]
        simp only [zI_of]
        rw [zI_mul, zI_add, zI_sub, zI_add, zI_add, show (10 * ((fig (tl T L) i k : Nat) : Int) + tl T L (i + k) - 48) = ((fig (tl T L) i (k + 1) : Nat) : Int) by rw [fig_s]; omega]
        exact ih (k + 1) _ (by omega) hF.at1 (by rw [qsi_self]; rfl) (fun j a b => by
          by_cases e : j = i + k
          · rw [e]; exact e7
          · exact hd j a (by omega))
  rw [qe_M_readsDigits, qb_M_readsDigits_0]
  simp only [zI_of]
  exact lp n 0 μ (by omega) FrD.rf h18 (fun j a b => absurd b (by omega))
def TD (μ : QM) (t : Nat → Int) (p a : Nat) : Prop := (t a = 99 → μ.1 (39, 0, 0) p = zI (fig t (a + 1) 1 : Nat) ∧ μ.1 (39, 0, 0) (p + 1) = zI (fig t (a + 2) 1 : Nat) ∧ μ.1 (39, 0, 0) (p + 2) = zI (fig t (a + 3) 1 : Nat) ∧ μ.1 (39, 0, 0) (p + 3) = zI (fig t (a + 4) 2 : Nat)) ∧ (t a = 100 → μ.1 (39, 0, 0) p = zI (fig t (a + 1) 1 : Nat)) ∧ (t a = 112 → μ.1 (39, 0, 0) p = zI (fig t (a + 1) 1 : Nat) ∧ μ.1 (39, 0, 0) (p + 1) = zI (fig t (a + 2) 3 : Nat)) ∧ (t a = 117 → μ.1 (39, 0, 0) p = zI (fig t (a + 1) 2 : Nat)) ∧ (t a = 119 → μ.1 (39, 0, 0) p = zI (fig t (a + 1) 1 : Nat) ∧ μ.1 (39, 0, 0) (p + 1) = zI (fig t (a + 2) 1 : Nat))
theorem TD.congr {μ μ' : QM} {t : Nat → Int} {p a : Nat} (h : TD μ t p a) (e : ∀ x, p ≤ x → x < p + 4 → μ'.1 (39, 0, 0) x = μ.1 (39, 0, 0) x) : TD μ' t p a := by
  unfold TD
  rw [e p (by omega) (by omega), e (p + 1) (by omega) (by omega), e (p + 2) (by omega) (by omega), e (p + 3) (by omega) (by omega)]
  exact h
/-- how reading goes: what a call answers, where it stops -/
def RDo (μ : QM) (x : QR) (t : Nat → Int) (p q i n : Nat) (Q : QM → Prop) : Prop := ∃ μ', x = some (some (qI (qB (ffr (nod t) n i).isNone)), μ') ∧ FrD μ μ' p q ∧ (∀ j, ffr (nod t) n i = some j → μ'.1 (24, 0, 0) 18 = zI (j : Nat)) ∧ (ffr (nod t) n i = none → μ'.1 (24, 0, 0) 18 = zI ((i + n : Nat) : Int) ∧ Q μ')
theorem c_M_readsAll (d : Nat) {a p L : Nat} {T : Nat → Nat} {μ : QM} (h : MLet μ L T) (hL : L ≤ 96) (hT : ∀ i, i < L → T i ≤ 255) (h18 : μ.1 (24, 0, 0) 18 = zI ((a + 1 : Nat) : Int)) (ha : a ≤ 400) (hp : p + 4 ≤ 192) (h0 : dgs (tl T L a) ≠ 0) :
    RDo μ (qcall qprogs (d + 3) 164 [qR (24, 0, 0), qI (zI (tl T L a)), qI (zI (p : Nat))] μ) (tl T L) p (p + 4) (a + 1) (dgs (tl T L a)) (fun μ' => TD μ' (tl T L) p a) := by
  have tb := tl_b hT a
  have q1 : zI (p : Nat) + Int32.ofInt 1 = zI ((p + 1 : Nat) : Int) := by rw [zI_of, zI_add]; rfl
  have q2 : zI (p : Nat) + Int32.ofInt 2 = zI ((p + 2 : Nat) : Int) := by rw [zI_of, zI_add]; rfl
  have q3 : zI (p : Nat) + Int32.ofInt 3 = zI ((p + 3 : Nat) : Int) := by rw [zI_of, zI_add]; rfl
  have n1 : Int32.ofInt 1 = zI ((1 : Nat) : Int) := zI_of 1
  have n2 : Int32.ofInt 2 = zI ((2 : Nat) : Int) := zI_of 2
  have n3 : Int32.ofInt 3 = zI ((3 : Nat) : Int) := zI_of 3
  have z0 : ∀ (μ1 : QM), (if Int32.ofInt 0 = 0 ∨ Int32.ofInt 0 = 1 then some (some (qI (Int32.ofInt 0)), μ1) else none : QR) = some (some (qI (qB false)), μ1) := fun μ1 => q0r
  have z1 : ∀ (μ1 : QM), (if Int32.ofInt 1 = 0 ∨ Int32.ofInt 1 = 1 then some (some (qI (Int32.ofInt 1)), μ1) else none : QR) = some (some (qI (qB true)), μ1) := fun μ1 => q1r
  have rd := fun (k n : Nat) (μ1 : QM) (f : FrD μ μ1 p (p + 4)) (hk : k ≤ 3) (hn : n ≤ 3) (i : Nat) (hi : i ≤ 500) (e : μ1.1 (24, 0, 0) 18 = zI (i : Nat)) => c_M_readsDigits (d := d) (p := p + k) (n := n) (h.d f) hL hT e hi hn (by omega)
  rw [qe_M_readsAll, qb_M_readsAll_0]
  simp only [zI_of]
  rcases dgs_c h0 with ⟨e, eg⟩ | ⟨e, eg⟩ | ⟨e, eg⟩ | ⟨e, eg⟩ | ⟨e, eg⟩
  · rw [if_pos (by rw [e]), eg, qb_M_readsAll_96, q1, q2, q3, n1, n2]
    unfold RDo
    rw [show 5 = 1 + 4 from rfl, ffr_add, show 4 = 1 + 3 from rfl, ffr_add, show 3 = 1 + 2 from rfl, ffr_add]
    obtain ⟨μ1, a1, a2, a3, a4⟩ := rd 0 1 μ FrD.rf (by decide) (by decide) (a + 1) (by omega) h18
    rw [show qcall qprogs (d + 2) 163 [qR (24, 0, 0), qI (zI (p : Nat)), qI (zI ((1 : Nat) : Int))] μ = _ from a1, qbI_some]
    have f1 := a2.w (p' := p) (q' := p + 4) (by omega) (by omega)
    cases o1 : ffr (nod (tl T L)) 1 (a + 1) with
    | some j =>
      rw [if_pos (show qB (Option.isNone (some j)) = 0 from zI0), qb_M_readsAll_142, qb_M_readsAll_143, z0]
      exact ⟨μ1, rfl, f1, fun j2 hj => by cases hj; exact a3 j o1, fun z => by cases z⟩
    | none =>
      obtain ⟨a5, a6⟩ := a4 o1
      obtain ⟨μ2, b1, b2, b3, b4⟩ := rd 1 1 μ1 f1 (by decide) (by decide) (a + 1 + 1) (by omega) a5
      have f2 := f1.tr (b2.w (p' := p) (q' := p + 4) (by omega) (by omega))
      rw [if_neg (show ¬ qB (Option.isNone (none : Option Nat)) = 0 from (by decide : ¬ qB true = 0)), b1, qbI_some]
      dsimp only
      cases o2 : ffr (nod (tl T L)) 1 (a + 1 + 1) with
      | some j =>
        rw [if_pos (show qB (Option.isNone (some j)) = 0 from zI0), qb_M_readsAll_142, qb_M_readsAll_143, z0]
        exact ⟨μ2, rfl, f2, fun j2 hj => by cases hj; exact b3 j o2, fun z => by cases z⟩
      | none =>
        obtain ⟨b5, b6⟩ := b4 o2
        obtain ⟨μ3, c1, c2, c3, c4⟩ := rd 2 1 μ2 f2 (by decide) (by decide) (a + 1 + 1 + 1) (by omega) b5
        have f3 := f2.tr (c2.w (p' := p) (q' := p + 4) (by omega) (by omega))
        rw [if_neg (show ¬ qB (Option.isNone (none : Option Nat)) = 0 from (by decide : ¬ qB true = 0)), c1, qbI_some]
        dsimp only
        cases o3 : ffr (nod (tl T L)) 1 (a + 1 + 1 + 1) with
        | some j =>
          rw [if_pos (show qB (Option.isNone (some j)) = 0 from zI0), qb_M_readsAll_142, qb_M_readsAll_143, z0]
          exact ⟨μ3, rfl, f3, fun j2 hj => by cases hj; exact c3 j o3, fun z => by cases z⟩
        | none =>
          obtain ⟨c5, c6⟩ := c4 o3
          obtain ⟨μ4, d1, d2, d3, d4⟩ := rd 3 2 μ3 f3 (by decide) (by decide) (a + 1 + 1 + 1 + 1) (by omega) c5
          have f4 := f3.tr (d2.w (p' := p) (q' := p + 4) (by omega) (by omega))
          rw [if_neg (show ¬ qB (Option.isNone (none : Option Nat)) = 0 from (by decide : ¬ qB true = 0)), d1, qbI_some]
          dsimp only
          cases o4 : ffr (nod (tl T L)) 2 (a + 1 + 1 + 1 + 1) with
          | some j =>
            rw [if_pos (show qB (Option.isNone (some j)) = 0 from zI0), qb_M_readsAll_142, qb_M_readsAll_143, z0]
            exact ⟨μ4, rfl, f4, fun j2 hj => by cases hj; exact d3 j o4, fun z => by cases z⟩
          | none =>
            obtain ⟨d5, d6⟩ := d4 o4
            rw [if_neg (show ¬ qB (Option.isNone (none : Option Nat)) = 0 from (by decide : ¬ qB true = 0)), qb_M_readsAll_143, ← n1, z1]
            refine ⟨μ4, rfl, f4, fun j2 hj => (by cases hj), fun _ => ⟨d5, fun _ => ⟨?_, ?_, ?_, d6⟩, fun z => by omega, fun z => by omega, fun z => by omega, fun z => by omega⟩⟩
            · rw [d2.2.2.1 p (by omega), c2.2.2.1 p (by omega), b2.2.2.1 p (by omega)]; exact a6
            · rw [d2.2.2.1 (p + 1) (by omega), c2.2.2.1 (p + 1) (by omega)]; exact b6
            · rw [d2.2.2.1 (p + 2) (by omega)]; exact c6
  · rw [if_neg (by rw [zI_eq (by omega)]; omega), if_neg (by rw [zI_eq (by omega)]; omega), if_neg (by rw [zI_eq (by omega)]; omega), if_neg (by rw [zI_eq (by omega)]; omega), eg, qb_M_readsAll_151, n1]
    obtain ⟨μ1, a1, a2, a3, a4⟩ := rd 0 1 μ FrD.rf (by decide) (by decide) (a + 1) (by omega) h18
    rw [show qcall qprogs (d + 2) 163 [qR (24, 0, 0), qI (zI (p : Nat)), qI (zI ((1 : Nat) : Int))] μ = _ from a1, qbI_some, qB_ret]
    exact ⟨μ1, rfl, a2.w (by omega) (by omega), a3, fun z => ⟨(a4 z).1, fun w => by omega, fun _ => (a4 z).2, fun w => by omega, fun w => by omega, fun w => by omega⟩⟩
  · rw [if_neg (by rw [zI_eq (by omega)]; omega), if_pos (by rw [e]), eg, qb_M_readsAll_70, q1, n1, n3]
    unfold RDo
    rw [show 4 = 1 + 3 from rfl, ffr_add]
    obtain ⟨μ1, a1, a2, a3, a4⟩ := rd 0 1 μ FrD.rf (by decide) (by decide) (a + 1) (by omega) h18
    rw [show qcall qprogs (d + 2) 163 [qR (24, 0, 0), qI (zI (p : Nat)), qI (zI ((1 : Nat) : Int))] μ = _ from a1, qbI_some]
    have f1 := a2.w (p' := p) (q' := p + (1 + 3)) (by omega) (by omega)
    cases o1 : ffr (nod (tl T L)) 1 (a + 1) with
    | some j =>
      rw [if_pos (show qB (Option.isNone (some j)) = 0 from zI0), qb_M_readsAll_94, qb_M_readsAll_95, z0]
      exact ⟨μ1, rfl, f1, fun j2 hj => by cases hj; exact a3 j o1, fun z => by cases z⟩
    | none =>
      obtain ⟨a5, a6⟩ := a4 o1
      obtain ⟨μ2, b1, b2, b3, b4⟩ := rd 1 3 μ1 f1 (by decide) (by decide) (a + 1 + 1) (by omega) a5
      have f2 := f1.tr (b2.w (p' := p) (q' := p + (1 + 3)) (by omega) (by omega))
      rw [if_neg (show ¬ qB (Option.isNone (none : Option Nat)) = 0 from (by decide : ¬ qB true = 0)), b1, qbI_some]
      dsimp only
      cases o2 : ffr (nod (tl T L)) 3 (a + 1 + 1) with
      | some j =>
        rw [if_pos (show qB (Option.isNone (some j)) = 0 from zI0), qb_M_readsAll_94, qb_M_readsAll_95, z0]
        exact ⟨μ2, rfl, f2, fun j2 hj => by cases hj; exact b3 j o2, fun z => by cases z⟩
      | none =>
        obtain ⟨b5, b6⟩ := b4 o2
        rw [if_neg (show ¬ qB (Option.isNone (none : Option Nat)) = 0 from (by decide : ¬ qB true = 0)), qb_M_readsAll_95, ← n1, z1]
        refine ⟨μ2, rfl, f2, fun j2 hj => (by cases hj), fun _ => ⟨b5, fun z => by omega, fun z => by omega, fun _ => ⟨?_, b6⟩, fun z => by omega, fun z => by omega⟩⟩
        rw [b2.2.2.1 p (by omega)]; exact a6
  · rw [if_neg (by rw [zI_eq (by omega)]; omega), if_neg (by rw [zI_eq (by omega)]; omega), if_pos (by rw [e]), eg, qb_M_readsAll_144, n2]
    obtain ⟨μ1, a1, a2, a3, a4⟩ := rd 0 2 μ FrD.rf (by decide) (by decide) (a + 1) (by omega) h18
    rw [show qcall qprogs (d + 2) 163 [qR (24, 0, 0), qI (zI (p : Nat)), qI (zI ((2 : Nat) : Int))] μ = _ from a1, qbI_some, qB_ret]
    exact ⟨μ1, rfl, a2.w (by omega) (by omega), a3, fun z => ⟨(a4 z).1, fun w => by omega, fun w => by omega, fun w => by omega, fun _ => (a4 z).2, fun w => by omega⟩⟩
  · rw [if_neg (by rw [zI_eq (by omega)]; omega), if_neg (by rw [zI_eq (by omega)]; omega), if_neg (by rw [zI_eq (by omega)]; omega), if_pos (by rw [e]), eg, qb_M_readsAll_44, q1, n1]
    unfold RDo
    rw [show 2 = 1 + 1 from rfl, ffr_add]
    obtain ⟨μ1, a1, a2, a3, a4⟩ := rd 0 1 μ FrD.rf (by decide) (by decide) (a + 1) (by omega) h18
    rw [show qcall qprogs (d + (1 + 1)) 163 [qR (24, 0, 0), qI (zI (p : Nat)), qI (zI ((1 : Nat) : Int))] μ = _ from a1, qbI_some]
    have f1 := a2.w (p' := p) (q' := p + 4) (by omega) (by omega)
    cases o1 : ffr (nod (tl T L)) 1 (a + 1) with
    | some j =>
      rw [if_pos (show qB (Option.isNone (some j)) = 0 from zI0), qb_M_readsAll_68, qb_M_readsAll_69, z0]
      exact ⟨μ1, rfl, f1, fun j2 hj => by cases hj; exact a3 j o1, fun z => by cases z⟩
    | none =>
      obtain ⟨a5, a6⟩ := a4 o1
      obtain ⟨μ2, b1, b2, b3, b4⟩ := rd 1 1 μ1 f1 (by decide) (by decide) (a + 1 + 1) (by omega) a5
      have f2 := f1.tr (b2.w (p' := p) (q' := p + 4) (by omega) (by omega))
      rw [if_neg (show ¬ qB (Option.isNone (none : Option Nat)) = 0 from (by decide : ¬ qB true = 0)), show qcall qprogs (d + (1 + 1)) 163 [qR (24, 0, 0), qI (zI ((p + 1 : Nat) : Int)), qI (zI ((1 : Nat) : Int))] μ1 = _ from b1, qbI_some]
      dsimp only
      cases o2 : ffr (nod (tl T L)) 1 (a + 1 + 1) with
      | some j =>
        rw [if_pos (show qB (Option.isNone (some j)) = 0 from zI0), qb_M_readsAll_68, qb_M_readsAll_69, z0]
        exact ⟨μ2, rfl, f2, fun j2 hj => by cases hj; exact b3 j o2, fun z => by cases z⟩
      | none =>
        obtain ⟨b5, b6⟩ := b4 o2
        rw [if_neg (show ¬ qB (Option.isNone (none : Option Nat)) = 0 from (by decide : ¬ qB true = 0)), qb_M_readsAll_69, ← n1, z1]
        refine ⟨μ2, rfl, f2, fun j2 hj => (by cases hj), fun _ => ⟨b5, fun z => by omega, fun z => by omega, fun z => by omega, fun z => by omega, fun _ => ⟨?_, b6⟩⟩⟩
        rw [b2.2.2.1 p (by omega)]; exact a6
/-- what reading a statement leaves as it was -/
def FrE (μ μ' : QM) (k : Nat) : Prop := (∀ a, a ≠ (24, 0, 0) → a ≠ (37, 0, 0) → a ≠ (38, 0, 0) → a ≠ (39, 0, 0) → μ'.1 a = μ.1 a) ∧ (∀ j, j ≠ 18 → μ'.1 (24, 0, 0) j = μ.1 (24, 0, 0) j) ∧ (∀ x, x ≠ k → μ'.1 (37, 0, 0) x = μ.1 (37, 0, 0) x ∧ μ'.1 (38, 0, 0) x = μ.1 (38, 0, 0) x) ∧ (∀ x, x < 4 * k ∨ 4 * k + 4 ≤ x → μ'.1 (39, 0, 0) x = μ.1 (39, 0, 0) x) ∧ μ'.2 = μ.2
theorem FrE.rf {μ : QM} {k : Nat} : FrE μ μ k := ⟨fun _ _ _ _ _ => rfl, fun _ _ => rfl, fun _ _ => ⟨rfl, rfl⟩, fun _ _ => rfl, rfl⟩
theorem c_M_statement (d : Nat) {a k L : Nat} {T : Nat → Nat} {μ : QM} (h : MLet μ L T) (hL : L ≤ 96) (hT : ∀ i, i < L → T i ≤ 255) (h18 : μ.1 (24, 0, 0) 18 = zI (a : Nat)) (h19 : μ.1 (24, 0, 0) 19 = zI (k : Nat)) (ha : a ≤ 300) (hk : k < 48) :
    ∃ μ', qcall qprogs (d + 4) 165 [qR (24, 0, 0)] μ = some (some (qI (qB (bad1 (tl T L) a).isNone)), μ') ∧ FrE μ μ' k ∧ (∀ j, bad1 (tl T L) a = some j → μ'.1 (24, 0, 0) 18 = zI (j : Nat)) ∧ (bad1 (tl T L) a = none → μ'.1 (24, 0, 0) 18 = zI (nxs (tl T L) a : Nat) ∧ μ'.1 (37, 0, 0) k = zI (tl T L a) ∧ μ'.1 (38, 0, 0) k = zI (a : Nat) ∧ TD μ' (tl T L) (4 * k) a) := by
  have tb := tl_b hT a
  have dl := dgs_le (tl T L a)
  rw [qe_M_statement, qb_M_statement_0, c_M_next (d + 2) h hL h18 (by omega), qbI_some]
  by_cases h0 : dgs (tl T L a) = 0
  · have hh : tl T L a ≠ 99 ∧ tl T L a ≠ 100 ∧ tl T L a ≠ 112 ∧ tl T L a ≠ 117 ∧ tl T L a ≠ 119 := by
      refine ⟨?_, ?_, ?_, ?_, ?_⟩ <;> (intro z; rw [z] at h0; exact absurd h0 (by decide))
    simp only [zI_of]
    rw [if_neg (by rw [zI_eq (by omega)]; omega), if_neg (by rw [zI_eq (by omega)]; omega), if_neg (by rw [zI_eq (by omega)]; omega), if_neg (by rw [zI_eq (by omega)]; omega), if_neg (by rw [zI_eq (by omega)]; omega), if_pos (Or.inl (by decide +kernel)), bad1_0 h0]
    exact ⟨μ, rfl, FrE.rf, fun j hj => by cases hj; exact h18, fun z => by cases z⟩
  · have e37 : ∀ X : QR, (if zI (tl T L a) = Int32.ofInt 119 then qx (d + 3) qc_M_statement 37 [some (qR (24, 0, 0)), some (qI (zI (tl T L a)))] [] μ else if zI (tl T L a) = Int32.ofInt 112 then qx (d + 3) qc_M_statement 37 [some (qR (24, 0, 0)), some (qI (zI (tl T L a)))] [] μ else if zI (tl T L a) = Int32.ofInt 99 then qx (d + 3) qc_M_statement 37 [some (qR (24, 0, 0)), some (qI (zI (tl T L a)))] [] μ else if zI (tl T L a) = Int32.ofInt 117 then qx (d + 3) qc_M_statement 37 [some (qR (24, 0, 0)), some (qI (zI (tl T L a)))] [] μ else if zI (tl T L a) = Int32.ofInt 100 then qx (d + 3) qc_M_statement 37 [some (qR (24, 0, 0)), some (qI (zI (tl T L a)))] [] μ else X) = qx (d + 3) qc_M_statement 37 [some (qR (24, 0, 0)), some (qI (zI (tl T L a)))] [] μ := fun X => by
      simp only [zI_of]
      rcases dgs_c h0 with ⟨e, eg⟩ | ⟨e, eg⟩ | ⟨e, eg⟩ | ⟨e, eg⟩ | ⟨e, eg⟩
      · rw [if_neg (by rw [zI_eq (by omega)]; omega), if_neg (by rw [zI_eq (by omega)]; omega), if_pos (by rw [e])]
      · rw [if_neg (by rw [zI_eq (by omega)]; omega), if_neg (by rw [zI_eq (by omega)]; omega), if_neg (by rw [zI_eq (by omega)]; omega), if_neg (by rw [zI_eq (by omega)]; omega), if_pos (by rw [e])]
      · rw [if_neg (by rw [zI_eq (by omega)]; omega), if_pos (by rw [e])]
      · rw [if_neg (by rw [zI_eq (by omega)]; omega), if_neg (by rw [zI_eq (by omega)]; omega), if_neg (by rw [zI_eq (by omega)]; omega), if_pos (by rw [e])]
      · rw [if_pos (by rw [e])]
    rw [e37, qb_M_statement_37, h19, show qix (zI (k : Nat)) = k from zI_ixN (by omega), zI_oob (n := 48) (by omega), cond_false]
    simp only [qsi_ne (show ((24, 0, 0) : QA) ≠ (37, 0, 0) by decide), qsi_ne (show ((24, 0, 0) : QA) ≠ (38, 0, 0) by decide), h19, h18]
    rw [show qix (zI (k : Nat)) = k from zI_ixN (by omega), zI_oob (n := 48) (by omega), cond_false]
    obtain ⟨μ3, hμ3⟩ : ∃ x, x = qsi (qsi (qsi μ (37, 0, 0) k (zI (tl T L a))) (38, 0, 0) k (zI (a : Nat))) (24, 0, 0) 18 (zI (a : Nat) + Int32.ofInt 1) := ⟨_, rfl⟩
    rw [← hμ3]
    have f3 : FrE μ μ3 k := by
      rw [hμ3]
      refine ⟨fun b b1 b2 b3 b4 => by rw [qsi_ne b1, qsi_ne b3, qsi_ne b2], fun j hj => by rw [qsi_get, if_neg (fun z => hj z.2), qsi_ne (by simp), qsi_ne (by simp)], fun x hx => ⟨by rw [qsi_ne (by simp), qsi_ne (by simp), qsi_get, if_neg (fun z => hx z.2)], by rw [qsi_ne (by simp), qsi_get, if_neg (fun z => hx z.2), qsi_ne (by simp)]⟩, fun x _ => by rw [qsi_ne (by simp), qsi_ne (by simp), qsi_ne (by simp)], rfl⟩
    have g18 : μ3.1 (24, 0, 0) 18 = zI ((a + 1 : Nat) : Int) := by rw [hμ3, qsi_self, zI_of, zI_add]; rfl
    have g37 : μ3.1 (37, 0, 0) k = zI (tl T L a) := by rw [hμ3, qsi_ne (by simp), qsi_ne (by simp), qsi_self]
    have g38 : μ3.1 (38, 0, 0) k = zI (a : Nat) := by rw [hμ3, qsi_ne (by simp), qsi_self]
    have hl3 : MLet μ3 L T := h.c (f3.2.1 17 (by decide)) (f3.1 _ (by simp) (by simp) (by simp) (by simp))
    have g19 : ∀ X : Int32, (Int32.ofInt 4 * zI (k : Nat)) = zI ((4 * k : Nat) : Int) := fun _ => by rw [zI_of, zI_mul]; rfl
    rw [show μ3.1 (24, 0, 0) 19 = zI (k : Nat) from (f3.2.1 19 (by decide)).trans h19, g19 0]
    obtain ⟨μ4, r1, r2, r3, r4⟩ := c_M_readsAll d hl3 hL hT g18 (by omega) (p := 4 * k) (by omega) h0
    rw [r1, qbI_some]
    have f4 : FrE μ μ4 k := ⟨fun b b1 b2 b3 b4 => by rw [r2.1 b b1 b4]; exact f3.1 b b1 b2 b3 b4, fun j hj => by rw [r2.2.1 j hj]; exact f3.2.1 j hj, fun x hx => ⟨by rw [r2.1 _ (by simp) (by simp)]; exact (f3.2.2.1 x hx).1, by rw [r2.1 _ (by simp) (by simp)]; exact (f3.2.2.1 x hx).2⟩, fun x hx => by rw [r2.2.2.1 x hx]; exact f3.2.2.2.1 x hx, r2.2.2.2.trans f3.2.2.2.2⟩
    cases o1 : ffr (nod (tl T L)) (dgs (tl T L a)) (a + 1) with
    | some j =>
      rw [if_pos (show qB (Option.isNone (some j)) = 0 from zI0), qb_M_statement_93, q0r, bad1_j h0 o1]
      exact ⟨μ4, rfl, f4, fun j2 hj => by cases hj; exact r3 j o1, fun z => by cases z⟩
    | none =>
      obtain ⟨r5, r6⟩ := r4 o1
      have te := tl_b hT (a + 1 + dgs (tl T L a))
      rw [if_neg (show ¬ qB (Option.isNone (none : Option Nat)) = 0 from (by decide : ¬ qB true = 0)), c_M_next (d + 2) (hl3.d r2) hL r5 (by omega), qbI_some, zI_of, bad1_e h0 o1]
      by_cases e9 : tl T L (a + 1 + dgs (tl T L a)) = 59
      · rw [if_pos (show zI (tl T L (a + 1 + dgs (tl T L a))) = zI 59 by rw [e9]), if_pos e9, qb_M_statement_95, q1r, r5, zI_of, zI_add]
        refine ⟨_, rfl, ⟨fun b b1 b2 b3 b4 => by rw [qsi_ne b1]; exact f4.1 b b1 b2 b3 b4, fun j hj => by rw [qsi_get, if_neg (fun z => hj z.2)]; exact f4.2.1 j hj, fun x hx => by rw [qsi_ne (by simp), qsi_ne (by simp)]; exact f4.2.2.1 x hx, fun x hx => by rw [qsi_ne (by simp)]; exact f4.2.2.2.1 x hx, f4.2.2.2.2⟩, fun j hj => (by cases hj), fun _ => ⟨?_, ?_, ?_, r6.congr fun x _ _ => by rw [qsi_ne (by simp)]⟩⟩
        · rw [qsi_self]; exact zI_congr (by unfold nxs; omega)
        · rw [qsi_ne (by simp), r2.1 _ (by simp) (by simp)]; exact g37
        · rw [qsi_ne (by simp), r2.1 _ (by simp) (by simp)]; exact g38
      · rw [if_neg (show ¬ zI (tl T L (a + 1 + dgs (tl T L a))) = zI 59 by rw [zI_eq (by omega)]; exact e9), if_neg e9, qb_M_statement_93, q0r]
        exact ⟨μ4, rfl, f4, fun j2 hj => by cases hj; exact r5, fun z => by cases z⟩
end
