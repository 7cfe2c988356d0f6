/-! all that is: what both objects must hold -/
abbrev GS : Type := AS × Option AS × (Nat × (Nat → AS)) × (Nat × (Nat → Nat)) × (Nat × (Nat → Nat)) × (Nat → Nat)
def gS (σ : GS) : AS := σ.1
def gI (σ : GS) : Option AS := σ.2.1
/-- what can be taken back -/
def gN (σ : GS) : Nat := σ.2.2.1.1
def gP (σ : GS) : Nat → AS := σ.2.2.1.2
/-- the letters -/
def gL (σ : GS) : Nat := σ.2.2.2.1.1
def gT (σ : GS) : Nat → Nat := σ.2.2.2.1.2
/-- the row -/
def gK (σ : GS) : Nat := σ.2.2.2.2.1.1
def gR (σ : GS) : Nat → Nat := σ.2.2.2.2.1.2
/-- the refusals -/
def gF (σ : GS) : Nat → Nat := σ.2.2.2.2.2
def refS (σ : GS) (k : Nat) : GS := (gS σ, gI σ, (gN σ, gP σ), (gL σ, gT σ), (gK σ, gR σ), fun i => if i = k then gF σ i + 1 else gF σ i)
def GOK (σ : GS) : Prop := aOK (gS σ) ∧ (∀ s, gI σ = some s → aOK s) ∧ gN σ ≤ 8 ∧ (∀ i, i < gN σ → aOK (gP σ i)) ∧ gL σ ≤ 96 ∧ (∀ i, i < gL σ → gT σ i ≤ 255) ∧ gK σ ≤ 12 ∧ ∀ i, i < gK σ → gR σ i ≤ 99
def CPic (μ : QM) : Option AS → Prop
  | none => μ.1 (0, 0, 0) 3 = zI 0
  | some s => μ.1 (0, 0, 0) 3 = zI 1 ∧ RA μ 2 s
def CPast (μ : QM) (n : Nat) (P : Nat → AS) : Prop := n ≤ 8 ∧ μ.1 (0, 0, 0) 5 = zI (n : Nat) ∧ ∃ π : Nat → Nat, (∀ i, i < 8 → μ.2.2 (17, 0, 0) i = some (2, π i, 0) ∧ 3 ≤ π i ∧ π i < 11) ∧ (∀ i j, i < 8 → j < 8 → π i = π j → i = j) ∧ ∀ i, i < n → RA μ (π i) (P i)
def CLet (μ : QM) (n : Nat) (T : Nat → Nat) : Prop := μ.1 (0, 0, 0) 7 = zI (n : Nat) ∧ ∀ i, i < n → μ.1 (18, 0, 0) i = zI (T i : Nat)
def CNum (μ : QM) (n : Nat) (R : Nat → Nat) : Prop := μ.1 (0, 0, 0) 9 = zI (n : Nat) ∧ ∀ i, i < n → μ.1 (19, 0, 0) i = zI (R i : Nat)
def CRef (μ : QM) (F : Nat → Nat) : Prop := ∀ k, 1 ≤ k → k ≤ 6 → μ.1 (20, 0, 0) k = zI (F k : Nat)
def C0 (μ : QM) (σ : GS) : Prop := RA μ 0 (gS σ) ∧ CPic μ (gI σ) ∧ CPast μ (gN σ) (gP σ) ∧ CLet μ (gL σ) (gT σ) ∧ CNum μ (gK σ) (gR σ) ∧ CRef μ (gF σ)
def CP (μ : QM) : Prop := ∀ p, p < 2 → PN μ p ∧ ∃ m D, PD μ p m D
def CI (μ : QM) (σ : GS) : Prop := C0 μ σ ∧ CP μ
/-- what the class's reads may write -/
def isX (a : QA) : Prop := isPls a ∨ isA 1 a ∨ (13 ≤ a.1 ∧ a.1 ≤ 16) ∨ (21 ≤ a.1 ∧ a.1 ≤ 23)
def isCl (a : QA) : Prop := a.1 ≤ 23
def isMd (a : QA) : Prop := 24 ≤ a.1
theorem isX_A {j : Nat} (hj : j ≠ 1) (a : QA) (h : isA j a) : ¬ isX a := by
  intro h2
  rcases h2 with h2 | h2 | h2 | h2
  · rcases h.1 with e | e | e <;> have := h2.1 <;> omega
  · exact hj (h.2.symm.trans h2.2)
  · rcases h.1 with e | e | e <;> omega
  · rcases h.1 with e | e | e <;> omega
theorem isX_0 {t : Nat} (ht : t = 0 ∨ 17 ≤ t ∧ t ≤ 20) : ¬ isX (t, 0, 0) := by
  intro h2
  rcases h2 with h2 | h2 | h2 | h2
  · have := h2.1; have := h2.2; dsimp only at *; omega
  · rcases h2.1 with e | e | e <;> dsimp only at * <;> omega
  · dsimp only at *; omega
  · dsimp only at *; omega
theorem isX.cl (a : QA) (h : isX a) : isCl a := by
  rcases h with h | h | h | h
  · have := h.2; unfold isCl; omega
  · rcases h.1 with e | e | e <;> unfold isCl <;> omega
  · unfold isCl; omega
  · unfold isCl; omega
/-- what is kept, where what it lies in is left alone -/
theorem C0.fr {P : QA → Prop} {μ μ' : QM} {σ : GS} (h : C0 μ σ) (f : Fr P μ μ') (hA : ∀ j, j ≠ 1 → ∀ a, isA j a → ¬ P a) (h0 : ∀ t, t = 0 ∨ 17 ≤ t ∧ t ≤ 20 → ¬ P (t, 0, 0)) : C0 μ' σ := by
  obtain ⟨h1, h2, ⟨hn8, h3, π, h4, h5, h6⟩, h7, h8, h9⟩ := h
  have e0 : μ'.1 (0, 0, 0) = μ.1 (0, 0, 0) := f.1 _ (h0 0 (by omega))
  have e17 : μ'.2.2 (17, 0, 0) = μ.2.2 (17, 0, 0) := f.2.2 _ (h0 17 (by omega))
  have e18 : μ'.1 (18, 0, 0) = μ.1 (18, 0, 0) := f.1 _ (h0 18 (by omega))
  have e19 : μ'.1 (19, 0, 0) = μ.1 (19, 0, 0) := f.1 _ (h0 19 (by omega))
  have e20 : μ'.1 (20, 0, 0) = μ.1 (20, 0, 0) := f.1 _ (h0 20 (by omega))
  refine ⟨h1.fr f (hA 0 (by decide)), ?_, ⟨hn8, by rw [e0]; exact h3, π, fun i hi => by rw [e17]; exact h4 i hi, h5, fun i hi => ?_⟩, ⟨by rw [e0]; exact h7.1, fun i hi => by rw [e18]; exact h7.2 i hi⟩, ⟨by rw [e0]; exact h8.1, fun i hi => by rw [e19]; exact h8.2 i hi⟩, fun k a b => by rw [e20]; exact h9 k a b⟩
  · cases hg : gI σ with
    | none => rw [hg] at h2; show μ'.1 _ _ = _; rw [e0]; exact h2
    | some s => rw [hg] at h2; exact ⟨by rw [e0]; exact h2.1, h2.2.fr f (hA 2 (by decide))⟩
  · have := (h4 i (by omega)).2.1
    exact (h6 i hi).fr f (hA _ (by omega))
theorem C0.x {μ μ' : QM} {σ : GS} (h : C0 μ σ) (f : Fr isX μ μ') : C0 μ' σ := h.fr f (fun _ hj a => isX_A hj a) (fun _ ht => isX_0 ht)
/-- a call of the class; of the reference -/
def JC (id : Nat) (args : List QV) (σ : GS) (v : QV) (σ' : GS) : Prop := ∀ (d : Nat) (μ : QM), CI μ σ → ∃ μ', qcall qprogs (d + 30) id (qR (0, 0, 0) :: args) μ = some (some v, μ') ∧ CI μ' σ' ∧ Fr isCl μ μ'
def KS (μ : QM) (k : Nat) (s : AS) : Prop := (∀ w j, w < 2 → j < 5 → μ.1 (40, 0, 0) (80 * k + 2 * j + w) = zI (aP s w j : Nat)) ∧ (∀ c j, c < aN s → j < 5 → μ.1 (40, 0, 0) (80 * k + 10 + 12 * j + c) = zI (aC s c j : Nat)) ∧ μ.1 (40, 0, 0) (80 * k + 70) = zI (aN s : Nat) ∧ μ.1 (40, 0, 0) (80 * k + 71) = zI (aD s : Nat)
def MPic (μ : QM) : Option AS → Prop
  | none => μ.1 (24, 0, 0) 21 = zI 0
  | some s => μ.1 (24, 0, 0) 21 = zI 1 ∧ KS μ 0 s
def MPast (μ : QM) (n : Nat) (P : Nat → AS) : Prop := n ≤ 8 ∧ μ.1 (24, 0, 0) 24 = zI (n : Nat) ∧ ∀ i, i < n → KS μ (2 + i) (P i)
def MLet (μ : QM) (n : Nat) (T : Nat → Nat) : Prop := μ.1 (24, 0, 0) 17 = zI (n : Nat) ∧ ∀ i, i < n → μ.1 (36, 0, 0) i = zI (T i : Nat)
def MNum (μ : QM) (n : Nat) (R : Nat → Nat) : Prop := μ.1 (24, 0, 0) 33 = zI (n : Nat) ∧ ∀ i, i < n → μ.1 (45, 0, 0) i = zI (R i : Nat)
def MRef (μ : QM) (F : Nat → Nat) : Prop := ∀ k, 1 ≤ k → k ≤ 6 → μ.1 (25, 0, 0) k = zI (F k : Nat)
def MI (μ : QM) (σ : GS) : Prop := RM μ (gS σ) ∧ MPic μ (gI σ) ∧ MPast μ (gN σ) (gP σ) ∧ MLet μ (gL σ) (gT σ) ∧ MNum μ (gK σ) (gR σ) ∧ MRef μ (gF σ)
def MC (id : Nat) (args : List QV) (σ : GS) (v : QV) (σ' : GS) : Prop := ∀ (d : Nat) (μ : QM), MI μ σ → ∃ μ', qcall qprogs (d + 30) id (qR (24, 0, 0) :: args) μ = some (some v, μ') ∧ MI μ' σ' ∧ Fr isMd μ μ'
/-- what the reference's reads may write -/
def isRd (a : QA) : Prop := a = (24, 0, 0) ∨ (26 ≤ a.1 ∧ a.1 ≤ 35) ∨ (37 ≤ a.1 ∧ a.1 ≤ 44) ∨ 46 ≤ a.1
def FrR (μ μ' : QM) : Prop := Fr isRd μ μ' ∧ (∀ k, k = 17 ∨ k = 21 ∨ k = 24 ∨ k = 33 → μ'.1 (24, 0, 0) k = μ.1 (24, 0, 0) k) ∧ ∀ x, x < 80 ∨ 160 ≤ x → μ'.1 (40, 0, 0) x = μ.1 (40, 0, 0) x
theorem FrR.rf {μ : QM} : FrR μ μ := ⟨Fr.rf, fun _ _ => rfl, fun _ _ => rfl⟩
theorem FrR.tr {μ μ1 μ2 : QM} (h : FrR μ μ1) (h2 : FrR μ1 μ2) : FrR μ μ2 := ⟨h.1.tr h2.1, fun k a => (h2.2.1 k a).trans (h.2.1 k a), fun k a => (h2.2.2 k a).trans (h.2.2 k a)⟩
theorem FrR.md {μ μ' : QM} (h : FrR μ μ') : Fr isMd μ μ' := h.1.mono fun a ha => by
  unfold isMd
  rcases ha with e | e | e | e
  · rw [e]; decide
  · omega
  · omega
  · omega
theorem FrQ.r {μ μ' : QM} (h : FrQ μ μ') : FrR μ μ' := ⟨h.1.mono fun a ha => by
    rcases ha with e | e
    · exact Or.inl e
    · exact Or.inr (Or.inr (Or.inl (by omega))), fun k hk => h.2 k (by omega) (by omega), fun x _ => by rw [h.1.1 _ (by unfold isQ; simp)]⟩
theorem FrS.r {μ μ' : QM} (h : FrS μ μ') : FrR μ μ' := ⟨h.1.mono fun a ha => by
    rcases ha with e | e
    · exact Or.inl e
    · exact Or.inr (Or.inl e), fun k hk => h.2 k (by omega) (by omega), fun x _ => by rw [h.1.1 _ (by unfold isS; simp)]⟩
theorem KS.congr {μ μ' : QM} {k : Nat} {s : AS} (h : KS μ k s) (hn : aN s ≤ 12) (e : ∀ x, 80 * k ≤ x → x < 80 * k + 80 → μ'.1 (40, 0, 0) x = μ.1 (40, 0, 0) x) : KS μ' k s := ⟨fun w j hw hj => by rw [e _ (by omega) (by omega)]; exact h.1 w j hw hj, fun c j hc hj => by rw [e _ (by omega) (by omega)]; exact h.2.1 c j hc hj, by rw [e _ (by omega) (by omega)]; exact h.2.2.1, by rw [e _ (by omega) (by omega)]; exact h.2.2.2⟩
theorem MI.r {μ μ' : QM} {σ : GS} (h : MI μ σ) (ok : GOK σ) (f : FrR μ μ') (hR : RM μ' (gS σ)) : MI μ' σ := by
  obtain ⟨-, h2, ⟨h3, h4, h5⟩, h6, h7, h8⟩ := h
  have e21 := f.2.1 21 (by omega)
  have e36 : μ'.1 (36, 0, 0) = μ.1 (36, 0, 0) := f.1.1 _ (by unfold isRd; simp)
  have e45 : μ'.1 (45, 0, 0) = μ.1 (45, 0, 0) := f.1.1 _ (by unfold isRd; simp)
  have e25 : μ'.1 (25, 0, 0) = μ.1 (25, 0, 0) := f.1.1 _ (by unfold isRd; simp)
  refine ⟨hR, ?_, ⟨h3, by rw [f.2.1 24 (by omega)]; exact h4, fun i hi => (h5 i hi).congr (ok.2.2.2.1 i hi).2.1 fun x a b => f.2.2 x (Or.inr (by omega))⟩, ⟨by rw [f.2.1 17 (by omega)]; exact h6.1, fun i hi => by rw [e36]; exact h6.2 i hi⟩, ⟨by rw [f.2.1 33 (by omega)]; exact h7.1, fun i hi => by rw [e45]; exact h7.2 i hi⟩, fun k a b => by rw [e25]; exact h8 k a b⟩
  cases hg : gI σ with
  | none => rw [hg] at h2; show μ'.1 _ _ = _; rw [e21]; exact h2
  | some s => rw [hg] at h2; exact ⟨by rw [e21]; exact h2.1, h2.2.congr (ok.2.1 s hg).2.1 fun x a b => f.2.2 x (Or.inl (by omega))⟩
/-! refusals -/
theorem neg_ix {f : Int} (h : -6 ≤ f ∧ f ≤ -1) : -zI f = zI (((-f).toNat : Nat) : Int) := by rw [zI_neg]; exact zI_congr (by omega)
theorem c_J_refuse (d : Nat) {f : Int} {μ : QM} {σ : GS} (h : CI μ σ) (hf : -6 ≤ f ∧ f ≤ -1) : ∃ μ', qcall qprogs (d + 1) 104 [qR (0, 0, 0), qI (zI f)] μ = some (some (qI (zI f)), μ') ∧ CI μ' (refS σ (-f).toNat) ∧ Fr isCl μ μ' := by
  have r := h.1.2.2.2.2.2
  have hk : 1 ≤ (-f).toNat ∧ (-f).toNat ≤ 6 := by omega
  rw [qe_J_refuse, qb_J_refuse_0, neg_ix hf]
  generalize (-f).toNat = k at *
  simp (disch := omega) only [zI_of, zI_0, zI_1, zI_add, zI_sub, zI_mul, zI_neg, zI_lt, zI_le, zI_eq, zI_rem, zI_oob, zI_ixN, zI_ix, zI_ite, zI10, zI01, Int.toNat_natCast, cond_false, cond_true, q01_0, q01_1, q01_0z, q01_1z, qB_if, qB_ifz, qB_ret, qB_retz, qbI_some, qbV_some, qbL_some, qbR_some, qbN_some, qbN_none, true_or, or_true, false_or, or_false, if_true, if_false, Int.reduceEq, Int.reduceLT, Int.reduceLE, Int.reduceNeg, qb_J_refuse_26, r k hk.1 hk.2]
  rw [if_neg (by omega), if_neg (by omega)]
  have fr : Fr (fun a => a = (20, 0, 0)) μ (qsi μ (20, 0, 0) k (zI ((gF σ k : Nat) + 1 : Int))) := Fr.si rfl
  refine ⟨_, rfl, ⟨⟨h.1.1.fr fr (fun a ha e => by rcases ha.1 with q | q | q <;> (rw [e] at q; exact absurd q (by decide))), ?_, ?_, ?_, ?_, ?_⟩, fun p hp => ?_⟩, fr.mono fun a e => by rw [e]; show 20 ≤ 23; decide⟩
  · have := h.1.2.1
    show CPic _ (gI σ)
    cases hg : gI σ with
    | none => rw [hg] at this; show (qsi _ _ _ _).1 _ _ = _; rw [qsi_ne (by simp)]; exact this
    | some s => rw [hg] at this; exact ⟨by rw [qsi_ne (by simp)]; exact this.1, this.2.fr fr (fun a ha e => by rcases ha.1 with q | q | q <;> (rw [e] at q; exact absurd q (by decide)))⟩
  · obtain ⟨a0, a1, π, a2, a3, a4⟩ := h.1.2.2.1
    exact ⟨a0, by rw [qsi_ne (by simp)]; exact a1, π, a2, a3, fun i hi => (a4 i hi).fr fr (fun a ha e => by rcases ha.1 with q | q | q <;> (rw [e] at q; exact absurd q (by decide)))⟩
  · obtain ⟨a1, a2⟩ := h.1.2.2.2.1
    exact ⟨by rw [qsi_ne (by simp)]; exact a1, fun i hi => by rw [qsi_ne (by simp)]; exact a2 i hi⟩
  · obtain ⟨a1, a2⟩ := h.1.2.2.2.2.1
    exact ⟨by rw [qsi_ne (by simp)]; exact a1, fun i hi => by rw [qsi_ne (by simp)]; exact a2 i hi⟩
  · intro i a b
    rw [qsi_get]
    show _ = zI ((if i = k then gF σ i + 1 else gF σ i : Nat) : Int)
    by_cases e : i = k
    · subst e; rw [if_pos ⟨rfl, rfl⟩, if_pos rfl]; rfl
    · rw [if_neg (by simp [e]), if_neg e]; exact r i a b
  · obtain ⟨a1, m, D, a2⟩ := h.2 p hp
    exact ⟨a1.congr fun c => by rw [qsi_ne (by simp)], m, D, a2.congr (by rw [qsi_ne (by simp)]) (by rw [qsi_ne (by simp)])⟩
theorem MI.ref {μ : QM} {σ : GS} {k : Nat} (h : MI μ σ) (hk : 1 ≤ k ∧ k ≤ 6) : MI (qsi μ (25, 0, 0) k (zI ((gF σ k : Nat) + 1 : Int))) (refS σ k) := by
  obtain ⟨h1, h2, h3, h6, h7, h8⟩ := h
  have e40 : (qsi μ (25, 0, 0) k (zI ((gF σ k : Nat) + 1 : Int))).1 (40, 0, 0) = μ.1 (40, 0, 0) := qsi_ne (by simp)
  have e24 : (qsi μ (25, 0, 0) k (zI ((gF σ k : Nat) + 1 : Int))).1 (24, 0, 0) = μ.1 (24, 0, 0) := qsi_ne (by simp)
  have ks : ∀ j s, KS μ j s → KS (qsi μ (25, 0, 0) k (zI ((gF σ k : Nat) + 1 : Int))) j s := fun j s q => by unfold KS; rw [e40]; exact q
  refine ⟨h1.congr (by rw [e24]) (by rw [e24]) (fun j hj => qsi_ne (by simp; omega)) rfl rfl (fun _ _ _ _ => rfl) (fun _ _ _ _ => rfl), ?_, ⟨h3.1, by rw [e24]; exact h3.2.1, fun i hi => ks _ _ (h3.2.2 i hi)⟩, ⟨by rw [e24]; exact h6.1, fun i hi => by rw [qsi_ne (by simp)]; exact h6.2 i hi⟩, ⟨by rw [e24]; exact h7.1, fun i hi => by rw [qsi_ne (by simp)]; exact h7.2 i hi⟩, fun i a b => ?_⟩
  · show MPic _ (gI σ)
    cases hg : gI σ with
    | none => rw [hg] at h2; show (qsi _ _ _ _).1 _ _ = _; rw [e24]; exact h2
    | some s => rw [hg] at h2; exact ⟨by rw [e24]; exact h2.1, ks _ _ h2.2⟩
  · rw [qsi_get]
    show _ = zI ((if i = k then gF σ i + 1 else gF σ i : Nat) : Int)
    by_cases e : i = k
    · subst e; rw [if_pos ⟨rfl, rfl⟩, if_pos rfl]; rfl
    · rw [if_neg (by simp [e]), if_neg e]; exact h8 i a b
theorem c_M_no (d : Nat) {f : Int} {μ : QM} {σ : GS} (h : MI μ σ) (hf : -6 ≤ f ∧ f ≤ -1) : ∃ μ', qcall qprogs (d + 1) 152 [qR (24, 0, 0), qI (zI f)] μ = some (some (qI (zI f)), μ') ∧ MI μ' (refS σ (-f).toNat) ∧ Fr isMd μ μ' := by
  have hk : 1 ≤ (-f).toNat ∧ (-f).toNat ≤ 6 := by omega
  rw [qe_M_no, qb_M_no_0, neg_ix hf]
  generalize (-f).toNat = k at *
  simp (disch := omega) only [zI_of, zI_0, zI_1, zI_add, zI_sub, zI_mul, zI_neg, zI_lt, zI_le, zI_eq, zI_rem, zI_oob, zI_ixN, zI_ix, zI_ite, zI10, zI01, Int.toNat_natCast, cond_false, cond_true, q01_0, q01_1, q01_0z, q01_1z, qB_if, qB_ifz, qB_ret, qB_retz, qbI_some, qbV_some, qbL_some, qbR_some, qbN_some, qbN_none, true_or, or_true, false_or, or_false, if_true, if_false, Int.reduceEq, Int.reduceLT, Int.reduceLE, Int.reduceNeg, h.2.2.2.2.2 k hk.1 hk.2]
  exact ⟨_, rfl, h.ref hk, Fr.si (show 24 ≤ 25 by decide)⟩
theorem c_M_lower (d : Nat) {f : Int} {μ : QM} {σ : GS} (h : MI μ σ) (hf : -6 ≤ f ∧ f ≤ -1) : ∃ μ', qcall qprogs (d + 1) 153 [qR (24, 0, 0), qI (zI f)] μ = some (some (qI (zI (1000000000 - f))), μ') ∧ MI μ' (refS σ (-f).toNat) ∧ Fr isMd μ μ' := by
  have hk : 1 ≤ (-f).toNat ∧ (-f).toNat ≤ 6 := by omega
  rw [qe_M_lower, qb_M_lower_0, neg_ix hf]
  generalize (-f).toNat = k at *
  simp (disch := omega) only [zI_of, zI_0, zI_1, zI_add, zI_sub, zI_mul, zI_neg, zI_lt, zI_le, zI_eq, zI_rem, zI_oob, zI_ixN, zI_ix, zI_ite, zI10, zI01, Int.toNat_natCast, cond_false, cond_true, q01_0, q01_1, q01_0z, q01_1z, qB_if, qB_ifz, qB_ret, qB_retz, qbI_some, qbV_some, qbL_some, qbR_some, qbN_some, qbN_none, true_or, or_true, false_or, or_false, if_true, if_false, Int.reduceEq, Int.reduceLT, Int.reduceLE, Int.reduceNeg, h.2.2.2.2.2 k hk.1 hk.2]
  exact ⟨_, rfl, h.ref hk, Fr.si (show 24 ≤ 25 by decide)⟩
def lL (f : Int) : Int64 := Int64.ofInt 4000000000000000000 - (zI f).toInt64
theorem c_M_lowest (d : Nat) {f : Int} {μ : QM} {σ : GS} (h : MI μ σ) (hf : -6 ≤ f ∧ f ≤ -1) : ∃ μ', qcall qprogs (d + 1) 154 [qR (24, 0, 0), qI (zI f)] μ = some (some (qL (lL f)), μ') ∧ MI μ' (refS σ (-f).toNat) ∧ Fr isMd μ μ' := by
  have hk : 1 ≤ (-f).toNat ∧ (-f).toNat ≤ 6 := by omega
  rw [qe_M_lowest, qb_M_lowest_0, neg_ix hf]
  unfold lL
  generalize (-f).toNat = k at *
  simp (disch := omega) only [zI_of, zI_0, zI_1, zI_add, zI_sub, zI_mul, zI_neg, zI_lt, zI_le, zI_eq, zI_rem, zI_oob, zI_ixN, zI_ix, zI_ite, zI10, zI01, Int.toNat_natCast, cond_false, cond_true, q01_0, q01_1, q01_0z, q01_1z, qB_if, qB_ifz, qB_ret, qB_retz, qbI_some, qbV_some, qbL_some, qbR_some, qbN_some, qbN_none, true_or, or_true, false_or, or_false, if_true, if_false, Int.reduceEq, Int.reduceLT, Int.reduceLE, Int.reduceNeg, h.2.2.2.2.2 k hk.1 hk.2]
  exact ⟨_, rfl, h.ref hk, Fr.si (show 24 ≤ 25 by decide)⟩
theorem c_J_refuseFar (d : Nat) {f : Int} {μ : QM} {σ : GS} (h : CI μ σ) (hf : -6 ≤ f ∧ f ≤ -1) : ∃ μ', qcall qprogs (d + 2) 105 [qR (0, 0, 0), qI (zI f)] μ = some (some (qI (zI (1000000000 - f))), μ') ∧ CI μ' (refS σ (-f).toNat) ∧ Fr isCl μ μ' := by
  obtain ⟨μ', r1, r2, r3⟩ := c_J_refuse d h hf
  refine ⟨μ', ?_, r2, r3⟩
  rw [qe_J_refuseFar, qb_J_refuseFar_0, r1, qbI_some, zI_of, zI_sub]
theorem c_J_refuseLong (d : Nat) {f : Int} {μ : QM} {σ : GS} (h : CI μ σ) (hf : -6 ≤ f ∧ f ≤ -1) : ∃ μ', qcall qprogs (d + 2) 106 [qR (0, 0, 0), qI (zI f)] μ = some (some (qL (lL f)), μ') ∧ CI μ' (refS σ (-f).toNat) ∧ Fr isCl μ μ' := by
  obtain ⟨μ', r1, r2, r3⟩ := c_J_refuse d h hf
  refine ⟨μ', ?_, r2, r3⟩
  rw [qe_J_refuseLong, qb_J_refuseLong_0, r1, qbI_some]
  rfl
/-! faults -/
def iB (z : Int) : Prop := -2147483648 ≤ z ∧ z < 2147483648
def fDay (s : AS) (z : Int) : Int := if z < aD s then -4 else if 83 < z then -6 else 0
def fOne (z f : Int) : Int := if z = 0 ∨ z = 1 then f else -1
def fWh (f z m : Int) : Int := if f = 0 then (if 0 ≤ z ∧ z ≤ m then 0 else -2) else f
theorem fDay_r (s : AS) (z : Int) : fDay s z = 0 ∨ (-6 ≤ fDay s z ∧ fDay s z ≤ -1) := by unfold fDay; split <;> (try split) <;> omega
theorem fOne_r {z f : Int} (h : f = 0 ∨ (-6 ≤ f ∧ f ≤ -1)) : fOne z f = 0 ∨ (-6 ≤ fOne z f ∧ fOne z f ≤ -1) := by unfold fOne; split <;> omega
theorem fWh_r {z m f : Int} (h : f = 0 ∨ (-6 ≤ f ∧ f ≤ -1)) : fWh f z m = 0 ∨ (-6 ≤ fWh f z m ∧ fWh f z m ≤ -1) := by unfold fWh; split <;> (try split) <;> omega
theorem fDay_0 {s : AS} {z : Int} (h : fDay s z = 0) : ∃ n : Nat, z = n ∧ aD s ≤ n ∧ n ≤ 83 := by
  unfold fDay at h
  split at h
  · omega
  · split at h
    · omega
    · exact ⟨z.toNat, by omega, by omega, by omega⟩
theorem fOne_0 {z f : Int} (h : fOne z f = 0) : (∃ w : Nat, z = w ∧ w < 2) ∧ f = 0 := by
  unfold fOne at h
  split at h
  · exact ⟨⟨z.toNat, by omega, by omega⟩, h⟩
  · omega
theorem fWh_0 {z m f : Int} (h : fWh f z m = 0) : f = 0 ∧ 0 ≤ z ∧ z ≤ m := by
  unfold fWh at h
  split at h
  · rename_i e
    split at h
    · rename_i e2; exact ⟨e, e2⟩
    · omega
  · rename_i e; exact absurd h e
theorem c_J_isNobody (d : Nat) {z : Int} {μ : QM} (hz : iB z) : qcall qprogs (d + 1) 111 [qI (zI z)] μ = some (some (qI (qB (!decide (z = 0 ∨ z = 1)))), μ) := by
  have h := hz.1
  have h' := hz.2
  rw [qe_J_isNobody, qb_J_isNobody_0]
  simp (disch := omega) only [zI_of, zI_0, zI_1, zI_add, zI_sub, zI_mul, zI_neg, zI_lt, zI_le, zI_eq, zI_rem, zI_oob, zI_ixN, zI_ix, zI_ite, zI10, zI01, Int.toNat_natCast, cond_false, cond_true, q01_0, q01_1, q01_0z, q01_1z, qB_if, qB_ifz, qB_ret, qB_retz, qbI_some, qbV_some, qbL_some, qbR_some, qbN_some, qbN_none, true_or, or_true, false_or, or_false, if_true, if_false, Int.reduceEq, Int.reduceLT, Int.reduceLE, Int.reduceNeg, qb_J_isNobody_13, qb_J_isNobody_14]
  by_cases h1 : z = 0
  · rw [if_pos h1]; simp [h1, qB]
  · by_cases h2 : z = 1
    · rw [if_neg h1, if_pos h2]; simp [h2, qB]
    · rw [if_neg h1, if_neg h2]; simp [h1, h2, qB]
theorem c_M_isOne (d : Nat) {z : Int} {μ : QM} (hz : iB z) : qcall qprogs (d + 1) 159 [qI (zI z)] μ = some (some (qI (qB (decide (z = 0 ∨ z = 1)))), μ) := by
  have h := hz.1
  have h' := hz.2
  rw [qe_M_isOne, qb_M_isOne_0]
  simp (disch := omega) only [zI_of, zI_0, zI_1, zI_add, zI_sub, zI_mul, zI_neg, zI_lt, zI_le, zI_eq, zI_rem, zI_oob, zI_ixN, zI_ix, zI_ite, zI10, zI01, Int.toNat_natCast, cond_false, cond_true, q01_0, q01_1, q01_0z, q01_1z, qB_if, qB_ifz, qB_ret, qB_retz, qbI_some, qbV_some, qbL_some, qbR_some, qbN_some, qbN_none, true_or, or_true, false_or, or_false, if_true, if_false, Int.reduceEq, Int.reduceLT, Int.reduceLE, Int.reduceNeg, qb_M_isOne_9, qb_M_isOne_13, qb_M_isOne_14]
  by_cases h1 : z = 0
  · rw [if_pos h1]; simp [h1, qB]
  · by_cases h2 : z = 1
    · rw [if_neg h1, if_pos h2]; simp [h2, qB]
    · rw [if_neg h1, if_neg h2]; simp [h1, h2, qB]
theorem c_J_isNoKind (d : Nat) {z : Int} {μ : QM} (hz : iB z) : qcall qprogs (d + 1) 112 [qI (zI z)] μ = some (some (qI (qB (!decide (0 ≤ z ∧ z ≤ 5)))), μ) := by
  have h := hz.1
  have h' := hz.2
  rw [qe_J_isNoKind, qb_J_isNoKind_0]
  simp (disch := omega) only [zI_of, zI_0, zI_1, zI_add, zI_sub, zI_mul, zI_neg, zI_lt, zI_le, zI_eq, zI_rem, zI_oob, zI_ixN, zI_ix, zI_ite, zI10, zI01, Int.toNat_natCast, cond_false, cond_true, q01_0, q01_1, q01_0z, q01_1z, qB_if, qB_ifz, qB_ret, qB_retz, qbI_some, qbV_some, qbL_some, qbR_some, qbN_some, qbN_none, true_or, or_true, false_or, or_false, if_true, if_false, Int.reduceEq, Int.reduceLT, Int.reduceLE, Int.reduceNeg, qb_J_isNoKind_10, qb_J_isNoKind_14, qb_J_isNoKind_15]
  by_cases h1 : z < 0
  · rw [if_pos h1]; have : ¬ (0 ≤ z) := by omega
    simp [this, qB]
  · by_cases h2 : z < 6
    · rw [if_neg h1, if_pos h2]; have : 0 ≤ z ∧ z ≤ 5 := by omega
      simp [this, qB]
    · rw [if_neg h1, if_neg h2]; have : ¬ (z ≤ 5) := by omega
      simp [this, qB]
theorem c_J_isNoWeekday (d : Nat) {z : Int} {μ : QM} (hz : iB z) : qcall qprogs (d + 1) 113 [qI (zI z)] μ = some (some (qI (qB (!decide (0 ≤ z ∧ z ≤ 6)))), μ) := by
  have h := hz.1
  have h' := hz.2
  rw [qe_J_isNoWeekday, qb_J_isNoWeekday_0]
  simp (disch := omega) only [zI_of, zI_0, zI_1, zI_add, zI_sub, zI_mul, zI_neg, zI_lt, zI_le, zI_eq, zI_rem, zI_oob, zI_ixN, zI_ix, zI_ite, zI10, zI01, Int.toNat_natCast, cond_false, cond_true, q01_0, q01_1, q01_0z, q01_1z, qB_if, qB_ifz, qB_ret, qB_retz, qbI_some, qbV_some, qbL_some, qbR_some, qbN_some, qbN_none, true_or, or_true, false_or, or_false, if_true, if_false, Int.reduceEq, Int.reduceLT, Int.reduceLE, Int.reduceNeg, qb_J_isNoWeekday_10, qb_J_isNoWeekday_14, qb_J_isNoWeekday_15]
  by_cases h1 : z < 0
  · rw [if_pos h1]; have : ¬ (0 ≤ z) := by omega
    simp [this, qB]
  · by_cases h2 : z < 7
    · rw [if_neg h1, if_pos h2]; have : 0 ≤ z ∧ z ≤ 6 := by omega
      simp [this, qB]
    · rw [if_neg h1, if_neg h2]; have : ¬ (z ≤ 6) := by omega
      simp [this, qB]
theorem c_J_faultOfDay (d : Nat) {z : Int} {s : AS} {μ : QM} (h : RA μ 0 s) (ok : aOK s) (hz : iB z) : qcall qprogs (d + 1) 107 [qR (0, 0, 0), qI (zI z)] μ = some (some (qI (zI (fDay s z))), μ) := by
  have b := ok.1
  have h1 := hz.1
  have h2 := hz.2
  rw [qe_J_faultOfDay, qb_J_faultOfDay_0, h.day]
  simp (disch := omega) only [zI_of, zI_0, zI_1, zI_add, zI_sub, zI_mul, zI_neg, zI_lt, zI_le, zI_eq, zI_rem, zI_oob, zI_ixN, zI_ix, zI_ite, zI10, zI01, Int.toNat_natCast, cond_false, cond_true, q01_0, q01_1, q01_0z, q01_1z, qB_if, qB_ifz, qB_ret, qB_retz, qbI_some, qbV_some, qbL_some, qbR_some, qbN_some, qbN_none, true_or, or_true, false_or, or_false, if_true, if_false, Int.reduceEq, Int.reduceLT, Int.reduceLE, Int.reduceNeg, qb_J_faultOfDay_14, qb_J_faultOfDay_25, qb_J_faultOfDay_26]
  unfold fDay
  by_cases e1 : z < aD s
  · rw [if_neg (by omega), if_pos e1]
  · rw [if_pos (by omega), if_neg e1]
    by_cases e2 : 83 < z
    · rw [if_neg (by omega), if_pos e2]
    · rw [if_pos (by omega), if_neg e2]
theorem c_J_faultOfOneAndDay (d : Nat) {z1 z : Int} {s : AS} {μ : QM} (h : RA μ 0 s) (ok : aOK s) (hz1 : iB z1) (hz : iB z) : qcall qprogs (d + 2) 108 [qR (0, 0, 0), qI (zI z1), qI (zI z)] μ = some (some (qI (zI (fOne z1 (fDay s z)))), μ) := by
  rw [qe_J_faultOfOneAndDay, qb_J_faultOfOneAndDay_0, c_J_isNobody d hz1, qbI_some, qb_J_faultOfOneAndDay_11, c_J_faultOfDay d h ok hz, qbI_some, qb_J_faultOfOneAndDay_16, qb_J_faultOfOneAndDay_16, zI_of, qB_if]
  unfold fOne
  by_cases e : z1 = 0 ∨ z1 = 1
  · simp [e]
  · simp [e]
theorem c_J_faultOfDayWhat (d : Nat) {z1 z : Int} {s : AS} {μ : QM} (h : RA μ 0 s) (ok : aOK s) (hz1 : iB z1) (hz : iB z) : qcall qprogs (d + 2) 109 [qR (0, 0, 0), qI (zI z1), qI (zI z)] μ = some (some (qI (zI (fWh (fDay s z1) z 1))), μ) := by
  have h1 := hz.1
  have h2 := hz.2
  have q := fDay_r s z1
  rw [qe_J_faultOfDayWhat, qb_J_faultOfDayWhat_0, c_J_faultOfDay d h ok hz1, qbI_some]
  unfold fWh
  simp (disch := omega) only [zI_of, zI_0, zI_1, zI_add, zI_sub, zI_mul, zI_neg, zI_lt, zI_le, zI_eq, zI_rem, zI_oob, zI_ixN, zI_ix, zI_ite, zI10, zI01, Int.toNat_natCast, cond_false, cond_true, q01_0, q01_1, q01_0z, q01_1z, qB_if, qB_ifz, qB_ret, qB_retz, qbI_some, qbV_some, qbL_some, qbR_some, qbN_some, qbN_none, true_or, or_true, false_or, or_false, if_true, if_false, Int.reduceEq, Int.reduceLT, Int.reduceLE, Int.reduceNeg, qb_J_faultOfDayWhat_12, qb_J_faultOfDayWhat_26, qb_J_faultOfDayWhat_27]
  by_cases e : fDay s z1 = 0
  · rw [if_pos e, if_pos e]
    by_cases e0 : z = 0
    · rw [if_pos e0, if_pos (by omega)]
    · by_cases e1 : z = 1
      · rw [if_neg e0, if_pos e1, if_pos (by omega)]
      · rw [if_neg e0, if_neg e1, if_neg (by omega)]
  · rw [if_neg e, if_neg e]
theorem c_J_faultOfOneDayWhat (d : Nat) {z1 z2 z : Int} (m : Int) {s : AS} {μ : QM} (h : RA μ 0 s) (ok : aOK s) (hz1 : iB z1) (hz2 : iB z2) (hz : iB z) (hm : 0 ≤ m ∧ m ≤ 100) : qcall qprogs (d + 3) 110 [qR (0, 0, 0), qI (zI z1), qI (zI z2), qI (zI z), qI (zI m)] μ = some (some (qI (zI (fWh (fOne z1 (fDay s z2)) z m))), μ) := by
  have h1 := hz.1
  have h2 := hz.2
  have q := fOne_r (z := z1) (fDay_r s z2)
  rw [qe_J_faultOfOneDayWhat, qb_J_faultOfOneDayWhat_0, c_J_faultOfOneAndDay d h ok hz1 hz2, qbI_some]
  unfold fWh
  simp (disch := omega) only [zI_of, zI_0, zI_1, zI_add, zI_sub, zI_mul, zI_neg, zI_lt, zI_le, zI_eq, zI_rem, zI_oob, zI_ixN, zI_ix, zI_ite, zI10, zI01, Int.toNat_natCast, cond_false, cond_true, q01_0, q01_1, q01_0z, q01_1z, qB_if, qB_ifz, qB_ret, qB_retz, qbI_some, qbV_some, qbL_some, qbR_some, qbN_some, qbN_none, true_or, or_true, false_or, or_false, if_true, if_false, Int.reduceEq, Int.reduceLT, Int.reduceLE, Int.reduceNeg, qb_J_faultOfOneDayWhat_16, qb_J_faultOfOneDayWhat_26, qb_J_faultOfOneDayWhat_31, qb_J_faultOfOneDayWhat_32]
  by_cases e : fOne z1 (fDay s z2) = 0
  · rw [if_pos e, if_pos e]
    by_cases e0 : z < 0
    · rw [if_pos e0, if_neg (by omega)]
    · by_cases e1 : z ≤ m
      · rw [if_neg e0, if_pos e1, if_pos (by omega)]
      · rw [if_neg e0, if_neg e1, if_neg (by omega)]
  · rw [if_neg e, if_neg e]
theorem c_M_notWho (d : Nat) {z1 z : Int} {s : AS} {μ : QM} (h : RM μ s) (ok : aOK s) (hz1 : iB z1) (hz : iB z) : qcall qprogs (d + 2) 194 [qR (24, 0, 0), qI (zI z1), qI (zI z)] μ = some (some (qI (zI (fOne z1 (fDay s z)))), μ) := by
  have b := ok.1
  have h1 := hz.1
  have h2 := hz.2
  rw [qe_M_notWho, qb_M_notWho_0, c_M_isOne d hz1, qbI_some, qb_M_notWho_11, h.day, zI_of, zI_of, c_M_bound d (by omega), qbI_some, qb_M_notWho_21, qb_M_notWho_21, qB_if]
  unfold fOne
  by_cases e : z1 = 0 ∨ z1 = 1
  · simp [e]; rfl
  · simp [e]
theorem GOK.ref {σ : GS} {k : Nat} (h : GOK σ) : GOK (refS σ k) := h
