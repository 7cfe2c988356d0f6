/-! what a state is: a day, how many causes, the two, the causes -/
abbrev AS : Type := Nat × Nat × (Nat → Nat → Nat) × (Nat → Nat → Nat)
def aD (s : AS) : Nat := s.1
def aN (s : AS) : Nat := s.2.1
/-- of one: 0 weekday, 1 purse, 2 borrowed, 3 owed, 4 jealous -/
def aP (s : AS) : Nat → Nat → Nat := s.2.2.1
/-- of a cause: 0 kind, 1 figure, 2 whose, 3 found, 4 used -/
def aC (s : AS) : Nat → Nat → Nat := s.2.2.2
def kpo (k f : Nat) : Nat := if k = 1 then 2 * (5 + f) else if k = 2 then (5 + f) / 2 else if k = 3 then 0 else if k = 4 then (5 + f) / 2 - 1 else if k = 5 then 2 * (5 + f) + 7 else 5 + f
def wgt (k f : Nat) : Nat := if k = 1 then f + 1 + 2 else if k = 2 then 2 * (f + 1) else if k = 3 then (f + 1) / 2 else if k = 4 then 2 * (f + 1) + 9 else if k = 5 then f + 1 + 1 else f + 1
def aK (s : AS) (c : Nat) : Nat := kpo (aC s c 0) (aC s c 1)
def aW (s : AS) (c : Nat) : Nat := wgt (aC s c 0) (aC s c 1)
/-- the last day on which a cause is not sour -/
def aT (s : AS) (c : Nat) : Nat := aC s c 3 + aK s c
/-- how many are used -/
def aU (s : AS) : Nat → Nat
  | 0 => 0
  | n + 1 => aU s n + aC s n 4
def okP (s : AS) (w : Nat) : Prop := aP s w 0 ≤ 6 ∧ aP s w 1 ≤ 999 ∧ aP s w 2 ≤ aD s ∧ aP s w 3 ≤ 29 * aU s (aN s) ∧ aP s w 4 ≤ 1
def okC (s : AS) (c : Nat) : Prop := aC s c 0 ≤ 5 ∧ aC s c 1 ≤ 9 ∧ aC s c 2 ≤ 1 ∧ aC s c 3 ≤ 83 ∧ aC s c 4 ≤ 1
def aOK (s : AS) : Prop := aD s ≤ 83 ∧ aN s ≤ 12 ∧ okP s 0 ∧ okP s 1 ∧ ∀ c, c < aN s → okC s c
theorem aOK.p {s : AS} (h : aOK s) {w : Nat} (hw : w < 2) : okP s w := by
  rcases (by omega : w = 0 ∨ w = 1) with rfl | rfl
  · exact h.2.2.1
  · exact h.2.2.2.1
theorem aOK.c {s : AS} (h : aOK s) {c : Nat} (hc : c < aN s) : okC s c := h.2.2.2.2 c hc
theorem kpo_le : ∀ k, k < 6 → ∀ f, f < 10 → kpo k f ≤ 35 := by decide +kernel
theorem wgt_le : ∀ k, k < 6 → ∀ f, f < 10 → wgt k f ≤ 29 ∧ (k ≠ 3 → 1 ≤ wgt k f) := by decide +kernel
theorem aU_le {s : AS} (h : aOK s) : ∀ n, n ≤ aN s → aU s n ≤ n
  | 0, _ => Nat.le_refl 0
  | n + 1, hn => by
    have h1 := aU_le h n (by omega)
    have h2 := (h.c (show n < aN s by omega)).2.2.2.2
    show aU s n + aC s n 4 ≤ n + 1
    omega
theorem aOK.owed {s : AS} (h : aOK s) {w : Nat} (hw : w < 2) : aP s w 3 ≤ 348 := by
  have h1 := (h.p hw).2.2.2.1
  have h2 := aU_le h (aN s) (Nat.le_refl _)
  have h3 := h.2.1
  omega
theorem aOK.k {s : AS} (h : aOK s) {c : Nat} (hc : c < aN s) : aK s c ≤ 35 := kpo_le _ (by have := (h.c hc).1; omega) _ (by have := (h.c hc).2.1; omega)
theorem aOK.w {s : AS} (h : aOK s) {c : Nat} (hc : c < aN s) : aW s c ≤ 29 := (wgt_le _ (by have := (h.c hc).1; omega) _ (by have := (h.c hc).2.1; omega)).1
/-- fresh on a day; good on a day -/
def aF (s : AS) (c d : Nat) : Bool := decide (aC s c 3 ≤ d) && decide (d ≤ aT s c)
def aG (s : AS) (c d : Nat) : Bool := aF s c d && (decide (aC s c 0 = 4) || decide (d % 7 = aP s (aC s c 2) 0))
/-- the class's picture of a state: the affair j -/
def RA (μ : QM) (j : Nat) (s : AS) : Prop := μ.1 (2, j, 0) 0 = zI (aD s) ∧ μ.1 (2, j, 0) 4 = zI (aN s) ∧ (∀ w k, w < 2 → k < 5 → μ.1 (3, j, w) k = zI (aP s w k)) ∧ (∀ c k, c < aN s → k < 5 → μ.1 (1, j, c) k = zI (aC s c k)) ∧ (∀ c, c < aN s → μ.1 (1, j, c) 5 = zI (aK s c) ∧ μ.1 (1, j, c) 6 = zI (aW s c))
/-- the reference's -/
def RM (μ : QM) (s : AS) : Prop := μ.1 (24, 0, 0) 12 = zI (aD s) ∧ μ.1 (24, 0, 0) 11 = zI (aN s) ∧ (∀ w k, w < 2 → k < 5 → μ.1 (26 + k, 0, 0) w = zI (aP s w k)) ∧ (∀ c k, c < aN s → k < 5 → μ.1 (31 + k, 0, 0) c = zI (aC s c k))
/-- the cells of the affair j -/
def isA (j : Nat) (a : QA) : Prop := (a.1 = 1 ∨ a.1 = 2 ∨ a.1 = 3) ∧ a.2.1 = j
theorem RA.fr {P : QA → Prop} {μ μ' : QM} {j : Nat} {s : AS} (h : RA μ j s) (hF : Fr P μ μ') (hP : ∀ a, isA j a → ¬ P a) : RA μ' j s := by
  obtain ⟨h1, h2, h3, h4, h5⟩ := h
  have e1 : μ'.1 (2, j, 0) = μ.1 (2, j, 0) := hF.1 _ (hP _ ⟨Or.inr (Or.inl rfl), rfl⟩)
  have e2 : ∀ w, μ'.1 (3, j, w) = μ.1 (3, j, w) := fun w => hF.1 _ (hP _ ⟨Or.inr (Or.inr rfl), rfl⟩)
  have e3 : ∀ c, μ'.1 (1, j, c) = μ.1 (1, j, c) := fun w => hF.1 _ (hP _ ⟨Or.inl rfl, rfl⟩)
  refine ⟨by rw [e1]; exact h1, by rw [e1]; exact h2, fun w k hw hk => by rw [e2]; exact h3 w k hw hk, fun c k hc hk => by rw [e3]; exact h4 c k hc hk, fun c hc => by rw [e3]; exact h5 c hc⟩
theorem k5 {P : Nat → Prop} (h0 : P 0) (h1 : P 1) (h2 : P 2) (h3 : P 3) (h4 : P 4) : ∀ k, k < 5 → P k := fun k hk => by
  rcases (by omega : k = 0 ∨ k = 1 ∨ k = 2 ∨ k = 3 ∨ k = 4) with rfl | rfl | rfl | rfl | rfl <;> assumption
theorem w2 {P : Nat → Prop} (h0 : P 0) (h1 : P 1) : ∀ k, k < 2 → P k := fun k hk => by
  rcases (by omega : k = 0 ∨ k = 1) with rfl | rfl <;> assumption
def setP (s : AS) (w k v : Nat) : AS := (aD s, aN s, fun w' k' => if w' = w ∧ k' = k then v else aP s w' k', aC s)
def setC (s : AS) (c k v : Nat) : AS := (aD s, aN s, aP s, fun c' k' => if c' = c ∧ k' = k then v else aC s c' k')
def setD (s : AS) (v : Nat) : AS := (v, aN s, aP s, aC s)
def addC (s : AS) (kind fig who on : Nat) : AS := (aD s, aN s + 1, aP s, fun c k => if c = aN s then (if k = 0 then kind else if k = 1 then fig else if k = 2 then who else if k = 3 then on else 0) else aC s c k)
/-- a day is due for one -/
def due (s : AS) (w : Nat) : Bool := decide (aD s % 7 = aP s w 0) && decide (aP s w 4 = 0)
def endP (s : AS) (w : Nat) : AS := setP (if due s w = true then setP (setP s w 1 (aP s w 1 - min 3 (aP s w 1))) w 2 (aP s w 2 + 1) else s) w 4 0
def endD (s : AS) : AS := setD (endP (endP s 0) 1) (aD s + 1)
def paidS (s : AS) (c : Nat) : Nat := min (aW s c) (min (aP s (1 - aC s c 2) 1) (999 - aP s (aC s c 2) 1))
def useC (s : AS) (c : Nat) : AS :=
  setC (setP (setP (setP (setP s (1 - aC s c 2) 1 (aP s (1 - aC s c 2) 1 - paidS s c)) (1 - aC s c 2) 3 (aP s (1 - aC s c 2) 3 + (aW s c - paidS s c))) (aC s c 2) 1 (aP s (aC s c 2) 1 + paidS s c)) (aC s c 2) 4 1) c 4 1
