section
/-! letters: what a text says -/
def tl (T : Nat → Nat) (L i : Nat) : Int := if i < L then (T i : Int) else -1
def dgs (x : Int) : Nat := if x = 99 then 5 else if x = 100 then 1 else if x = 112 then 4 else if x = 117 then 2 else if x = 119 then 2 else 0
def isd (x : Int) : Bool := decide (48 ≤ x) && decide (x ≤ 57)
def nod (t : Nat → Int) (j : Nat) : Bool := !isd (t j)
def fig (t : Nat → Int) (i : Nat) : Nat → Nat
  | 0 => 0
  | n + 1 => 10 * fig t i n + (t (i + n) - 48).toNat
theorem fig_s (t : Nat → Int) (i n : Nat) : fig t i (n + 1) = 10 * fig t i n + (t (i + n) - 48).toNat := rfl
def nxs (t : Nat → Int) (a : Nat) : Nat := a + (dgs (t a) + 2)
def bad1 (t : Nat → Int) (a : Nat) : Option Nat := if dgs (t a) = 0 then some a else (match ffr (nod t) (dgs (t a)) (a + 1) with
  | some j => some j
  | none => if t (a + 1 + dgs (t a)) = 59 then none else some (a + 1 + dgs (t a)))
theorem bad1_0 {t : Nat → Int} {a : Nat} (h : dgs (t a) = 0) : bad1 t a = some a := if_pos h
theorem bad1_j {t : Nat → Int} {a j : Nat} (h : dgs (t a) ≠ 0) (h2 : ffr (nod t) (dgs (t a)) (a + 1) = some j) : bad1 t a = some j := by unfold bad1; rw [if_neg h, h2]
theorem bad1_e {t : Nat → Int} {a : Nat} (h : dgs (t a) ≠ 0) (h2 : ffr (nod t) (dgs (t a)) (a + 1) = none) : bad1 t a = if t (a + 1 + dgs (t a)) = 59 then none else some (a + 1 + dgs (t a)) := by unfold bad1; rw [if_neg h, h2]
theorem bad1_n {t : Nat → Int} {a : Nat} (h : bad1 t a = none) : dgs (t a) ≠ 0 ∧ ffr (nod t) (dgs (t a)) (a + 1) = none ∧ t (a + 1 + dgs (t a)) = 59 := by
  by_cases h0 : dgs (t a) = 0
  · rw [bad1_0 h0] at h; cases h
  · cases hf : ffr (nod t) (dgs (t a)) (a + 1) with
    | some j => rw [bad1_j h0 hf] at h; cases h
    | none =>
      rw [bad1_e h0 hf] at h
      by_cases e : t (a + 1 + dgs (t a)) = 59
      · exact ⟨h0, rfl, e⟩
      · rw [if_neg e] at h; cases h
def badF (t : Nat → Int) (L : Nat) : Nat → Nat → Option Nat
  | 0, _ => none
  | f + 1, a => if L ≤ a then none else (match bad1 t a with
    | some j => some j
    | none => badF t L f (nxs t a))
theorem badF_e {t : Nat → Int} {L f a : Nat} (h : L ≤ a) : badF t L f a = none := by
  cases f with
  | zero => rfl
  | succ f => exact if_pos h
theorem badF_b {t : Nat → Int} {L f a j : Nat} (h : ¬ L ≤ a) (h2 : bad1 t a = some j) : badF t L (f + 1) a = some j := by
  show (if L ≤ a then none else _) = _
  rw [if_neg h, h2]
theorem badF_s {t : Nat → Int} {L f a : Nat} (h : ¬ L ≤ a) (h2 : bad1 t a = none) : badF t L (f + 1) a = badF t L f (nxs t a) := by
  show (if L ≤ a then none else _) = _
  rw [if_neg h, h2]
def enN (s : AS) : Nat → AS
  | 0 => s
  | n + 1 => enN (endD s) n
def usb (s : AS) (c : Nat) : Bool := aX s c && (decide (aP s (aC s c 2) 4 = 0) && aG s c (aD s))
def exe (t : Nat → Int) (s : AS) (a : Nat) : Option AS :=
  if t a = 99 then (if fig t (a + 1) 1 ≤ 5 ∧ fig t (a + 3) 1 ≤ 1 ∧ fig t (a + 4) 2 ≤ 83 ∧ aN s < 12 then some (addC s (fig t (a + 1) 1) (fig t (a + 2) 1) (fig t (a + 3) 1) (fig t (a + 4) 2)) else none)
  else if t a = 100 then (if aD s + fig t (a + 1) 1 ≤ 83 then some (enN s (fig t (a + 1) 1)) else none)
  else if t a = 112 then (if fig t (a + 1) 1 ≤ 1 then some (setP s (fig t (a + 1) 1) 1 (fig t (a + 2) 3)) else none)
  else if t a = 117 then (if fig t (a + 1) 2 < aN s ∧ usb s (fig t (a + 1) 2) = true then some (useC s (fig t (a + 1) 2)) else none)
  else (if fig t (a + 1) 1 ≤ 1 ∧ fig t (a + 2) 1 ≤ 6 then some (setP s (fig t (a + 1) 1) 0 (fig t (a + 2) 1)) else none)
def exF (t : Nat → Int) (L : Nat) : Nat → Nat → AS → AS ⊕ Nat
  | 0, _, s => .inl s
  | f + 1, a, s => if L ≤ a then .inl s else (match exe t s a with
    | none => .inr a
    | some s' => exF t L f (nxs t a) s')
theorem exF_e {t : Nat → Int} {L f a : Nat} {s : AS} (h : L ≤ a) : exF t L f a s = .inl s := by
  cases f with
  | zero => rfl
  | succ f => exact if_pos h
theorem exF_n {t : Nat → Int} {L f a : Nat} {s : AS} (h : ¬ L ≤ a) (h2 : exe t s a = none) : exF t L (f + 1) a s = .inr a := by
  show (if L ≤ a then _ else _) = _
  rw [if_neg h, h2]
theorem exF_s {t : Nat → Int} {L f a : Nat} {s s' : AS} (h : ¬ L ≤ a) (h2 : exe t s a = some s') : exF t L (f + 1) a s = exF t L f (nxs t a) s' := by
  show (if L ≤ a then _ else _) = _
  rw [if_neg h, h2]
def cnF (t : Nat → Int) (L : Nat) : Nat → Nat → Nat
  | 0, _ => 0
  | f + 1, a => if L ≤ a then 0 else cnF t L f (nxs t a) + 1
theorem cnF_e {t : Nat → Int} {L f a : Nat} (h : L ≤ a) : cnF t L f a = 0 := by
  cases f with
  | zero => rfl
  | succ f => exact if_pos h
theorem cnF_s {t : Nat → Int} {L f a : Nat} (h : ¬ L ≤ a) : cnF t L (f + 1) a = cnF t L f (nxs t a) + 1 := if_neg h
theorem cnF_le {t : Nat → Int} {L : Nat} : ∀ f a, cnF t L f a ≤ f
  | 0, _ => Nat.le_refl 0
  | f + 1, a => by
    by_cases h : L ≤ a
    · rw [cnF_e h]; omega
    · rw [cnF_s h]; have := cnF_le (t := t) (L := L) f (nxs t a); omega
theorem dgs_c {x : Int} (h : dgs x ≠ 0) : (x = 99 ∧ dgs x = 5) ∨ (x = 100 ∧ dgs x = 1) ∨ (x = 112 ∧ dgs x = 4) ∨ (x = 117 ∧ dgs x = 2) ∨ (x = 119 ∧ dgs x = 2) := by
  unfold dgs at h ⊢
  by_cases e1 : x = 99
  · subst e1; exact Or.inl ⟨rfl, rfl⟩
  · by_cases e2 : x = 100
    · subst e2; exact Or.inr (Or.inl ⟨rfl, rfl⟩)
    · by_cases e3 : x = 112
      · subst e3; exact Or.inr (Or.inr (Or.inl ⟨rfl, rfl⟩))
      · by_cases e4 : x = 117
        · subst e4; exact Or.inr (Or.inr (Or.inr (Or.inl ⟨rfl, rfl⟩)))
        · by_cases e5 : x = 119
          · subst e5; exact Or.inr (Or.inr (Or.inr (Or.inr ⟨rfl, rfl⟩)))
          · rw [if_neg e1, if_neg e2, if_neg e3, if_neg e4, if_neg e5] at h; exact absurd rfl h
theorem dgs_le (x : Int) : dgs x ≤ 5 := by
  by_cases h : dgs x = 0
  · omega
  · rcases dgs_c h with e | e | e | e | e <;> omega
theorem isd_b {t : Nat → Int} {i n : Nat} (h : ffr (nod t) n i = none) {j : Nat} (h1 : i ≤ j) (h2 : j < i + n) : 48 ≤ t j ∧ t j ≤ 57 := by
  have := ffr_none n i h j h1 h2
  unfold nod isd at this
  simpa using this
theorem fig_lt {t : Nat → Int} {i : Nat} : ∀ n, (∀ j, i ≤ j → j < i + n → 48 ≤ t j ∧ t j ≤ 57) → fig t i n < 10 ^ n
  | 0, _ => Nat.one_pos
  | n + 1, h => by
    have h1 := fig_lt n fun j a b => h j a (by omega)
    have h2 := h (i + n) (by omega) (by omega)
    rw [fig_s, Nat.pow_succ]
    omega
theorem ffr_add {P : Nat → Bool} : ∀ m n i, ffr P (m + n) i = match ffr P m i with
    | some j => some j
    | none => ffr P n (i + m)
  | 0, n, i => by rw [Nat.zero_add]; rfl
  | m + 1, n, i => by
    rw [show m + 1 + n = (m + n) + 1 by omega, ffr_s, ffr_s]
    by_cases h : P i = true
    · rw [if_pos h, if_pos h]
    · rw [if_neg h, if_neg h, ffr_add m n (i + 1), show i + 1 + m = i + (m + 1) by omega]
/-- what a good statement's places hold -/
theorem fig9 {t : Nat → Int} {a i n : Nat} (h : bad1 t a = none) (h1 : a + 1 ≤ i) (h2 : i + n ≤ a + 1 + dgs (t a)) : fig t i n < 10 ^ n := fig_lt n fun j b c => isd_b (bad1_n h).2.1 (by omega) (by omega)
theorem enN_ok : ∀ (n : Nat) {s : AS}, aOK s → aD s + n ≤ 83 → aOK (enN s n)
  | 0, _, h, _ => h
  | n + 1, s, h, h2 => enN_ok n (aOK_endD h (by omega)) (by show aD s + 1 + n ≤ 83; omega)
theorem exe_ok {t : Nat → Int} {s s' : AS} {a : Nat} (ok : aOK s) (hb : bad1 t a = none) (h : exe t s a = some s') : aOK s' := by
  have f9 : ∀ i n, bad1 t a = none → a + 1 ≤ i → i + n ≤ a + 1 + dgs (t a) → fig t i n < 10 ^ n := fun i n h1 h2 h3 => fig9 h1 h2 h3
  unfold exe at h
  rcases dgs_c (bad1_n hb).1 with ⟨e, eg⟩ | ⟨e, eg⟩ | ⟨e, eg⟩ | ⟨e, eg⟩ | ⟨e, eg⟩
  · rw [if_pos e] at h
    have g1 := f9 (a + 2) 1 hb (by omega) (by omega)
    split at h
    · rename_i q
      cases h
      exact addC_ok ok q.2.2.2 q.1 (by omega) (by omega) q.2.2.1
    · cases h
  · rw [if_neg (by omega), if_pos e] at h
    split at h
    · rename_i q
      cases h
      exact enN_ok _ ok q
    · cases h
  · rw [if_neg (by omega), if_neg (by omega), if_pos e] at h
    have g1 := f9 (a + 2) 3 hb (by omega) (by omega)
    split at h
    · cases h
      exact ok.pu (by omega)
    · cases h
  · rw [if_neg (by omega), if_neg (by omega), if_neg (by omega), if_pos e] at h
    split at h
    · rename_i q
      cases h
      refine aOK_use ok q.1 ?_
      have := q.2
      unfold usb aX at this
      rw [Bool.and_eq_true, decide_eq_true_iff] at this
      exact this.1
    · cases h
  · rw [if_neg (by omega), if_neg (by omega), if_neg (by omega), if_neg (by omega)] at h
    split at h
    · rename_i q
      cases h
      exact ok.wd q.2
    · cases h
theorem exF_ok {t : Nat → Int} {L : Nat} : ∀ f a {s s' : AS}, aOK s → badF t L f a = none → exF t L f a s = .inl s' → aOK s'
  | 0, _, s, s', ok, _, h => by cases h; exact ok
  | f + 1, a, s, s', ok, hb, h => by
    by_cases hL : L ≤ a
    · rw [exF_e hL] at h; cases h; exact ok
    · cases h1 : bad1 t a with
      | some j => rw [badF_b hL h1] at hb; cases hb
      | none =>
        rw [badF_s hL h1] at hb
        cases h2 : exe t s a with
        | none => rw [exF_n hL h2] at h; cases h
        | some s1 =>
          rw [exF_s hL h2] at h
          exact exF_ok f (nxs t a) (exe_ok ok h1 h2) hb h
theorem exF_r {t : Nat → Int} {L : Nat} : ∀ f a {s : AS} {x : Nat}, exF t L f a s = .inr x → x < L
  | 0, _, s, x, h => by cases h
  | f + 1, a, s, x, h => by
    by_cases hL : L ≤ a
    · rw [exF_e hL] at h; cases h
    · cases h2 : exe t s a with
      | none => rw [exF_n hL h2] at h; cases h; omega
      | some s1 =>
        rw [exF_s hL h2] at h
        exact exF_r f (nxs t a) h
theorem tl_b {T : Nat → Nat} {L : Nat} (hT : ∀ i, i < L → T i ≤ 255) (i : Nat) : -1 ≤ tl T L i ∧ tl T L i ≤ 255 := by
  unfold tl
  by_cases h : i < L
  · rw [if_pos h]; have := hT i h; omega
  · rw [if_neg h]; omega
theorem tl_L {T : Nat → Nat} {L i : Nat} (h : 0 ≤ tl T L i) : i < L := by
  unfold tl at h
  by_cases q : i < L
  · exact q
  · rw [if_neg q] at h; omega
theorem nxs_L {T : Nat → Nat} {L a : Nat} (h : bad1 (tl T L) a = none) : nxs (tl T L) a ≤ L ∧ a + 3 ≤ nxs (tl T L) a := by
  obtain ⟨h1, -, h3⟩ := bad1_n h
  have := tl_L (T := T) (L := L) (i := a + 1 + dgs (tl T L a)) (by omega)
  unfold nxs
  omega
/-! the class reads letters -/
theorem c_J_letterAt (d : Nat) {i L : Nat} {T : Nat → Nat} {μ : QM} (h : CLet μ L T) (hL : L ≤ 96) (hi : i ≤ 1000) : qcall qprogs (d + 1) 125 [qR (0, 0, 0), qI (zI (i : Nat))] μ = some (some (qI (zI (tl T L i))), μ) := by
  rw [qe_J_letterAt, qb_J_letterAt_0, h.1]
  simp only [zI_of]
  unfold tl
  rw [if_neg (by rw [zI_0, zI_lt (by omega)]; omega)]
  by_cases q : i < L
  · rw [if_neg (by rw [zI_le (by omega)]; omega), if_neg (by rw [zI_le (by omega)]; omega), zI_oob (n := 96) (by omega), cond_false, show qix (zI (i : Nat)) = i from zI_ixN (by omega), h.2 i q, qb_J_letterAt_28, if_pos q]
  · rw [if_pos (by rw [zI_le (by omega)]; omega), qb_J_letterAt_27, qb_J_letterAt_28, if_neg q, zI_of]
theorem c_J_digitsBehind (d : Nat) {x : Int} {μ : QM} (hx : -1 ≤ x ∧ x ≤ 255) : qcall qprogs (d + 1) 124 [qI (zI x)] μ = some (some (qI (zI (dgs x : Nat))), μ) := by
  rw [qe_J_digitsBehind, qb_J_digitsBehind_0]
  simp only [zI_of]
  unfold dgs
  by_cases e1 : x = 99
  · rw [if_pos (by rw [e1]), if_pos e1, qb_J_digitsBehind_56, zI_of]; rfl
  · rw [if_neg (by rw [zI_eq (by omega)]; exact e1), if_neg e1]
    by_cases e2 : x = 100
    · rw [if_pos (by rw [e2]), if_pos e2, qb_J_digitsBehind_60, zI_of]; rfl
    · rw [if_neg (by rw [zI_eq (by omega)]; exact e2), if_neg e2]
      by_cases e3 : x = 112
      · rw [if_pos (by rw [e3]), if_pos e3, qb_J_digitsBehind_54, zI_of]; rfl
      · rw [if_neg (by rw [zI_eq (by omega)]; exact e3), if_neg e3]
        by_cases e4 : x = 117
        · rw [if_pos (by rw [e4]), if_pos e4, qb_J_digitsBehind_58, zI_of]; rfl
        · rw [if_neg (by rw [zI_eq (by omega)]; exact e4), if_neg e4]
          by_cases e5 : x = 119
          · rw [if_pos (by rw [e5]), if_pos e5, qb_J_digitsBehind_52, zI_of]; rfl
          · rw [if_neg (by rw [zI_eq (by omega)]; exact e5), if_neg e5, qb_J_digitsBehind_62, zI_of]; rfl
theorem c_J_isDigit (d : Nat) {x : Int} {μ : QM} (hx : -1 ≤ x ∧ x ≤ 255) : qcall qprogs (d + 1) 126 [qI (zI x)] μ = some (some (qI (qB (isd x))), μ) := by
  rw [qe_J_isDigit, qb_J_isDigit_0]
  simp only [zI_of]
  unfold isd
  by_cases e1 : x < 48
  · rw [if_pos (by rw [zI_lt (by omega)]; exact e1), qb_J_isDigit_16, qb_J_isDigit_17, zI_of, if_pos (Or.inl (by decide +kernel)), decide_eq_false (show ¬ 48 ≤ x by omega)]; rfl
  · rw [if_neg (by rw [zI_lt (by omega)]; exact e1), decide_eq_true (show 48 ≤ x by omega)]
    by_cases e2 : 57 < x
    · rw [if_pos (by rw [zI_lt (by omega)]; exact e2), qb_J_isDigit_16, qb_J_isDigit_17, zI_of, if_pos (Or.inl (by decide +kernel)), decide_eq_false (show ¬ x ≤ 57 by omega)]; rfl
    · rw [if_neg (by rw [zI_lt (by omega)]; exact e2), qb_J_isDigit_17, if_pos (Or.inr (by decide +kernel)), decide_eq_true (show x ≤ 57 by omega)]; rfl
theorem c_J_figureAt (d : Nat) {i n L : Nat} {T : Nat → Nat} {μ : QM} (h : CLet μ L T) (hL : L ≤ 96) (hi : i ≤ 500) (hn : n ≤ 3) (hd : ∀ j, i ≤ j → j < i + n → 48 ≤ tl T L j ∧ tl T L j ≤ 57) : qcall qprogs (d + 2) 127 [qR (0, 0, 0), qI (zI (i : Nat)), qI (zI (n : Nat))] μ = some (some (qI (zI (fig (tl T L) i n : Nat))), μ) := by
  have lp : ∀ r k, k + r = n → qx (d + 1) qc_J_figureAt 5 [some (qR (0, 0, 0)), some (qI (zI (i : Nat))), some (qI (zI (n : Nat))), some (qI (zI (fig (tl T L) i k : Nat))), some (qI (zI (k : Nat)))] [] μ = some (some (qI (zI (fig (tl T L) i n : Nat))), μ) := by
    intro r
    induction r with
    | zero =>
      intro k hk
      rw [qb_J_figureAt_5, if_pos (by rw [zI_le (by omega)]; omega), qb_J_figureAt_34, show k = n by omega]
    | succ r ih =>
      intro k hk
      have i1 := ih (k + 1) (by omega)
      obtain ⟨b1, b2⟩ := hd (i + k) (by omega) (by omega)
      rw [qb_J_figureAt_5, if_neg (by rw [zI_le (by omega)]; omega), zI_addN, c_J_letterAt d h hL (by omega), qbI_some]
      simp only [zI_of]
      rw [zI_mul, zI_add, zI_sub, zI_add, show (10 * ((fig (tl T L) i k : Nat) : Int) + tl T L (i + k) - 48) = ((fig (tl T L) i (k + 1) : Nat) : Int) by rw [fig_s]; omega]
      exact i1
  rw [qe_J_figureAt, qb_J_figureAt_0]
  simp only [zI_of]
  exact lp n 0 (by omega)
theorem c_J_firstMisplaced (d : Nat) {L : Nat} {T : Nat → Nat} {μ : QM} (h : CLet μ L T) (hL : L ≤ 96) (hT : ∀ i, i < L → T i ≤ 255) (h0 : 0 < L) : qcall qprogs (d + 2) 116 [qR (0, 0, 0)] μ = some (some (qI (zI (onI (badF (tl T L) L L 0)))), μ) := by
  have tb := tl_b hT
  have lp : ∀ f a, L ≤ a + f → a ≤ 300 → qx (d + 1) qc_J_firstMisplaced 11 [some (qR (0, 0, 0)), some (qI (zI (a : Nat))), none, none, none] [] μ = some (some (qI (zI (onI (badF (tl T L) L f a)))), μ) := by
    intro f
    induction f with
    | zero =>
      intro a ha ha2
      rw [qb_J_firstMisplaced_11, h.1, if_pos (by rw [zI_le (by omega)]; omega), qb_J_firstMisplaced_91, zI_of]
      rfl
    | succ f ih =>
      intro a ha ha2
      by_cases q : L ≤ a
      · rw [qb_J_firstMisplaced_11, h.1, if_pos (by rw [zI_le (by omega)]; omega), qb_J_firstMisplaced_91, zI_of, badF_e q]
        rfl
      · have dl := dgs_le (tl T L a)
        rw [qb_J_firstMisplaced_11, h.1, if_neg (by rw [zI_le (by omega)]; omega), c_J_letterAt d h hL (by omega), qbI_some, c_J_digitsBehind d (tb a), qbI_some]
        by_cases e0 : dgs (tl T L a) = 0
        · rw [if_pos (by rw [e0]; rfl), badF_b q (bad1_0 e0)]
          rfl
        · rw [if_neg (by rw [zI_0, zI_eq (by omega)]; omega), qb_J_firstMisplaced_34]
          have ld : ∀ r i, i + r = a + 1 + dgs (tl T L a) → a + 1 ≤ i → (∀ j, ffr (nod (tl T L)) r i = some j → ffr (nod (tl T L)) (dgs (tl T L a)) (a + 1) = some j) → (ffr (nod (tl T L)) r i = none → ffr (nod (tl T L)) (dgs (tl T L a)) (a + 1) = none) → qx (d + 1) qc_J_firstMisplaced 45 [some (qR (0, 0, 0)), none, none, some (qI (zI ((a + 1 + dgs (tl T L a) : Nat) : Int))), some (qI (zI (i : Nat)))] [] μ = some (some (qI (zI (onI (badF (tl T L) L (f + 1) a)))), μ) := by
            intro r
            induction r with
            | zero =>
              intro i hi hi2 hs hn
              have hn := hn rfl
              have te := tb (a + 1 + dgs (tl T L a))
              rw [qb_J_firstMisplaced_45, if_pos (by rw [zI_le (by omega)]; omega), qb_J_firstMisplaced_72, c_J_letterAt d h hL (by omega), qbI_some, zI_of]
              by_cases e9 : tl T L (a + 1 + dgs (tl T L a)) = 59
              · rw [if_pos (by rw [e9]), qb_J_firstMisplaced_84, zI_of, zI_add, badF_s q (by rw [bad1_e e0 hn, if_pos e9])]
                have i1 := ih (nxs (tl T L) a) (by unfold nxs; omega) (by unfold nxs; omega)
                rw [show (((a + 1 + dgs (tl T L a) : Nat) : Int) + 1) = ((nxs (tl T L) a : Nat) : Int) by unfold nxs; omega]
                exact i1
              · rw [if_neg (by rw [zI_eq (by omega)]; exact e9), badF_b q (by rw [bad1_e e0 hn, if_neg e9])]
                rfl
            | succ r ih2 =>
              intro i hi hi2 hs hn
              have te := tb i
              rw [qb_J_firstMisplaced_45, if_neg (by rw [zI_le (by omega)]; omega), c_J_letterAt d h hL (by omega), qbI_some, c_J_isDigit d te, qbI_some]
              rw [ffr_s] at hs hn
              cases e9 : isd (tl T L i)
              · have e8 : nod (tl T L) i = true := by unfold nod; rw [e9]; rfl
                rw [if_pos e8] at hs
                rw [if_pos (show qB false = 0 from zI0), badF_b q (bad1_j e0 (hs i rfl))]
                rfl
              · have e8 : ¬ nod (tl T L) i = true := by unfold nod; rw [e9]; decide
                rw [if_neg e8] at hs hn
                rw [if_neg (show ¬ qB true = 0 by decide), qb_J_firstMisplaced_66, zI_of, zI_add]
                exact ih2 (i + 1) (by omega) (by omega) hs hn
          have l1 := ld (dgs (tl T L a)) (a + 1) (by omega) (Nat.le_refl _) (fun j hj => hj) (fun hn => hn)
          simp only [zI_of]
          rw [zI_add, zI_add]
          exact l1
  rw [qe_J_firstMisplaced, qb_J_firstMisplaced_0, h.1, if_neg (by rw [zI_0, zI_eq (by omega)]; omega), qb_J_firstMisplaced_9, zI_of]
  exact lp L 0 (by omega) (by omega)
end
