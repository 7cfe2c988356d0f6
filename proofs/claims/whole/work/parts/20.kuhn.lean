/-! laying out: a search for a day that moves others, heaviest first -/
abbrev KT : Type := Nat → Option Nat
def ku (t : KT) (i c : Nat) : KT := fun j => if j = i then some c else t j
def kcnt (t : KT) (x : Nat) : Nat → Nat
  | 0 => 0
  | n + 1 => kcnt t x n + (if t n = some x then 1 else 0)
theorem kcnt_s (t : KT) (x n : Nat) : kcnt t x (n + 1) = kcnt t x n + (if t n = some x then 1 else 0) := rfl
theorem kcnt_ku (t : KT) (i c x : Nat) : ∀ n, kcnt (ku t i c) x n + (if i < n ∧ t i = some x then 1 else 0) = kcnt t x n + (if i < n ∧ c = x then 1 else 0)
  | 0 => by simp [kcnt]
  | n + 1 => by
    have ih := kcnt_ku t i c x n
    rw [kcnt_s, kcnt_s]
    by_cases h : n = i
    · subst h
      have e : ku t n c n = some c := if_pos rfl
      simp only [Nat.lt_irrefl, false_and, if_false, Nat.add_zero] at ih
      simp only [e, Nat.lt_succ_self, true_and, ih, Option.some.injEq]
      omega
    · have e : i < n + 1 ↔ i < n := by omega
      have e2 : ku t i c n = t n := if_neg h
      simp only [e2, e]
      omega
/-- how many days are not seen -/
def kun (s : Nat) : Nat → Nat
  | 0 => 0
  | n + 1 => kun s n + (if s.testBit n = true then 0 else 1)
theorem bit_set (s i j : Nat) : (s ||| 2 ^ i).testBit j = (s.testBit j || decide (i = j)) := by
  rw [Nat.testBit_or, Nat.testBit_two_pow]
theorem kun_set {s i : Nat} (hs : s.testBit i = false) : ∀ n, kun (s ||| 2 ^ i) n + (if i < n then 1 else 0) = kun s n
  | 0 => by simp [kun]
  | n + 1 => by
    have ih := kun_set hs n
    unfold kun
    rw [bit_set]
    by_cases h : i = n
    · subst h
      simp only [Nat.lt_irrefl, if_false, Nat.add_zero] at ih
      simp [hs, ih]
    · have e : i < n + 1 ↔ i < n := by omega
      simp only [h, decide_false, Bool.or_false, e]
      omega
theorem kun_mono {s s' : Nat} (h : ∀ i, s.testBit i = true → s'.testBit i = true) : ∀ n, kun s' n ≤ kun s n
  | 0 => Nat.le_refl 0
  | n + 1 => by
    have ih := kun_mono h n
    unfold kun
    by_cases h1 : s.testBit n = true
    · rw [if_pos h1, if_pos (h n h1)]; omega
    · rw [if_neg h1]; split <;> omega
def kl (g : Nat → Nat → Bool) (rec : KT → Nat → Nat → Bool × KT × Nat) (c : Nat) : Nat → Nat → KT → Nat → Bool × KT × Nat
  | 0, _, t, s => (false, t, s)
  | r + 1, i, t, s =>
    if g c i = false ∨ s.testBit i = true then kl g rec c r (i + 1) t s else
      match t i with
      | none => (true, ku t i c, s ||| 2 ^ i)
      | some c' => if (rec t (s ||| 2 ^ i) c').1 = true then (true, ku (rec t (s ||| 2 ^ i) c').2.1 i c, (rec t (s ||| 2 ^ i) c').2.2)
        else kl g rec c r (i + 1) (rec t (s ||| 2 ^ i) c').2.1 (rec t (s ||| 2 ^ i) c').2.2
def kd (g : Nat → Nat → Bool) (n : Nat) : Nat → KT → Nat → Nat → Bool × KT × Nat
  | 0 => fun t s _ => (false, t, s)
  | e + 1 => fun t s c => kl g (kd g n e) c n 0 t s
/-- what a search that fails says, what one that finds -/
def kNo (g : Nat → Nat → Bool) (n lo c : Nat) (t : KT) (s : Nat) (t' : KT) (s' : Nat) : Prop :=
  t' = t ∧ (∀ j, lo ≤ j → j < n → g c j = true → s'.testBit j = true) ∧ ∀ i, i < n → s'.testBit i = true → s.testBit i = false → ∃ x, t i = some x ∧ ∀ j, j < n → g x j = true → s'.testBit j = true
def kYes (g : Nat → Nat → Bool) (n c : Nat) (t : KT) (s : Nat) (t' : KT) (s' : Nat) : Prop :=
  (∀ i, t' i ≠ t i → i < n ∧ s'.testBit i = true ∧ s.testBit i = false) ∧ (∀ i x, t' i = some x → t i = some x ∨ (g x i = true ∧ i < n)) ∧ ∀ x, kcnt t' x n = kcnt t x n + (if c = x then 1 else 0)
def kOk (g : Nat → Nat → Bool) (n lo c : Nat) (t : KT) (s : Nat) (r : Bool × KT × Nat) : Prop :=
  (∀ i, s.testBit i = true → r.2.2.testBit i = true) ∧ (r.1 = false → kNo g n lo c t s r.2.1 r.2.2) ∧ (r.1 = true → kYes g n c t s r.2.1 r.2.2)
theorem kl_ok {g : Nat → Nat → Bool} {n c e : Nat} {rec : KT → Nat → Nat → Bool × KT × Nat} (hrec : ∀ t s c, kun s n < e → kOk g n 0 c t s (rec t s c)) :
    ∀ (r i : Nat) (t : KT) (s : Nat), i + r = n → kun s n < e + 1 → kOk g n i c t s (kl g rec c r i t s)
  | 0, i, t, s, hi, hs => by
    refine ⟨fun _ h => h, fun _ => ⟨rfl, fun j h1 h2 => absurd h2 (by omega), fun i _ h1 h2 => ?_⟩, fun h => by cases h⟩
    rw [show s.testBit _ = true from h1] at h2
    cases h2
  | r + 1, i, t, s, hi, hs => by
    unfold kl
    by_cases h0 : g c i = false ∨ s.testBit i = true
    · rw [if_pos h0]
      obtain ⟨h1, h2, h3⟩ := kl_ok (c := c) hrec r (i + 1) t s (by omega) hs
      refine ⟨h1, fun hf => ?_, h3⟩
      obtain ⟨k1, k2, k3⟩ := h2 hf
      refine ⟨k1, fun j hj hj2 hg => ?_, k3⟩
      by_cases e1 : j = i
      · subst e1
        rcases h0 with h0 | h0
        · rw [hg] at h0; cases h0
        · exact h1 _ h0
      · exact k2 j (by omega) hj2 hg
    · rw [if_neg h0]
      have hg : g c i = true := by
        cases hq : g c i
        · exact absurd (Or.inl hq) h0
        · rfl
      have hsi : s.testBit i = false := by
        cases hq : s.testBit i
        · rfl
        · exact absurd (Or.inr hq) h0
      have hin : i < n := by omega
      have hss : ∀ j, s.testBit j = true → (s ||| 2 ^ i).testBit j = true := fun j h => by rw [bit_set, h]; rfl
      have hsi2 : (s ||| 2 ^ i).testBit i = true := by rw [bit_set]; simp
      have hun := kun_set hsi n
      rw [if_pos hin] at hun
      cases ht : t i with
      | none =>
        refine ⟨hss, fun hf => (by cases hf), fun _ => ⟨fun j hj => ?_, fun j x hx => ?_, fun x => ?_⟩⟩
        · by_cases e1 : j = i
          · subst e1; exact ⟨hin, hsi2, hsi⟩
          · exact absurd (if_neg e1) hj
        · by_cases e1 : j = i
          · subst e1
            have : some c = some x := by rw [← hx]; exact (if_pos rfl).symm
            cases this
            exact Or.inr ⟨hg, hin⟩
          · exact Or.inl (by rw [← hx]; exact (if_neg e1).symm)
        · have := kcnt_ku t i c x n
          simp only [ht, hin, true_and] at this
          simpa using this
      | some c' =>
        dsimp only
        obtain ⟨q1, q2, q3⟩ := hrec t (s ||| 2 ^ i) c' (by omega)
        generalize rec t (s ||| 2 ^ i) c' = R at q1 q2 q3 ⊢
        obtain ⟨b, t1, s1⟩ := R
        dsimp only at q1 q2 q3 ⊢
        cases b with
        | true =>
          obtain ⟨y1, y2, y3⟩ := q3 rfl
          rw [if_pos rfl]
          have ht1 : t1 i = t i := by
            by_cases e1 : t1 i = t i
            · exact e1
            · have := (y1 i e1).2.2
              rw [hsi2] at this
              cases this
          refine ⟨fun j h => q1 j (hss j h), fun hf => (by cases hf), fun _ => ⟨fun j hj => ?_, fun j x hx => ?_, fun x => ?_⟩⟩
          · by_cases e1 : j = i
            · subst e1; exact ⟨hin, q1 _ hsi2, hsi⟩
            · have h5 : t1 j ≠ t j := fun z => hj (by show (if j = i then some c else t1 j) = t j; rw [if_neg e1]; exact z)
              obtain ⟨a1, a2, a3⟩ := y1 j h5
              refine ⟨a1, a2, ?_⟩
              rw [bit_set, Bool.or_eq_false_iff] at a3
              exact a3.1
          · by_cases e1 : j = i
            · subst e1
              have : some c = some x := by rw [← hx]; exact (if_pos rfl).symm
              cases this
              exact Or.inr ⟨hg, hin⟩
            · exact y2 j x (by rw [← hx]; exact (if_neg e1).symm)
          · have h6 := kcnt_ku t1 i c x n
            have h7 := y3 x
            simp only [ht1, ht, hin, true_and, Option.some.injEq] at h6
            show kcnt (ku t1 i c) x n = _
            omega
        | false =>
          obtain ⟨n1, n2, n3⟩ := q2 rfl
          subst n1
          rw [if_neg (by decide)]
          have hm := kun_mono q1 n
          obtain ⟨h1, h2, h3⟩ := kl_ok (c := c) hrec r (i + 1) t1 s1 (by omega) (by omega)
          refine ⟨fun j h => h1 j (q1 j (hss j h)), fun hf => ?_, fun hy => ?_⟩
          · obtain ⟨k1, k2, k3⟩ := h2 hf
            refine ⟨k1, fun j hj hj2 hgj => ?_, fun j hj hj2 hj3 => ?_⟩
            · by_cases e1 : j = i
              · subst e1; exact h1 _ (q1 _ hsi2)
              · exact k2 j (by omega) hj2 hgj
            · by_cases e1 : s1.testBit j = true
              · by_cases e2 : j = i
                · subst e2
                  exact ⟨c', ht, fun j hj hg => h1 j (n2 j (Nat.zero_le _) hj hg)⟩
                · have e3 : (s ||| 2 ^ i).testBit j = false := by
                    rw [bit_set, hj3]
                    simp
                    omega
                  obtain ⟨x, x1, x2⟩ := n3 j hj e1 e3
                  exact ⟨x, x1, fun j hj hg => h1 j (x2 j hj hg)⟩
              · exact k3 j hj hj2 (by simpa using e1)
          · obtain ⟨y1, y2, y3⟩ := h3 hy
            refine ⟨fun j hj => ?_, y2, y3⟩
            obtain ⟨a1, a2, a3⟩ := y1 j hj
            refine ⟨a1, a2, ?_⟩
            cases hq : s.testBit j
            · rfl
            · rw [q1 j (hss j hq)] at a3; cases a3
theorem kd_ok {g : Nat → Nat → Bool} {n : Nat} : ∀ (e : Nat) (t : KT) (s c : Nat), kun s n < e → kOk g n 0 c t s (kd g n e t s c)
  | 0, _, _, _, h => absurd h (by omega)
  | e + 1, t, s, c, h => kl_ok (kd_ok e) n 0 t s (by omega) h
/-- a set of days that is all taken, by causes that are good for its days alone -/
def kShut (g : Nat → Nat → Bool) (n s0 : Nat) (t : KT) (D : Nat → Bool) : Prop := ∀ i, D i = true → i < n ∧ ∃ x, t i = some x ∧ ∀ j, j < n → g x j = true → D j = true ∨ s0.testBit j = true
theorem kl_shut {g : Nat → Nat → Bool} {n s0 c : Nat} {rec : KT → Nat → Nat → Bool × KT × Nat} {D : Nat → Bool}
    (hseen : ∀ t s c, ∀ i, s.testBit i = true → (rec t s c).2.2.testBit i = true)
    (hno : ∀ t s c, (rec t s c).1 = false → (rec t s c).2.1 = t)
    (hrec : ∀ t s c, kShut g n s0 t D → (∀ j, s0.testBit j = true → s.testBit j = true) → (∀ j, j < n → g c j = true → D j = true ∨ s0.testBit j = true) → (rec t s c).1 = false) :
    ∀ (r i : Nat) (t : KT) (s : Nat), i + r = n → kShut g n s0 t D → (∀ j, s0.testBit j = true → s.testBit j = true) → (∀ j, j < n → g c j = true → D j = true ∨ s0.testBit j = true) → (kl g rec c r i t s).1 = false
  | 0, i, t, s, _, _, _, _ => rfl
  | r + 1, i, t, s, hi, hD, hs, hc => by
    unfold kl
    by_cases h0 : g c i = false ∨ s.testBit i = true
    · rw [if_pos h0]
      exact kl_shut hseen hno hrec r (i + 1) t s (by omega) hD hs hc
    · rw [if_neg h0]
      have hg : g c i = true := by
        cases hq : g c i
        · exact absurd (Or.inl hq) h0
        · rfl
      have hsi : s.testBit i = false := by
        cases hq : s.testBit i
        · rfl
        · exact absurd (Or.inr hq) h0
      rcases hc i (by omega) hg with h1 | h1
      · obtain ⟨-, x, hx, hx2⟩ := hD i h1
        rw [hx]
        dsimp only
        have hss : ∀ j, s0.testBit j = true → (s ||| 2 ^ i).testBit j = true := fun j h => by rw [bit_set, hs j h]; rfl
        have hf := hrec t (s ||| 2 ^ i) x hD hss hx2
        rw [if_neg (by rw [hf]; decide), hno _ _ _ hf]
        exact kl_shut hseen hno hrec r (i + 1) t _ (by omega) hD (fun j h => hseen _ _ _ j (hss j h)) hc
      · rw [hs i h1] at hsi
        cases hsi
theorem kl_seen {g : Nat → Nat → Bool} {c : Nat} {rec : KT → Nat → Nat → Bool × KT × Nat} (hseen : ∀ t s c, ∀ i, s.testBit i = true → (rec t s c).2.2.testBit i = true) :
    ∀ (r i : Nat) (t : KT) (s : Nat) (j : Nat), s.testBit j = true → (kl g rec c r i t s).2.2.testBit j = true
  | 0, _, _, _, _, h => h
  | r + 1, i, t, s, j, h => by
    unfold kl
    have hss : (s ||| 2 ^ i).testBit j = true := by rw [bit_set, h]; rfl
    split
    · exact kl_seen hseen r _ t s j h
    · split
      · exact hss
      · split
        · exact hseen _ _ _ j hss
        · exact kl_seen hseen r _ _ _ j (hseen _ _ _ j hss)
theorem kl_no {g : Nat → Nat → Bool} {c : Nat} {rec : KT → Nat → Nat → Bool × KT × Nat} (hno : ∀ t s c, (rec t s c).1 = false → (rec t s c).2.1 = t) :
    ∀ (r i : Nat) (t : KT) (s : Nat), (kl g rec c r i t s).1 = false → (kl g rec c r i t s).2.1 = t
  | 0, _, _, _, _ => rfl
  | r + 1, i, t, s, h => by
    unfold kl at h ⊢
    split at h
    · rename_i h0
      rw [if_pos h0]
      exact kl_no hno r _ t s h
    · rename_i h0
      rw [if_neg h0]
      split at h
      · cases h
      · rename_i x hx
        split at h
        · cases h
        · rename_i h1
          have h2 : (rec t (s ||| 2 ^ i) x).1 = false := by simpa using h1
          rw [if_neg h1]
          rw [hno _ _ _ h2] at h ⊢
          exact kl_no hno r _ t _ h
theorem kd_seen {g : Nat → Nat → Bool} {n : Nat} : ∀ (e : Nat) (t : KT) (s c i : Nat), s.testBit i = true → (kd g n e t s c).2.2.testBit i = true
  | 0, _, _, _, _, h => h
  | e + 1, t, s, c, i, h => kl_seen (kd_seen e) n 0 t s i h
theorem kd_no {g : Nat → Nat → Bool} {n : Nat} : ∀ (e : Nat) (t : KT) (s c : Nat), (kd g n e t s c).1 = false → (kd g n e t s c).2.1 = t
  | 0, _, _, _, _ => rfl
  | e + 1, t, s, c, h => kl_no (kd_no e) n 0 t s h
theorem kd_shut {g : Nat → Nat → Bool} {n s0 : Nat} {D : Nat → Bool} : ∀ (e : Nat) (t : KT) (s c : Nat), kShut g n s0 t D → (∀ j, s0.testBit j = true → s.testBit j = true) → (∀ j, j < n → g c j = true → D j = true ∨ s0.testBit j = true) → (kd g n e t s c).1 = false
  | 0, _, _, _, _, _, _ => rfl
  | e + 1, t, s, c, h1, h2, h3 => kl_shut (kd_seen e) (kd_no e) (kd_shut e) n 0 t s (by omega) h1 h2 h3
theorem kl_keep {g : Nat → Nat → Bool} {n s0 c : Nat} {rec : KT → Nat → Nat → Bool × KT × Nat} {D : Nat → Bool}
    (hseen : ∀ t s c, ∀ i, s.testBit i = true → (rec t s c).2.2.testBit i = true)
    (hno : ∀ t s c, (rec t s c).1 = false → (rec t s c).2.1 = t)
    (hrec : ∀ t s c, kShut g n s0 t D → (∀ j, s0.testBit j = true → s.testBit j = true) → (∀ j, j < n → g c j = true → D j = true ∨ s0.testBit j = true) → (rec t s c).1 = false)
    (hkeep : ∀ t s c, kShut g n s0 t D → (∀ j, s0.testBit j = true → s.testBit j = true) → ∀ i, D i = true → (rec t s c).2.1 i = t i) :
    ∀ (r i : Nat) (t : KT) (s : Nat), kShut g n s0 t D → (∀ j, s0.testBit j = true → s.testBit j = true) → ∀ k, D k = true → (kl g rec c r i t s).2.1 k = t k
  | 0, i, t, s, _, _, _, _ => rfl
  | r + 1, i, t, s, hD, hs, k, hk => by
    unfold kl
    have hss : ∀ j, s0.testBit j = true → (s ||| 2 ^ i).testBit j = true := fun j h => by rw [bit_set, hs j h]; rfl
    by_cases h0 : g c i = false ∨ s.testBit i = true
    · rw [if_pos h0]
      exact kl_keep hseen hno hrec hkeep r (i + 1) t s hD hs k hk
    · rw [if_neg h0]
      cases ht : t i with
      | none =>
        dsimp only
        refine if_neg fun e => ?_
        obtain ⟨-, x, hx, -⟩ := hD k hk
        rw [e, ht] at hx
        cases hx
      | some x =>
        dsimp only
        by_cases h1 : (rec t (s ||| 2 ^ i) x).1 = true
        · rw [if_pos h1]
          show (if k = i then some c else (rec t (s ||| 2 ^ i) x).2.1 k) = t k
          by_cases e : k = i
          · subst e
            obtain ⟨-, y, hy, hy2⟩ := hD k hk
            rw [ht] at hy
            cases hy
            rw [hrec t _ x hD hss hy2] at h1
            cases h1
          · rw [if_neg e]
            exact hkeep _ _ _ hD hss k hk
        · rw [if_neg h1]
          have h2 : (rec t (s ||| 2 ^ i) x).1 = false := by simpa using h1
          rw [hno _ _ _ h2]
          exact kl_keep hseen hno hrec hkeep r (i + 1) t _ hD (fun j h => hseen _ _ _ j (hss j h)) k hk
theorem kd_keep {g : Nat → Nat → Bool} {n s0 : Nat} {D : Nat → Bool} : ∀ (e : Nat) (t : KT) (s c : Nat), kShut g n s0 t D → (∀ j, s0.testBit j = true → s.testBit j = true) → ∀ i, D i = true → (kd g n e t s c).2.1 i = t i
  | 0, _, _, _, _, _, _, _ => rfl
  | e + 1, t, s, c, h1, h2, i, hi => kl_keep (kd_seen e) (kd_no e) (kd_shut e) (kd_keep e) n 0 t s h1 h2 i hi
