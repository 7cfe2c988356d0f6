section
/-! in how many ways days have causes, each once: by days, by causes -/
def sm (f : Nat → Nat) : Nat → Nat
  | 0 => 0
  | n + 1 => sm f n + f n
theorem sm_s (f : Nat → Nat) (n : Nat) : sm f (n + 1) = sm f n + f n := rfl
theorem sm_congr {f g : Nat → Nat} : ∀ n, (∀ i, i < n → f i = g i) → sm f n = sm g n
  | 0, _ => rfl
  | n + 1, h => by rw [sm_s, sm_s, sm_congr n (fun i hi => h i (by omega)), h n (by omega)]
theorem sm_zero {f : Nat → Nat} : ∀ n, (∀ i, i < n → f i = 0) → sm f n = 0
  | 0, _ => rfl
  | n + 1, h => by rw [sm_s, sm_zero n (fun i hi => h i (by omega)), h n (by omega)]
theorem sm_add (f g : Nat → Nat) : ∀ n, sm (fun i => f i + g i) n = sm f n + sm g n
  | 0 => rfl
  | n + 1 => by rw [sm_s, sm_s, sm_s, sm_add f g n]; omega
theorem sm_swap (f : Nat → Nat → Nat) (m : Nat) : ∀ n, sm (fun i => sm (fun j => f i j) m) n = sm (fun j => sm (fun i => f i j) n) m
  | 0 => (sm_zero m (fun _ _ => rfl)).symm
  | n + 1 => by
    rw [sm_s, sm_swap f m n, ← sm_add]
    rfl
theorem sm_point {f : Nat → Nat} {a : Nat} : ∀ n, a < n → sm f n = f a + sm (fun i => if i = a then 0 else f i) n
  | 0, h => absurd h (by omega)
  | n + 1, h => by
    rw [sm_s, sm_s]
    by_cases e : a = n
    · subst e
      rw [if_pos rfl, sm_congr (f := fun i => if i = a then 0 else f i) (g := f) a (fun i hi => if_neg (by omega))]
      omega
    · rw [if_neg (fun z => e z.symm), sm_point (a := a) n (by omega)]
      omega
theorem sm_if {c : Bool} {f : Nat → Nat} {n : Nat} : (if c = true then sm f n else 0) = sm (fun i => if c = true then f i else 0) n := by
  cases c
  · rw [if_neg (by decide), sm_zero n (fun _ _ => if_neg (by decide))]
  · rw [if_pos rfl]; exact sm_congr n (fun _ _ => (if_pos rfl).symm)
theorem sm_upd {v w : Nat → Nat} {a x : Nat} : ∀ n, a < n → sm (fun i => (if i = a then v i + x else v i) * w i) n = sm (fun i => v i * w i) n + x * w a
  | 0, h => absurd h (by omega)
  | n + 1, h => by
    rw [sm_s, sm_s]
    by_cases e : a = n
    · subst e
      rw [if_pos rfl, sm_congr (f := fun i => (if i = a then v i + x else v i) * w i) (g := fun i => v i * w i) a (fun i hi => by rw [if_neg (by omega)]), Nat.add_mul]
      omega
    · rw [if_neg (fun z => e z.symm), sm_upd n (by omega)]
      omega
theorem sm_le {f g : Nat → Nat} : ∀ n, (∀ i, i < n → f i ≤ g i) → sm f n ≤ sm g n
  | 0, _ => Nat.le_refl 0
  | n + 1, h => Nat.add_le_add (sm_le n fun i hi => h i (by omega)) (h n (by omega))
theorem sm_const (x : Nat) : ∀ n, sm (fun _ => x) n = n * x
  | 0 => (Nat.zero_mul x).symm
  | n + 1 => by rw [sm_s, sm_const x n, Nat.add_mul, Nat.one_mul]
def rmB (A : Nat → Bool) (a : Nat) : Nat → Bool := fun x => A x && !decide (x = a)
theorem rmB_comm (A : Nat → Bool) (a b : Nat) : rmB (rmB A a) b = rmB (rmB A b) a := by
  funext x
  unfold rmB
  cases A x <;> cases decide (x = a) <;> cases decide (x = b) <;> rfl
theorem rmB_ne {A : Nat → Bool} {a x : Nat} (h : x ≠ a) : rmB A a x = A x := by unfold rmB; rw [decide_eq_false h]; simp
theorem rmB_self {A : Nat → Bool} {a : Nat} : rmB A a a = false := by unfold rmB; rw [decide_eq_true rfl]; simp
/-- in how many ways the days of S below k can have causes of A -/
def pmn (g : Nat → Nat → Bool) : Nat → (Nat → Bool) → (Nat → Bool) → Nat
  | 0, _, _ => 1
  | k + 1, S, A => if S k = true then sm (fun c => if (A c && g k c) = true then pmn g k S (rmB A c) else 0) 12 else pmn g k S A
theorem pmn_t {g : Nat → Nat → Bool} {k : Nat} {S A : Nat → Bool} (h : S k = true) : pmn g (k + 1) S A = sm (fun c => if (A c && g k c) = true then pmn g k S (rmB A c) else 0) 12 := if_pos h
theorem pmn_f {g : Nat → Nat → Bool} {k : Nat} {S A : Nat → Bool} (h : S k = false) : pmn g (k + 1) S A = pmn g k S A := if_neg (by rw [h]; decide)
theorem pmn_cong {g : Nat → Nat → Bool} : ∀ (k : Nat) (S S' A : Nat → Bool), (∀ i, i < k → S i = S' i) → pmn g k S A = pmn g k S' A
  | 0, _, _, _, _ => rfl
  | k + 1, S, S', A, h => by
    cases hs : S k
    · rw [pmn_f hs, pmn_f (by rw [← h k (by omega)]; exact hs)]
      exact pmn_cong k S S' A fun i hi => h i (by omega)
    · rw [pmn_t hs, pmn_t (by rw [← h k (by omega)]; exact hs)]
      exact sm_congr 12 fun c _ => by rw [pmn_cong k S S' (rmB A c) fun i hi => h i (by omega)]
theorem pmn_row {g : Nat → Nat → Bool} {i : Nat} : ∀ (k : Nat) (S A : Nat → Bool), i < k → S i = true → pmn g k S A = sm (fun c => if (A c && g i c) = true then pmn g k (rmB S i) (rmB A c) else 0) 12
  | 0, _, _, h, _ => absurd h (by omega)
  | k + 1, S, A, h, hS => by
    by_cases e : i = k
    · subst e
      rw [pmn_t hS]
      exact sm_congr 12 fun c _ => by rw [pmn_f (S := rmB S i) rmB_self, pmn_cong i S (rmB S i) _ fun j hj => (rmB_ne (by omega)).symm]
    · cases hk : S k
      · rw [pmn_f hk, pmn_row k S A (by omega) hS]
        exact sm_congr 12 fun c _ => by rw [pmn_f (S := rmB S i) (by rw [rmB_ne (by omega)]; exact hk)]
      · rw [pmn_t hk]
        have e1 : sm (fun c => if (A c && g k c) = true then pmn g k S (rmB A c) else 0) 12 = sm (fun c => sm (fun b => if (A c && g k c) = true then (if (rmB A c b && g i b) = true then pmn g k (rmB S i) (rmB (rmB A c) b) else 0) else 0) 12) 12 :=
          sm_congr 12 fun c _ => by rw [← sm_if, ← pmn_row k S (rmB A c) (by omega) hS]
        have e2 : sm (fun b => if (A b && g i b) = true then pmn g (k + 1) (rmB S i) (rmB A b) else 0) 12 = sm (fun b => sm (fun c => if (A b && g i b) = true then (if (rmB A b c && g k c) = true then pmn g k (rmB S i) (rmB (rmB A b) c) else 0) else 0) 12) 12 :=
          sm_congr 12 fun b _ => by rw [← sm_if, ← pmn_t (by rw [rmB_ne (by omega)]; exact hk)]
        rw [e1, e2, sm_swap]
        refine sm_congr 12 fun b _ => sm_congr 12 fun c _ => ?_
        rw [rmB_comm A c b]
        unfold rmB
        by_cases q : b = c
        · subst q
          simp
        · have q' : ¬ c = b := fun z => q z.symm
          rw [decide_eq_false q, decide_eq_false q']
          cases A c <;> cases A b <;> cases g k c <;> cases g i b <;> rfl
theorem pmn_col {g : Nat → Nat → Bool} {a : Nat} (ha : a < 12) : ∀ (k : Nat) (S A : Nat → Bool), A a = true → pmn g k S A = pmn g k S (rmB A a) + sm (fun i => if (S i && g i a) = true then pmn g k (rmB S i) (rmB A a) else 0) k
  | 0, _, _, _ => rfl
  | k + 1, S, A, hA => by
    cases hk : S k
    · rw [pmn_f hk, pmn_f hk, sm_s, hk, pmn_col ha k S A hA]
      rw [sm_congr (f := fun i => if (S i && g i a) = true then pmn g (k + 1) (rmB S i) (rmB A a) else 0) (g := fun i => if (S i && g i a) = true then pmn g k (rmB S i) (rmB A a) else 0) k fun i hi => by rw [pmn_f (S := rmB S i) (by rw [rmB_ne (by omega)]; exact hk)]]
      simp
    · rw [pmn_t hk, pmn_t hk, sm_s (fun i => if (S i && g i a) = true then pmn g (k + 1) (rmB S i) (rmB A a) else 0) k, hk]
      rw [sm_point (f := fun c => if (A c && g k c) = true then pmn g k S (rmB A c) else 0) 12 ha, hA]
      have e0 : pmn g (k + 1) (rmB S k) (rmB A a) = pmn g k S (rmB A a) := by
        rw [pmn_f (S := rmB S k) rmB_self]
        exact pmn_cong k (rmB S k) S _ fun j hj => rmB_ne (by omega)
      rw [e0]
      have e1 : sm (fun c => if c = a then 0 else if (A c && g k c) = true then pmn g k S (rmB A c) else 0) 12 = sm (fun c => if (rmB A a c && g k c) = true then pmn g k S (rmB (rmB A a) c) else 0) 12 + sm (fun i => if (S i && g i a) = true then pmn g (k + 1) (rmB S i) (rmB A a) else 0) k := by
        have e2 : sm (fun i => if (S i && g i a) = true then pmn g (k + 1) (rmB S i) (rmB A a) else 0) k = sm (fun i => sm (fun c => if (S i && g i a) = true then (if (rmB A a c && g k c) = true then pmn g k (rmB S i) (rmB (rmB A a) c) else 0) else 0) 12) k :=
          sm_congr k fun i hi => by rw [← sm_if, ← pmn_t (S := rmB S i) (by rw [rmB_ne (by omega)]; exact hk)]
        rw [e2, sm_swap, ← sm_add]
        refine sm_congr 12 fun c _ => ?_
        by_cases q : c = a
        · subst q
          rw [if_pos rfl, rmB_self]
          symm
          rw [if_neg (by simp), Nat.zero_add]
          exact sm_zero k fun i _ => by simp
        · rw [if_neg q, rmB_ne q]
          by_cases w : (A c && g k c) = true
          · rw [if_pos w, if_pos w, pmn_col ha k S (rmB A c) (by rw [rmB_ne (fun z => q z.symm)]; exact hA), rmB_comm A c a]
            congr 1
            exact sm_congr k fun i _ => by rw [if_pos w]
          · rw [if_neg w, if_neg w]
            symm
            rw [Nat.zero_add]
            exact sm_zero k fun i _ => by rw [if_neg w]; simp
      rw [e1]
      cases g k a <;> simp <;> omega
theorem pmn_none {g : Nat → Nat → Bool} {A : Nat → Bool} : ∀ (k : Nat) (S : Nat → Bool), (∀ i, i < k → S i = false) → pmn g k S A = 1
  | 0, _, _ => rfl
  | k + 1, S, h => by rw [pmn_f (h k (by omega)), pmn_none k S fun i hi => h i (by omega)]
theorem pmn_out {g : Nat → Nat → Bool} {A : Nat → Bool} (hA : ∀ c, c < 12 → A c = false) : ∀ (k : Nat) (S : Nat → Bool), (∃ i, i < k ∧ S i = true) → pmn g k S A = 0
  | 0, _, h => by obtain ⟨i, hi, _⟩ := h; omega
  | k + 1, S, h => by
    cases hk : S k
    · rw [pmn_f hk]
      obtain ⟨i, hi, hi2⟩ := h
      exact pmn_out hA k S ⟨i, by
        by_cases e : i = k
        · subst e; rw [hk] at hi2; cases hi2
        · omega, hi2⟩
    · rw [pmn_t hk]
      exact sm_zero 12 fun c hc => by rw [hA c hc, if_neg (by simp)]
theorem pmn_le {g : Nat → Nat → Bool} : ∀ (k : Nat) (S A : Nat → Bool), pmn g k S A ≤ 12 ^ k
  | 0, _, _ => Nat.le_refl 1
  | k + 1, S, A => by
    have p : 12 ^ (k + 1) = 12 * 12 ^ k := by rw [Nat.pow_succ, Nat.mul_comm]
    cases hk : S k
    · rw [pmn_f hk]
      have := pmn_le (g := g) k S A
      omega
    · rw [pmn_t hk, p, ← sm_const]
      exact sm_le 12 fun c _ => by
        show (if _ then _ else _) ≤ _
        split
        · exact pmn_le k S _
        · omega
/-! by causes: what is left for the causes from c on -/
def mW (g : Nat → Nat → Bool) (m B c T : Nat) : Nat := pmn g m (fun i => !T.testBit i) (fun x => B.testBit x && decide (c ≤ x))
theorem or_rmB (T i : Nat) : (fun j => !(T ||| 2 ^ i).testBit j) = rmB (fun j => !T.testBit j) i := by
  funext j
  unfold rmB
  rw [Nat.testBit_or, Nat.testBit_two_pow]
  by_cases e : i = j
  · subst e; simp
  · rw [decide_eq_false e, decide_eq_false (fun z => e z.symm)]; simp
theorem mW_t {g : Nat → Nat → Bool} {m B c T : Nat} (hc : c < 12) (h : B.testBit c = true) : mW g m B c T = mW g m B (c + 1) T + sm (fun i => if (!T.testBit i && g i c) = true then mW g m B (c + 1) (T ||| 2 ^ i) else 0) m := by
  have e : rmB (fun x => B.testBit x && decide (c ≤ x)) c = fun x => B.testBit x && decide (c + 1 ≤ x) := by
    funext x
    show ((B.testBit x && decide (c ≤ x)) && !decide (x = c)) = (B.testBit x && decide (c + 1 ≤ x))
    by_cases e : x = c
    · subst e; simp
    · rw [decide_eq_false e]
      by_cases q : c ≤ x
      · rw [decide_eq_true q, decide_eq_true (show c + 1 ≤ x by omega)]; simp
      · rw [decide_eq_false q, decide_eq_false (show ¬ c + 1 ≤ x by omega)]; simp
  unfold mW
  rw [pmn_col hc m _ _ (by rw [h]; simp), e]
  congr 1
  exact sm_congr m fun i _ => by rw [or_rmB]
theorem mW_f {g : Nat → Nat → Bool} {m B c T : Nat} (h : B.testBit c = false) : mW g m B c T = mW g m B (c + 1) T := by
  unfold mW
  congr 1
  funext x
  by_cases e : x = c
  · subst e; rw [h]; simp
  · by_cases q : c ≤ x
    · rw [decide_eq_true q, decide_eq_true (show c + 1 ≤ x by omega)]
    · rw [decide_eq_false q, decide_eq_false (show ¬ c + 1 ≤ x by omega)]
theorem mW_end {g : Nat → Nat → Bool} {m B T : Nat} (hT : T < 2 ^ m) : mW g m B 12 T = if T = 2 ^ m - 1 then 1 else 0 := by
  unfold mW
  by_cases e : T = 2 ^ m - 1
  · rw [if_pos e]
    exact pmn_none m _ fun i hi => by rw [e, Nat.testBit_two_pow_sub_one, decide_eq_true hi]; rfl
  · rw [if_neg e]
    refine pmn_out (fun c hc => by rw [decide_eq_false (by omega)]; simp) m _ ?_
    apply Classical.byContradiction
    intro hn
    apply e
    apply Nat.eq_of_testBit_eq
    intro i
    rw [Nat.testBit_two_pow_sub_one]
    by_cases hi : i < m
    · rw [decide_eq_true hi]
      cases hb : T.testBit i
      · exact absurd ⟨i, hi, by rw [hb]; rfl⟩ hn
      · rfl
    · rw [decide_eq_false hi]
      exact Nat.testBit_lt_two_pow (Nat.lt_of_lt_of_le hT (Nat.pow_le_pow_right (by decide) (by omega)))
/-- how many ways there are -/
def wys (g : Nat → Nat → Bool) (m B : Nat) : Nat := pmn g m (fun _ => true) B.testBit
theorem wys_0 {g : Nat → Nat → Bool} {m B : Nat} : mW g m B 0 0 = wys g m B := by
  unfold mW wys
  congr 1
  · funext i; rw [Nat.zero_testBit]; rfl
  · funext x; simp
theorem wys_le {g : Nat → Nat → Bool} {m B : Nat} (hm : m ≤ 8) : wys g m B < 2 ^ 62 := by
  have h1 := pmn_le (g := g) m (fun _ => true) B.testBit
  have h2 : 12 ^ m ≤ 12 ^ 8 := Nat.pow_le_pow_right (by decide) hm
  have h3 : (12 : Nat) ^ 8 < 2 ^ 62 := by decide
  unfold wys
  omega
theorem wys_nd {g : Nat → Nat → Bool} {m B c : Nat} (hB : B < 4096) (hc : c < 12) (h : B.testBit c = true) : wys g m (nd B (2 ^ c)) ≤ wys g m B := by
  have e : (nd B (2 ^ c)).testBit = rmB B.testBit c := by
    funext x
    rw [nd2 hB]
    unfold rmB
    by_cases e : x = c
    · subst e; simp
    · rw [decide_eq_false e, decide_eq_false (fun z => e z.symm)]
  unfold wys
  rw [pmn_col hc m _ B.testBit h, e]
  omega
/-! by days: what is left for the days from k on -/
def dWy (g : Nat → Nat → Bool) (m : Nat) (A : Nat → Bool) (k T : Nat) : Nat := pmn g m (fun i => decide (k ≤ i)) (fun x => A x && !T.testBit x)
theorem dWy_s {g : Nat → Nat → Bool} {m k T : Nat} {A : Nat → Bool} (hk : k < m) : dWy g m A k T = sm (fun c => if ((A c && !T.testBit c) && g k c) = true then dWy g m A (k + 1) (T ||| 2 ^ c) else 0) 12 := by
  unfold dWy
  rw [pmn_row m _ _ hk (decide_eq_true (Nat.le_refl k))]
  refine sm_congr 12 fun c _ => ?_
  have e1 : rmB (fun i => decide (k ≤ i)) k = fun i => decide (k + 1 ≤ i) := by
    funext i
    show (decide (k ≤ i) && !decide (i = k)) = decide (k + 1 ≤ i)
    by_cases e : i = k
    · subst e; simp
    · rw [decide_eq_false e]
      by_cases q : k ≤ i
      · rw [decide_eq_true q, decide_eq_true (show k + 1 ≤ i by omega)]; rfl
      · rw [decide_eq_false q, decide_eq_false (show ¬ k + 1 ≤ i by omega)]; rfl
  have e2 : rmB (fun x => A x && !T.testBit x) c = fun x => A x && !(T ||| 2 ^ c).testBit x := by
    funext x
    show ((A x && !T.testBit x) && !decide (x = c)) = (A x && !(T ||| 2 ^ c).testBit x)
    rw [Nat.testBit_or, Nat.testBit_two_pow]
    by_cases e : c = x
    · subst e; simp
    · rw [decide_eq_false e, decide_eq_false (fun z => e z.symm)]; simp
  rw [e1, e2]
theorem dWy_end {g : Nat → Nat → Bool} {m T : Nat} {A : Nat → Bool} : dWy g m A m T = 1 := pmn_none m _ fun i hi => decide_eq_false (by omega)
theorem dWy_0 {g : Nat → Nat → Bool} {m : Nat} {A : Nat → Bool} : dWy g m A 0 0 = pmn g m (fun _ => true) A := by
  unfold dWy
  have e1 : (fun i => decide (0 ≤ i)) = fun _ => true := by funext i; exact decide_eq_true (Nat.zero_le i)
  have e2 : (fun x => A x && !(0 : Nat).testBit x) = A := by funext x; rw [Nat.zero_testBit]; simp
  rw [e1, e2]
theorem cntB_or {T c : Nat} (h : T.testBit c = false) : ∀ n, cntB (T ||| 2 ^ c).testBit n = cntB T.testBit n + (if c < n then 1 else 0)
  | 0 => rfl
  | n + 1 => by
    rw [cntB_s, cntB_s, cntB_or h n, Nat.testBit_or, Nat.testBit_two_pow]
    by_cases e : c = n
    · subst e
      rw [h, decide_eq_true rfl, if_neg (by omega), if_pos (by decide), if_neg (by decide), if_pos (by omega)]
    · rw [decide_eq_false e, Bool.or_false]
      by_cases q : c < n
      · rw [if_pos q, if_pos (show c < n + 1 by omega)]; omega
      · rw [if_neg q, if_neg (show ¬ c < n + 1 by omega)]; omega
theorem or_lt {T c n : Nat} (hT : T < 2 ^ n) (hc : c < n) : T ||| 2 ^ c < 2 ^ n := Nat.or_lt_two_pow hT (Nat.pow_lt_pow_right (by decide) hc)
end
