/-! heaviest first is best -/
def lsum (f : Nat → Nat) : List Nat → Nat
  | [] => 0
  | x :: l => f x + lsum f l
theorem lsum_app (f : Nat → Nat) : ∀ a b : List Nat, lsum f (a ++ b) = lsum f a + lsum f b
  | [], b => by simp [lsum]
  | x :: a, b => by simp [lsum, lsum_app f a b]; omega
theorem lsum_le {f g : Nat → Nat} : ∀ l : List Nat, (∀ x ∈ l, f x ≤ g x) → lsum f l ≤ lsum g l
  | [], _ => Nat.le_refl 0
  | x :: l, h => by
    have h1 := h x List.mem_cons_self
    have h2 := lsum_le l fun y hy => h y (List.mem_cons_of_mem _ hy)
    show f x + lsum f l ≤ g x + lsum g l
    omega
theorem lsum_congr {f g : Nat → Nat} : ∀ l : List Nat, (∀ x ∈ l, f x = g x) → lsum f l = lsum g l
  | [], _ => rfl
  | x :: l, h => by
    show f x + lsum f l = g x + lsum g l
    rw [h x List.mem_cons_self, lsum_congr l fun y hy => h y (List.mem_cons_of_mem _ hy)]
theorem lsum_add (f g : Nat → Nat) : ∀ l : List Nat, lsum (fun x => f x + g x) l = lsum f l + lsum g l
  | [] => rfl
  | x :: l => by
    show f x + g x + lsum (fun x => f x + g x) l = f x + lsum f l + (g x + lsum g l)
    rw [lsum_add f g l]; omega
theorem lsum_0 : ∀ l : List Nat, lsum (fun _ => 0) l = 0
  | [] => rfl
  | x :: l => by
    show 0 + lsum (fun _ => 0) l = 0
    rw [lsum_0 l]
/-- days with a cause x, within D or without -/
def kcD (D : Nat → Bool) (t : KT) (x : Nat) : Nat → Nat
  | 0 => 0
  | n + 1 => kcD D t x n + (if D n = true ∧ t n = some x then 1 else 0)
theorem kcD_split (D : Nat → Bool) (t : KT) (x : Nat) : ∀ n, kcnt t x n = kcD D t x n + kcD (fun i => !D i) t x n
  | 0 => rfl
  | n + 1 => by
    show kcnt t x n + _ = kcD D t x n + _ + (kcD (fun i => !D i) t x n + _)
    rw [kcD_split D t x n]
    by_cases hd : D n = true <;> by_cases ht : t n = some x <;> simp [hd, ht] <;> omega
theorem kcD_pos {D : Nat → Bool} {t : KT} {x : Nat} : ∀ n, 1 ≤ kcD D t x n → ∃ i, i < n ∧ D i = true ∧ t i = some x
  | 0, h => by simp [kcD] at h
  | n + 1, h => by
    by_cases hc : D n = true ∧ t n = some x
    · exact ⟨n, by omega, hc⟩
    · have h : 1 ≤ kcD D t x n + (if D n = true ∧ t n = some x then 1 else 0) := h
      rw [if_neg hc] at h
      obtain ⟨i, h1, h2⟩ := kcD_pos n h
      exact ⟨i, by omega, h2⟩
theorem kcD_of {D : Nat → Bool} {t : KT} {x i : Nat} : ∀ n, i < n → D i = true → t i = some x → 1 ≤ kcD D t x n
  | 0, h, _, _ => absurd h (by omega)
  | n + 1, h, h1, h2 => by
    show 1 ≤ kcD D t x n + _
    by_cases e : i = n
    · subst e; rw [if_pos ⟨h1, h2⟩]; omega
    · have := kcD_of n (by omega) h1 h2; omega
theorem kcnt_pos {t : KT} {x : Nat} : ∀ n, 1 ≤ kcnt t x n → ∃ i, i < n ∧ t i = some x
  | 0, h => by simp [kcnt] at h
  | n + 1, h => by
    by_cases hc : t n = some x
    · exact ⟨n, by omega, hc⟩
    · rw [kcnt_s, if_neg hc] at h
      obtain ⟨i, h1, h2⟩ := kcnt_pos n h
      exact ⟨i, by omega, h2⟩
theorem kcnt_of {t : KT} {x i : Nat} : ∀ n, i < n → t i = some x → 1 ≤ kcnt t x n
  | 0, h, _ => absurd h (by omega)
  | n + 1, h, h2 => by
    rw [kcnt_s]
    by_cases e : i = n
    · subst e; rw [if_pos h2]; omega
    · have := kcnt_of n (by omega) h2; omega
def dcnt (D : Nat → Bool) : Nat → Nat
  | 0 => 0
  | n + 1 => dcnt D n + (if D n = true then 1 else 0)
theorem lsum_one {o : Option Nat} : ∀ l : List Nat, l.Nodup → lsum (fun x => if o = some x then 1 else 0) l ≤ 1 ∧ (∀ x, o = some x → x ∈ l → lsum (fun x => if o = some x then 1 else 0) l = 1)
  | [], _ => ⟨Nat.zero_le _, fun x _ h => by cases h⟩
  | y :: l, h => by
    obtain ⟨h1, h2⟩ := List.nodup_cons.mp h
    obtain ⟨i1, i2⟩ := lsum_one (o := o) l h2
    show (if o = some y then 1 else 0) + _ ≤ 1 ∧ ∀ x, o = some x → x ∈ y :: l → (if o = some y then 1 else 0) + _ = 1
    by_cases e : o = some y
    · have z : lsum (fun x => if o = some x then 1 else 0) l = 0 := by
        rw [lsum_congr (g := fun _ => 0) l (fun x hx => if_neg (fun e2 => h1 (by rw [e] at e2; cases e2; exact hx)))]
        exact lsum_0 l
      rw [if_pos e, z]
      exact ⟨Nat.le_refl 1, fun _ _ _ => rfl⟩
    · rw [if_neg e]
      refine ⟨by omega, fun x hx hm => ?_⟩
      rcases List.mem_cons.mp hm with rfl | hm
      · exact absurd hx e
      · rw [i2 x hx hm]
theorem lsum_kcD_le {D : Nat → Bool} {t : KT} {l : List Nat} (hl : l.Nodup) : ∀ n, lsum (fun x => kcD D t x n) l ≤ dcnt D n
  | 0 => by rw [show (fun x => kcD D t x 0) = fun _ => 0 from rfl, lsum_0]; exact Nat.le_refl 0
  | n + 1 => by
    have ih := lsum_kcD_le (D := D) (t := t) hl n
    rw [show (fun x => kcD D t x (n + 1)) = fun x => kcD D t x n + (if D n = true ∧ t n = some x then 1 else 0) from rfl, lsum_add]
    show _ ≤ dcnt D n + _
    have h1 := (lsum_one (o := t n) l hl).1
    cases hd : D n
    · simp only [Bool.false_eq_true, false_and, if_false, lsum_0]; omega
    · simp only [true_and, if_true]; omega
theorem lsum_kcD_eq {D : Nat → Bool} {t : KT} {l : List Nat} (hl : l.Nodup) : ∀ n, (∀ i, i < n → D i = true → ∃ x ∈ l, t i = some x) → lsum (fun x => kcD D t x n) l = dcnt D n
  | 0, _ => by rw [show (fun x => kcD D t x 0) = fun _ => 0 from rfl, lsum_0]; rfl
  | n + 1, h => by
    have ih := lsum_kcD_eq (D := D) (t := t) hl n fun i hi => h i (by omega)
    rw [show (fun x => kcD D t x (n + 1)) = fun x => kcD D t x n + (if D n = true ∧ t n = some x then 1 else 0) from rfl, lsum_add, ih]
    show _ = dcnt D n + _
    cases hd : D n
    · simp only [Bool.false_eq_true, false_and, if_false, lsum_0]
    · obtain ⟨x, hx, ht⟩ := h n (by omega) hd
      simp only [true_and, if_true, (lsum_one (o := t n) l hl).2 x ht hx]
/-- a way to lay causes out -/
def kWay (g : Nat → Nat → Bool) (n s0 : Nat) (m : KT) : Prop := (∀ i x, i < n → m i = some x → g x i = true ∧ s0.testBit i = false) ∧ ∀ x, kcnt m x n ≤ 1
def kInv (g : Nat → Nat → Bool) (n s0 : Nat) (P : List Nat) (t : KT) : Prop :=
  kWay g n s0 t ∧ (∀ x, x ∉ P → kcnt t x n = 0) ∧ ∃ D, kShut g n s0 t D ∧ ∀ r ∈ P, kcnt t r n = 0 → ∀ j, j < n → g r j = true → D j = true ∨ s0.testBit j = true
theorem kInv_cnt {g : Nat → Nat → Bool} {n s0 : Nat} {P : List Nat} {t m : KT} (h : kInv g n s0 P t) (hP : P.Nodup) (hm : kWay g n s0 m) : lsum (fun x => kcnt m x n) P ≤ lsum (fun x => kcnt t x n) P := by
  obtain ⟨⟨h1, h1'⟩, h2, D, h3, h4⟩ := h
  have eD : lsum (fun x => kcD D t x n) P = dcnt D n := lsum_kcD_eq hP n fun i hi hd => by
    obtain ⟨-, x, hx, -⟩ := h3 i hd
    refine ⟨x, ?_, hx⟩
    by_cases hp : x ∈ P
    · exact hp
    · have z1 := h2 x hp
      have := kcnt_of n hi hx
      omega
  have lD := lsum_kcD_le (D := D) (t := m) hP n
  have lN : lsum (fun x => kcD (fun i => !D i) m x n) P ≤ lsum (fun x => kcD (fun i => !D i) t x n) P := by
    refine lsum_le P fun x hx => ?_
    by_cases hz : 1 ≤ kcD (fun i => !D i) m x n
    · obtain ⟨i, hi, hd, hmi⟩ := kcD_pos n hz
      have hd : D i = false := by simpa using hd
      obtain ⟨hg, hs⟩ := hm.1 i x hi hmi
      have hle := hm.2 x
      have hsp := kcD_split D m x n
      have key : 1 ≤ kcD (fun i => !D i) t x n := by
        by_cases hk : kcnt t x n = 0
        · rcases h4 x hx hk i hi hg with a | a
          · rw [hd] at a; cases a
          · rw [hs] at a; cases a
        · obtain ⟨k, hk1, hk2⟩ := kcnt_pos (t := t) (x := x) n (by omega)
          refine kcD_of n hk1 ?_ hk2
          cases hdk : D k
          · rfl
          · obtain ⟨-, y, hy, hy2⟩ := h3 k hdk
            rw [hk2] at hy
            cases hy
            rcases hy2 i hi hg with a | a
            · rw [hd] at a; cases a
            · rw [hs] at a; cases a
      omega
    · omega
  rw [lsum_congr (g := fun x => kcD D m x n + kcD (fun i => !D i) m x n) P (fun x _ => kcD_split D m x n), lsum_congr (g := fun x => kcD D t x n + kcD (fun i => !D i) t x n) P (fun x _ => kcD_split D t x n), lsum_add, lsum_add, eD]
  omega
theorem kInv_yes {g : Nat → Nat → Bool} {n s0 e c : Nat} {P : List Nat} {t : KT} (h : kInv g n s0 P t) (hc : c ∉ P) (he : kun s0 n < e) (hy : (kd g n e t s0 c).1 = true) :
    kInv g n s0 (P ++ [c]) (kd g n e t s0 c).2.1 ∧ ∀ x, kcnt (kd g n e t s0 c).2.1 x n = kcnt t x n + (if c = x then 1 else 0) := by
  obtain ⟨⟨h1, h1'⟩, h2, D, h3, h4⟩ := h
  obtain ⟨q1, -, q3⟩ := kd_ok e t s0 c he
  obtain ⟨y1, y2, y3⟩ := q3 hy
  have hk := kd_keep (D := D) e t s0 c h3 (fun _ z => z)
  generalize kd g n e t s0 c = R at *
  obtain ⟨b, t', s'⟩ := R
  dsimp only at *
  refine ⟨⟨⟨fun i x hi hx => ?_, fun x => ?_⟩, fun x hx => ?_, D, fun i hi => ?_, fun r hr hz => ?_⟩, y3⟩
  · by_cases e1 : t' i = t i
    · rw [e1] at hx; exact h1 i x hi hx
    · rcases y2 i x hx with z | z
      · exact absurd (hx.trans z.symm) e1
      · exact ⟨z.1, (y1 i e1).2.2⟩
  · rw [y3]
    by_cases e1 : c = x
    · subst e1; rw [h2 c hc, if_pos rfl]; exact Nat.le_refl 1
    · rw [if_neg e1]; exact h1' x
  · rw [List.mem_append, List.mem_singleton] at hx
    rw [y3, h2 x (fun z => hx (Or.inl z)), if_neg (fun z => hx (Or.inr z.symm))]
  · obtain ⟨a, x, hx, hx2⟩ := h3 i hi
    exact ⟨a, x, by rw [hk i hi]; exact hx, hx2⟩
  · rw [y3] at hz
    rcases List.mem_append.mp hr with hr | hr
    · exact h4 r hr (by omega)
    · rw [List.mem_singleton] at hr
      subst hr
      rw [if_pos rfl] at hz
      omega
theorem kInv_no {g : Nat → Nat → Bool} {n s0 e c : Nat} {P : List Nat} {t : KT} (h : kInv g n s0 P t) (hc : c ∉ P) (he : kun s0 n < e) (hy : (kd g n e t s0 c).1 = false) : kInv g n s0 (P ++ [c]) t := by
  obtain ⟨h1, h2, D, h3, h4⟩ := h
  obtain ⟨q1, q2, -⟩ := kd_ok e t s0 c he
  obtain ⟨n1, n2, n3⟩ := q2 hy
  generalize kd g n e t s0 c = R at *
  obtain ⟨b, t', s'⟩ := R
  dsimp only at *
  refine ⟨h1, fun x hx => h2 x fun z => hx (List.mem_append_left _ z), fun i => D i || (decide (i < n) && (s'.testBit i && !s0.testBit i)), fun i hi => ?_, fun r hr hz j hj hg => ?_⟩
  · rw [Bool.or_eq_true] at hi
    rcases hi with hi | hi
    · obtain ⟨a, x, hx, hx2⟩ := h3 i hi
      refine ⟨a, x, hx, fun j hj hg => ?_⟩
      rcases hx2 j hj hg with z | z
      · exact Or.inl (by simp [z])
      · exact Or.inr z
    · simp only [Bool.and_eq_true, decide_eq_true_eq, Bool.not_eq_true'] at hi
      obtain ⟨x, hx, hx2⟩ := n3 i hi.1 hi.2.1 hi.2.2
      refine ⟨hi.1, x, hx, fun j hj hg => ?_⟩
      have := hx2 j hj hg
      cases hs : s0.testBit j
      · exact Or.inl (by simp [this, hj, hs])
      · exact Or.inr rfl
  · have fin : s'.testBit j = true → (D j || (decide (j < n) && (s'.testBit j && !s0.testBit j))) = true ∨ s0.testBit j = true := by
      intro this
      cases hs : s0.testBit j
      · exact Or.inl (by simp [this, hj])
      · exact Or.inr rfl
    rcases List.mem_append.mp hr with hr | hr
    · rcases h4 r hr hz j hj hg with z | z
      · exact Or.inl (by simp [z])
      · exact Or.inr z
    · rw [List.mem_singleton] at hr
      subst hr
      exact fin (n2 j (Nat.zero_le _) hj hg)
/-- one after the other -/
def kgo (g : Nat → Nat → Bool) (n s0 : Nat) : List Nat → KT → KT
  | [], t => t
  | c :: cs, t => kgo g n s0 cs (kd g n 13 t s0 c).2.1
theorem abel {v' fc a b A B : Nat} (h : A + fc * a ≤ B + fc * b) (hv : v' ≤ fc) (x y : Nat) (hxy : b + x ≤ a + y) : A + fc * x + v' * (a + y) ≤ B + fc * y + v' * (b + x) := by
  obtain ⟨u, rfl⟩ := Nat.exists_eq_add_of_le hv
  obtain ⟨w, hw⟩ := Nat.exists_eq_add_of_le hxy
  have e1 : v' * (a + y) = v' * (b + x) + v' * w := by rw [hw, Nat.mul_add]
  have e2 : (v' + u) * (a + y) = (v' + u) * (b + x) + (v' + u) * w := by rw [hw, Nat.mul_add]
  rw [Nat.mul_add, Nat.mul_add] at e2
  have e3 : (v' + u) * w = v' * w + u * w := Nat.add_mul _ _ _
  have e4 : 0 ≤ u * w := Nat.zero_le _
  omega
theorem kgo_best {g : Nat → Nat → Bool} {n s0 : Nat} (hn : n ≤ 12) {m : KT} (hm : kWay g n s0 m) (f : Nat → Nat) :
    ∀ (Q P : List Nat) (t : KT), kInv g n s0 P t → (P ++ Q).Nodup → (∀ p ∈ P, ∀ q ∈ Q, f q ≤ f p) → Q.Pairwise (fun a b => f b ≤ f a) →
      (∀ v, (∀ p ∈ P, v ≤ f p) → lsum (fun x => f x * kcnt m x n) P + v * lsum (fun x => kcnt t x n) P ≤ lsum (fun x => f x * kcnt t x n) P + v * lsum (fun x => kcnt m x n) P) →
      lsum (fun x => f x * kcnt m x n) (P ++ Q) ≤ lsum (fun x => f x * kcnt (kgo g n s0 Q t) x n) (P ++ Q) ∧ kInv g n s0 (P ++ Q) (kgo g n s0 Q t)
  | [], P, t, h, _, _, _, hA => by
    have := hA 0 (fun _ _ => Nat.zero_le _)
    have e : kgo g n s0 [] t = t := rfl
    rw [List.append_nil, e]
    exact ⟨by simpa using this, h⟩
  | c :: Q, P, t, h, hnd, hPQ, hQ, hA => by
    have hun : ∀ k, kun s0 k ≤ k := fun k => by
      induction k with
      | zero => exact Nat.le_refl 0
      | succ k ih => show kun s0 k + _ ≤ k + 1; split <;> omega
    have he : kun s0 n < 13 := by have := hun n; omega
    have hnd2 : (P ++ [c] ++ Q).Nodup := by rw [List.append_assoc]; exact hnd
    have hPc : (P ++ [c]).Nodup := (List.nodup_append.mp hnd2).1
    have hc : c ∉ P := fun z => by
      have := (List.nodup_append.mp hPc).2.2 c z c (List.mem_singleton.mpr rfl)
      exact this rfl
    have hfc : ∀ p ∈ P, f c ≤ f p := fun p hp => hPQ p hp c List.mem_cons_self
    obtain ⟨hq1, hq2⟩ := List.pairwise_cons.mp hQ
    have hPQ2 : ∀ p ∈ P ++ [c], ∀ q ∈ Q, f q ≤ f p := fun p hp q hq => by
      rcases List.mem_append.mp hp with hp | hp
      · exact hPQ p hp q (List.mem_cons_of_mem _ hq)
      · rw [List.mem_singleton] at hp
        subst hp
        exact hq1 q hq
    have step : ∀ t', kInv g n s0 (P ++ [c]) t' → (∀ x ∈ P, kcnt t' x n = kcnt t x n) → (∀ v, (∀ p ∈ P ++ [c], v ≤ f p) → lsum (fun x => f x * kcnt m x n) (P ++ [c]) + v * lsum (fun x => kcnt t' x n) (P ++ [c]) ≤ lsum (fun x => f x * kcnt t' x n) (P ++ [c]) + v * lsum (fun x => kcnt m x n) (P ++ [c])) := by
      intro t' hi hx v hv
      have h1 := hA (f c) hfc
      have h2 := kInv_cnt hi hPc hm
      have e1 : lsum (fun x => kcnt t' x n) P = lsum (fun x => kcnt t x n) P := lsum_congr P hx
      have e2 : lsum (fun x => f x * kcnt t' x n) P = lsum (fun x => f x * kcnt t x n) P := lsum_congr P (fun x hp => by rw [hx x hp])
      have l1 : ∀ h : Nat → Nat, lsum h [c] = h c := fun h => rfl
      simp only [lsum_app, l1, e1, e2] at h2 ⊢
      exact abel h1 (hv c (by simp)) (kcnt m c n) (kcnt t' c n) h2
    have e : P ++ c :: Q = P ++ [c] ++ Q := by simp
    rw [e]
    show _ ≤ lsum (fun x => f x * kcnt (kgo g n s0 Q (kd g n 13 t s0 c).2.1) x n) (P ++ [c] ++ Q) ∧ kInv g n s0 (P ++ [c] ++ Q) (kgo g n s0 Q (kd g n 13 t s0 c).2.1)
    cases hb : (kd g n 13 t s0 c).1 with
    | true =>
      obtain ⟨hi, hcn⟩ := kInv_yes h hc he hb
      exact kgo_best hn hm f Q (P ++ [c]) _ hi hnd2 hPQ2 hq2 (step _ hi (fun x hx => by rw [hcn, if_neg (fun z : c = x => hc (by rw [z]; exact hx))]; rfl))
    | false =>
      have hi := kInv_no h hc he hb
      rw [kd_no 13 t s0 c hb]
      exact kgo_best hn hm f Q (P ++ [c]) t hi hnd2 hPQ2 hq2 (step t hi (fun _ _ => rfl))
theorem kInv_0 (g : Nat → Nat → Bool) (n s0 : Nat) : kInv g n s0 [] (fun _ => none) := by
  have z : ∀ x n, kcnt (fun _ => none) x n = 0 := fun x n => by
    induction n with
    | zero => rfl
    | succ n ih => rw [kcnt_s, ih]; rfl
  exact ⟨⟨fun i x _ h => (by cases h), fun x => by rw [z]; exact Nat.zero_le _⟩, fun x _ => z x n, fun _ => false, fun i h => (by cases h), fun r h => (by cases h)⟩
/-- what is laid out so is a way, and no way weighs more, by any weights that fall in that order -/
theorem kgo_ok {g : Nat → Nat → Bool} {n s0 : Nat} (hn : n ≤ 12) {Q : List Nat} (hQ : Q.Nodup) (f : Nat → Nat) (hf : Q.Pairwise (fun a b => f b ≤ f a)) {m : KT} (hm : kWay g n s0 m) :
    lsum (fun x => f x * kcnt m x n) Q ≤ lsum (fun x => f x * kcnt (kgo g n s0 Q (fun _ => none)) x n) Q :=
  (kgo_best hn hm f Q [] (fun _ => none) (kInv_0 g n s0) (by simpa using hQ) (fun p hp => by cases hp) hf (fun v _ => by simp [lsum])).1
theorem kgo_way {g : Nat → Nat → Bool} {n s0 : Nat} (hn : n ≤ 12) {Q : List Nat} (hQ : Q.Nodup) : kInv g n s0 Q (kgo g n s0 Q (fun _ => none)) := by
  have := (kgo_best hn (kInv_0 g n s0).1 (fun _ => 0) Q [] (fun _ => none) (kInv_0 g n s0) (by simpa using hQ) (fun p hp => by cases hp) (List.pairwise_of_forall (fun _ _ => Nat.le_refl 0)) (fun v _ => by simp [lsum])).2
  simpa using this
