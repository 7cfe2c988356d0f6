/-! laying from the last day back, by sets of causes -/
def imx (h : Nat → Nat) (b : Nat) : Nat → Nat
  | 0 => b
  | c + 1 => max (imx h b c) (h c)
theorem imx_b {h : Nat → Nat} {b : Nat} : ∀ n, b ≤ imx h b n
  | 0 => Nat.le_refl b
  | n + 1 => Nat.le_trans (imx_b n) (Nat.le_max_left _ _)
theorem imx_c {h : Nat → Nat} {b c : Nat} : ∀ n, c < n → h c ≤ imx h b n
  | 0, hc => absurd hc (by omega)
  | n + 1, hc => by
    show h c ≤ max (imx h b n) (h n)
    by_cases e : c = n
    · subst e; exact Nat.le_max_right _ _
    · exact Nat.le_trans (imx_c n (by omega)) (Nat.le_max_left _ _)
theorem imx_is {h : Nat → Nat} {b : Nat} : ∀ n, imx h b n = b ∨ ∃ c, c < n ∧ imx h b n = h c
  | 0 => Or.inl rfl
  | n + 1 => by
    show max (imx h b n) (h n) = b ∨ ∃ c, c < n + 1 ∧ max (imx h b n) (h n) = h c
    by_cases e : imx h b n ≤ h n
    · exact Or.inr ⟨n, by omega, by omega⟩
    · rcases imx_is (h := h) (b := b) n with q | ⟨c, q1, q2⟩
      · exact Or.inl (by omega)
      · exact Or.inr ⟨c, by omega, by omega⟩
theorem imx_congr {h h' : Nat → Nat} {b b' : Nat} (hb : b = b') : ∀ n, (∀ c, c < n → h c = h' c) → imx h b n = imx h' b' n
  | 0, _ => hb
  | n + 1, hh => by
    show max (imx h b n) (h n) = max (imx h' b' n) (h' n)
    rw [imx_congr hb n (fun c hc => hh c (by omega)), hh n (by omega)]
def kV (g : Nat → Nat → Bool) (F : Nat → Nat) (N m : Nat) : Nat → Nat → Nat
  | 0, _ => 0
  | r + 1, S => imx (fun c => if S.testBit c = true ∧ g c (m - (r + 1)) = true then kV g F N m r (nd S (2 ^ c)) + F c else 0) (kV g F N m r S) N
theorem nd_le (a b : Nat) : nd a b ≤ a := Nat.and_le_left
theorem nd2 {S c i : Nat} (h : S < 4096) : (nd S (2 ^ c)).testBit i = (S.testBit i && !decide (c = i)) := by
  rw [nd_bit, Nat.testBit_two_pow]
  cases hb : S.testBit i
  · rfl
  · have := b12 h hb
    have h32 : i < 32 := by omega
    simp [h32]
/-- what the days of a way weigh -/
def kw (F : Nat → Nat) : Option Nat → Nat
  | none => 0
  | some x => F x
def dsr (F : Nat → Nat) (t : KT) : Nat → Nat → Nat
  | _, 0 => 0
  | lo, r + 1 => kw F (t lo) + dsr F t (lo + 1) r
def kGd (g : Nat → Nat → Bool) (N S lo m : Nat) (t : KT) : Prop := (∀ i x, lo ≤ i → i < m → t i = some x → g x i = true ∧ S.testBit x = true ∧ x < N) ∧ ∀ i j x, lo ≤ i → i < j → j < m → t i = some x → t j = some x → False
theorem kV_ub {g : Nat → Nat → Bool} {F : Nat → Nat} {N m : Nat} : ∀ (r lo S : Nat) (t : KT), lo + r = m → S < 4096 → kGd g N S lo m t → dsr F t lo r ≤ kV g F N m r S
  | 0, _, _, _, _, _, _ => Nat.zero_le _
  | r + 1, lo, S, t, hr, hS, hg => by
    show kw F (t lo) + dsr F t (lo + 1) r ≤ imx _ _ N
    cases ht : t lo with
    | none =>
      have := kV_ub (F := F) r (lo + 1) S t (by omega) hS ⟨fun i x h1 h2 h3 => hg.1 i x (by omega) h2 h3, fun i j x h1 h2 h3 => hg.2 i j x (by omega) h2 h3⟩
      show 0 + dsr F t (lo + 1) r ≤ _
      exact Nat.le_trans (by omega) (imx_b N)
    | some x =>
      obtain ⟨g1, g2, g3⟩ := hg.1 lo x (Nat.le_refl _) (by omega) ht
      have := kV_ub (F := F) r (lo + 1) (nd S (2 ^ x)) t (by omega) (Nat.lt_of_le_of_lt (nd_le _ _) hS) ⟨fun i y h1 h2 h3 => by
        obtain ⟨a1, a2, a3⟩ := hg.1 i y (by omega) h2 h3
        refine ⟨a1, ?_, a3⟩
        rw [nd2 hS, a2]
        by_cases e : x = y
        · subst e; exact absurd (hg.2 lo i x (Nat.le_refl _) (by omega) h2 ht h3) id
        · simp [e], fun i j y h1 h2 h3 => hg.2 i j y (by omega) h2 h3⟩
      show F x + dsr F t (lo + 1) r ≤ _
      refine Nat.le_trans ?_ (imx_c N g3)
      rw [if_pos ⟨g2, by rw [show m - (r + 1) = lo by omega]; exact g1⟩]
      omega
theorem dsr_ku {F : Nat → Nat} {t : KT} {i c : Nat} : ∀ (r lo : Nat), i < lo → dsr F (ku t i c) lo r = dsr F t lo r
  | 0, _, _ => rfl
  | r + 1, lo, h => by
    show kw F (ku t i c lo) + dsr F (ku t i c) (lo + 1) r = kw F (t lo) + dsr F t (lo + 1) r
    rw [dsr_ku r (lo + 1) (by omega), show ku t i c lo = t lo from if_neg (by omega)]
theorem kV_at {g : Nat → Nat → Bool} {F : Nat → Nat} {N m : Nat} : ∀ (r lo S : Nat), lo + r = m → S < 4096 → ∃ t, kGd g N S lo m t ∧ (∀ i, i < lo ∨ m ≤ i → t i = none) ∧ dsr F t lo r = kV g F N m r S
  | 0, lo, _, hr, _ => ⟨fun _ => none, ⟨fun i x _ _ h => (by cases h), fun i j x _ _ _ h => (by cases h)⟩, fun _ _ => rfl, rfl⟩
  | r + 1, lo, S, hr, hS => by
    have key : (kV g F N m (r + 1) S = kV g F N m r S) ∨ (∃ c, c < N ∧ S.testBit c = true ∧ g c lo = true ∧ kV g F N m (r + 1) S = kV g F N m r (nd S (2 ^ c)) + F c) := by
      show imx _ _ N = _ ∨ ∃ c, c < N ∧ S.testBit c = true ∧ g c lo = true ∧ imx _ _ N = _
      rcases imx_is (h := fun c => if S.testBit c = true ∧ g c (m - (r + 1)) = true then kV g F N m r (nd S (2 ^ c)) + F c else 0) (b := kV g F N m r S) N with q | ⟨c, q1, q2⟩
      · exact Or.inl q
      · by_cases hh : S.testBit c = true ∧ g c (m - (r + 1)) = true
        · rw [if_pos hh] at q2
          rw [show m - (r + 1) = lo by omega] at hh
          exact Or.inr ⟨c, q1, hh.1, hh.2, q2⟩
        · rw [if_neg hh] at q2
          have := imx_b (h := fun c => if S.testBit c = true ∧ g c (m - (r + 1)) = true then kV g F N m r (nd S (2 ^ c)) + F c else 0) (b := kV g F N m r S) N
          exact Or.inl (by omega)
    rcases key with k | ⟨c, c1, c2, c3, c4⟩
    · obtain ⟨t, h1, h2, h3⟩ := kV_at (g := g) (F := F) (N := N) (m := m) r (lo + 1) S (by omega) hS
      have hl : t lo = none := h2 lo (Or.inl (by omega))
      refine ⟨t, ⟨fun i x a1 a2 a3 => ?_, fun i j x a1 a2 a3 a4 a5 => ?_⟩, fun i hi => h2 i (by omega), ?_⟩
      · by_cases e : i = lo
        · subst e; rw [hl] at a3; cases a3
        · exact h1.1 i x (by omega) a2 a3
      · by_cases e : i = lo
        · subst e; rw [hl] at a4; cases a4
        · exact h1.2 i j x (by omega) a2 a3 a4 a5
      · show kw F (t lo) + dsr F t (lo + 1) r = _
        rw [hl, h3, k]
        exact Nat.zero_add _
    · obtain ⟨t, h1, h2, h3⟩ := kV_at (g := g) (F := F) (N := N) (m := m) r (lo + 1) (nd S (2 ^ c)) (by omega) (Nat.lt_of_le_of_lt (nd_le _ _) hS)
      have e0 : ku t lo c lo = some c := if_pos rfl
      have e1 : ∀ i, i ≠ lo → ku t lo c i = t i := fun i hi => if_neg hi
      refine ⟨ku t lo c, ⟨fun i x a1 a2 a3 => ?_, fun i j x a1 a2 a3 a4 a5 => ?_⟩, fun i hi => ?_, ?_⟩
      · by_cases e : i = lo
        · subst e
          rw [e0] at a3
          cases a3
          exact ⟨c3, c2, c1⟩
        · rw [e1 i e] at a3
          obtain ⟨b1, b2, b3⟩ := h1.1 i x (by omega) a2 a3
          rw [nd2 hS, Bool.and_eq_true] at b2
          exact ⟨b1, b2.1, b3⟩
      · rw [e1 j (by omega)] at a5
        by_cases e : i = lo
        · subst e
          rw [e0] at a4
          cases a4
          have := (h1.1 j c (by omega) a3 a5).2.1
          rw [nd2 hS] at this
          simp at this
        · rw [e1 i e] at a4
          exact h1.2 i j x (by omega) a2 a3 a4 a5
      · rw [e1 i (by omega)]
        exact h2 i (by omega)
      · show kw F (ku t lo c lo) + dsr F (ku t lo c) (lo + 1) r = _
        rw [e0, dsr_ku r (lo + 1) (by omega), h3, c4]
        show F c + _ = _
        omega
def ds (F : Nat → Nat) (t : KT) : Nat → Nat
  | 0 => 0
  | n + 1 => ds F t n + kw F (t n)
theorem ds_dsr (F : Nat → Nat) (t : KT) : ∀ r lo, ds F t (lo + r) = ds F t lo + dsr F t lo r
  | 0, _ => rfl
  | r + 1, lo => by
    rw [show lo + (r + 1) = (lo + 1) + r by omega, ds_dsr F t r (lo + 1)]
    show ds F t lo + kw F (t lo) + _ = ds F t lo + (kw F (t lo) + _)
    omega
theorem ds_0 {F : Nat → Nat} {t : KT} : ∀ n, (∀ i, i < n → t i = none) → ds F t n = 0
  | 0, _ => rfl
  | n + 1, h => by
    show ds F t n + kw F (t n) = 0
    rw [ds_0 n (fun i hi => h i (by omega)), h n (by omega)]
    rfl
theorem lsum_mem {F : Nat → Nat} {o : Option Nat} : ∀ l : List Nat, l.Nodup → (∀ x, o = some x → x ∈ l) → lsum (fun x => F x * (if o = some x then 1 else 0)) l = kw F o
  | [], _, h => by
    cases o with
    | none => rfl
    | some x => exact absurd (h x rfl) (by simp)
  | y :: l, hn, h => by
    obtain ⟨n1, n2⟩ := List.nodup_cons.mp hn
    show F y * (if o = some y then 1 else 0) + lsum _ l = kw F o
    by_cases e : o = some y
    · subst e
      have z : lsum (fun x => F x * (if (some y : Option Nat) = some x then 1 else 0)) l = 0 := by
        rw [lsum_congr (g := fun _ => 0) l (fun x hx => by rw [if_neg (fun e => n1 (by cases e; exact hx))]; rfl)]
        exact lsum_0 l
      rw [z, if_pos rfl]
      show F y * 1 + 0 = F y
      omega
    · rw [if_neg e]
      have := lsum_mem (F := F) (o := o) l n2 (fun x hx => by
        rcases List.mem_cons.mp (h x hx) with rfl | q
        · exact absurd hx e
        · exact q)
      omega
theorem lsum_ds {F : Nat → Nat} {t : KT} {Q : List Nat} (hQ : Q.Nodup) : ∀ n, (∀ i x, i < n → t i = some x → x ∈ Q) → lsum (fun x => F x * kcnt t x n) Q = ds F t n
  | 0, _ => by
    exact (lsum_congr (f := fun x => F x * kcnt t x 0) (g := fun _ => 0) Q (fun x _ => rfl)).trans (lsum_0 Q)
  | n + 1, h => by
    have ih := lsum_ds (F := F) hQ n fun i x hi => h i x (by omega)
    rw [lsum_congr (g := fun x => F x * kcnt t x n + F x * (if t n = some x then 1 else 0)) Q (fun x _ => by rw [kcnt_s, Nat.mul_add]), lsum_add, ih, lsum_mem Q hQ (fun x hx => h n x (by omega) hx)]
    rfl
theorem kcnt_inj {t : KT} {x : Nat} : ∀ n, (∀ i j, i < j → j < n → t i = some x → t j = some x → False) → kcnt t x n ≤ 1
  | 0, _ => Nat.zero_le 1
  | n + 1, h => by
    have ih := kcnt_inj (t := t) (x := x) n fun i j a b => h i j a (by omega)
    rw [kcnt_s]
    by_cases e : t n = some x
    · rw [if_pos e]
      by_cases z : kcnt t x n = 0
      · omega
      · obtain ⟨i, i1, i2⟩ := kcnt_pos (t := t) (x := x) n (by omega)
        exact absurd (h i n i1 (by omega) i2 e) id
    · rw [if_neg e]; omega
theorem kcnt_two {t : KT} {x i j : Nat} : ∀ n, i < j → j < n → t i = some x → t j = some x → 2 ≤ kcnt t x n
  | 0, _, h, _, _ => absurd h (by omega)
  | n + 1, h1, h2, h3, h4 => by
    rw [kcnt_s]
    by_cases e : j = n
    · subst e
      have := kcnt_of j h1 h3
      rw [if_pos h4]; omega
    · have := kcnt_two n h1 (by omega) h3 h4; omega
/-- the search, heaviest first: what is laid, what it weighs, which causes -/
def gf (g : Nat → Nat → Bool) (m s0 : Nat) (F : Nat → Nat) : List Nat → KT → Nat → Nat → KT × Nat × Nat
  | [], t, v, k => (t, v, k)
  | c :: cs, t, v, k => if (kd g m 13 t s0 c).1 = true then gf g m s0 F cs (kd g m 13 t s0 c).2.1 (v + F c) (k ||| 2 ^ c) else gf g m s0 F cs (kd g m 13 t s0 c).2.1 v k
theorem gf_kgo {g : Nat → Nat → Bool} {m s0 : Nat} {F : Nat → Nat} : ∀ (Q : List Nat) (t : KT) (v k : Nat), (gf g m s0 F Q t v k).1 = kgo g m s0 Q t
  | [], _, _, _ => rfl
  | c :: cs, t, v, k => by
    unfold gf
    split
    · exact gf_kgo cs _ _ _
    · exact gf_kgo cs _ _ _
theorem kun_le (s : Nat) : ∀ k, kun s k ≤ k
  | 0 => Nat.le_refl 0
  | k + 1 => by
    have := kun_le s k
    show kun s k + _ ≤ k + 1
    split <;> omega
theorem gf_ok {g : Nat → Nat → Bool} {m s0 : Nat} {F : Nat → Nat} (hm : m ≤ 12) : ∀ (Q P : List Nat) (t : KT) (v k : Nat), kInv g m s0 P t → (P ++ Q).Nodup →
    (∀ x ∈ P, kcnt (gf g m s0 F Q t v k).1 x m = kcnt t x m) ∧ (gf g m s0 F Q t v k).2.1 = v + lsum (fun x => F x * kcnt (gf g m s0 F Q t v k).1 x m) Q ∧ ∀ x, (gf g m s0 F Q t v k).2.2.testBit x = (k.testBit x || (decide (x ∈ Q) && decide (kcnt (gf g m s0 F Q t v k).1 x m = 1)))
  | [], P, t, v, k, _, _ => ⟨fun _ _ => rfl, rfl, fun x => by
    show k.testBit x = (k.testBit x || _)
    simp⟩
  | c :: Q, P, t, v, k, h, hnd => by
    have he : kun s0 m < 13 := by have := kun_le s0 m; omega
    have hnd2 : (P ++ [c] ++ Q).Nodup := by rw [List.append_assoc]; exact hnd
    have hPc : (P ++ [c]).Nodup := (List.nodup_append.mp hnd2).1
    have hc : c ∉ P := fun z => by
      have := (List.nodup_append.mp hPc).2.2 c z c (List.mem_singleton.mpr rfl)
      exact this rfl
    have hcQ : c ∉ Q := fun z => (List.nodup_append.mp hnd2).2.2 c (by simp) c z rfl
    unfold gf
    cases hb : (kd g m 13 t s0 c).1 with
    | true =>
      rw [if_pos rfl]
      obtain ⟨hi, hcn⟩ := kInv_yes h hc he hb
      obtain ⟨a1, a2, a3⟩ := gf_ok (F := F) hm Q (P ++ [c]) _ (v + F c) (k ||| 2 ^ c) hi hnd2
      have c0 := h.2.1 c hc
      have c1 := a1 c (by simp)
      have c2 := hcn c
      rw [if_pos rfl, c0] at c2
      refine ⟨fun x hx => ?_, ?_, fun x => ?_⟩
      · rw [a1 x (List.mem_append_left _ hx), hcn, if_neg (fun z : c = x => hc (by rw [z]; exact hx))]; rfl
      · rw [a2]
        show _ = v + (F c * kcnt _ c m + lsum _ Q)
        rw [c1, c2]
        omega
      · rw [a3, bit_set]
        by_cases e : c = x
        · subst e
          simp [c1, c2]
        · have : ¬ x = c := fun z => e z.symm
          simp [e, this]
    | false =>
      rw [if_neg (by decide)]
      have hi := kInv_no h hc he hb
      rw [kd_no 13 t s0 c hb]
      obtain ⟨a1, a2, a3⟩ := gf_ok (F := F) hm Q (P ++ [c]) t v k hi hnd2
      have c0 := h.2.1 c hc
      have c1 := a1 c (by simp)
      refine ⟨fun x hx => a1 x (List.mem_append_left _ hx), ?_, fun x => ?_⟩
      · rw [a2]
        show _ = v + (F c * kcnt _ c m + lsum _ Q)
        rw [c1, c0]
        omega
      · rw [a3]
        by_cases e : c = x
        · subst e
          simp [c1, c0, hcQ]
        · have : ¬ x = c := fun z => e z.symm
          simp [this]
/-- what the search finds is what the sets tell -/
theorem gf_kV {g : Nat → Nat → Bool} {m s0 lo N S : Nat} {F : Nat → Nat} {Q : List Nat} (hm : m ≤ 12) (hlo : lo ≤ m) (hs : ∀ i, i < m → s0.testBit i = decide (i < lo)) (hS : S < 4096) (hN : ∀ c, S.testBit c = true → c < N) (hQ : Q.Nodup) (hQS : ∀ c, c ∈ Q ↔ S.testBit c = true) (hF : Q.Pairwise (fun a b => F b ≤ F a)) :
    (gf g m s0 F Q (fun _ => none) 0 0).2.1 = kV g F N m (m - lo) S := by
  obtain ⟨-, a2, -⟩ := gf_ok (F := F) hm Q [] (fun _ => none) 0 0 (kInv_0 g m s0) (by simpa using hQ)
  have wy := (kgo_way (g := g) (s0 := s0) hm hQ)
  rw [a2, Nat.zero_add, gf_kgo]
  have none_lo : ∀ t, kWay g m s0 t → ∀ i, i < lo → t i = none := fun t ht i hi => by
    cases hx : t i with
    | none => rfl
    | some x =>
      have := (ht.1 i x (by omega) hx).2
      rw [hs i (by omega)] at this
      simp at this
      omega
  have split : ∀ t, (∀ i, i < lo → t i = none) → ds F t m = dsr F t lo (m - lo) := fun t ht => by
    have := ds_dsr F t (m - lo) lo
    rw [show lo + (m - lo) = m by omega, ds_0 lo ht] at this
    omega
  apply Nat.le_antisymm
  · have inQ : ∀ i x, i < m → kgo g m s0 Q (fun _ => none) i = some x → x ∈ Q := fun i x hi hx => by
      by_cases e : x ∈ Q
      · exact e
      · have z := wy.2.1 x e
        have := kcnt_of m hi hx
        omega
    rw [lsum_ds hQ m inQ, split _ (none_lo _ wy.1)]
    refine kV_ub (m - lo) lo S _ (by omega) hS ⟨fun i x h1 h2 h3 => ?_, fun i j x h1 h2 h3 h4 h5 => ?_⟩
    · have hx := (hQS x).mp (inQ i x h2 h3)
      exact ⟨(wy.1.1 i x h2 h3).1, hx, hN x hx⟩
    · have q1 := wy.1.2 x
      have q2 := kcnt_two m h2 h3 h4 h5
      omega
  · obtain ⟨t, h1, h2, h3⟩ := kV_at (g := g) (F := F) (N := N) (m := m) (m - lo) lo S (by omega) hS
    have hlt : ∀ i x, t i = some x → lo ≤ i ∧ i < m := fun i x hx => by
      by_cases e : lo ≤ i ∧ i < m
      · exact e
      · rw [h2 i (by omega)] at hx; cases hx
    have hw : kWay g m s0 t := by
      refine ⟨fun i x hi hx => ⟨(h1.1 i x (hlt i x hx).1 hi hx).1, by rw [hs i hi]; have := (hlt i x hx).1; simp; omega⟩, fun x => kcnt_inj m fun i j a b c d => h1.2 i j x (hlt i x c).1 a b c d⟩
    rw [← h3, ← split t (fun i hi => h2 i (Or.inl hi)), ← lsum_ds hQ m (fun i x hi hx => (hQS x).mpr (h1.1 i x (hlt i x hx).1 hi hx).2.1)]
    exact kgo_ok hm hQ F hF hw
theorem kV_congr {g g' : Nat → Nat → Bool} {F : Nat → Nat} {N m : Nat} : ∀ (r S S' : Nat), S < 4096 → S' < 4096 → (∀ c i, c < N → m - r ≤ i → i < m → (S.testBit c && g c i) = (S'.testBit c && g' c i)) → r ≤ m → kV g F N m r S = kV g' F N m r S'
  | 0, _, _, _, _, _, _ => rfl
  | r + 1, S, S', h1, h2, h, hr => by
    refine imx_congr (kV_congr r S S' h1 h2 (fun c i hc a b => h c i hc (by omega) b) (by omega)) N fun c hc => ?_
    have e := h c (m - (r + 1)) hc (Nat.le_refl _) (by omega)
    have e1 : (S.testBit c = true ∧ g c (m - (r + 1)) = true) = ((S.testBit c && g c (m - (r + 1))) = true) := by simp
    have e2 : (S'.testBit c = true ∧ g' c (m - (r + 1)) = true) = ((S'.testBit c && g' c (m - (r + 1))) = true) := by simp
    have e3 : kV g F N m r (nd S (2 ^ c)) = kV g' F N m r (nd S' (2 ^ c)) := kV_congr r (nd S (2 ^ c)) (nd S' (2 ^ c)) (Nat.lt_of_le_of_lt (nd_le _ _) h1) (Nat.lt_of_le_of_lt (nd_le _ _) h2) (fun x i hx a b => by
        have := h x i hx (by omega) b
        rw [nd2 h1, nd2 h2, Bool.and_right_comm, this, Bool.and_right_comm]) (by omega)
    by_cases q : (S'.testBit c && g' c (m - (r + 1))) = true
    · rw [if_pos (by rw [e1, e]; exact q), if_pos (by rw [e2]; exact q), e3]
    · rw [if_neg (by rw [e1, e]; exact q), if_neg (by rw [e2]; exact q)]
theorem imx_lt {h : Nat → Nat} {b M : Nat} (hb : b ≤ M) : ∀ n, (∀ c, c < n → h c ≤ M) → imx h b n ≤ M
  | 0, _ => hb
  | n + 1, hh => by
    have q1 := imx_lt hb n fun c hc => hh c (by omega)
    have q2 := hh n (by omega)
    show max (imx h b n) (h n) ≤ M
    omega
theorem kV_le {g : Nat → Nat → Bool} {F : Nat → Nat} {N m M : Nat} (hF : ∀ c, c < N → F c ≤ M) : ∀ (r S : Nat), kV g F N m r S ≤ r * M
  | 0, _ => Nat.zero_le _
  | r + 1, S => by
    have e : (r + 1) * M = r * M + M := by rw [Nat.add_mul, Nat.one_mul]
    have q := kV_le (g := g) (m := m) hF r
    rw [e]
    refine imx_lt (Nat.le_trans (q S) (by omega)) N fun c hc => ?_
    have q1 := q (nd S (2 ^ c))
    have q2 := hF c hc
    split
    · omega
    · omega
