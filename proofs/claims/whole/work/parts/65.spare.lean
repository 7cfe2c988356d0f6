section
/-! to spare -/
def sg (f : Nat → Nat) : Nat → Nat
  | 0 => 0
  | n + 1 => sg f n + f n
theorem sg_le {f g : Nat → Nat} : ∀ n, (∀ c, c < n → f c ≤ g c) → sg f n ≤ sg g n
  | 0, _ => Nat.le_refl 0
  | n + 1, h => by
    have h1 := sg_le n fun c hc => h c (by omega)
    have h2 := h n (by omega)
    show sg f n + f n ≤ sg g n + g n
    omega
theorem sg_congr {f g : Nat → Nat} : ∀ n, (∀ c, c < n → f c = g c) → sg f n = sg g n
  | 0, _ => rfl
  | n + 1, h => by
    show sg f n + f n = sg g n + g n
    rw [sg_congr n fun c hc => h c (by omega), h n (by omega)]
theorem sg_add (f g : Nat → Nat) : ∀ n, sg (fun c => f c + g c) n = sg f n + sg g n
  | 0 => rfl
  | n + 1 => by
    show sg (fun c => f c + g c) n + (f n + g n) = sg f n + f n + (sg g n + g n)
    rw [sg_add f g n]
    omega
theorem sg_l (f : Nat → Nat) : ∀ n, lsum f (List.range n) = sg f n
  | 0 => rfl
  | n + 1 => by
    rw [List.range_succ, lsum_app, sg_l f n]
    rfl
theorem sg_cnt (p : Nat → Bool) : ∀ n, sg (fun c => bif p c then 4096 else 0) n = 4096 * cntB p n
  | 0 => rfl
  | n + 1 => by
    show sg (fun c => bif p c then 4096 else 0) n + (bif p n then 4096 else 0) = 4096 * (cntB p n + (if p n = true then 1 else 0))
    rw [sg_cnt p n]
    cases p n
    · rw [cond_false, if_neg (by decide)]; omega
    · rw [cond_true, if_pos rfl]; omega
theorem sg_num (p : Nat → Bool) : ∀ n, sg (fun c => bif p c then 2 ^ c else 0) n = mk p n
  | 0 => rfl
  | n + 1 => by
    show sg (fun c => bif p c then 2 ^ c else 0) n + (bif p n then 2 ^ n else 0) = mk p (n + 1)
    rw [sg_num p n]
    cases h : p n
    · rw [cond_false, mk_f h]; rfl
    · rw [cond_true, mk_t h]
theorem mk_own {B : Nat} (h : B < 4096) : mk B.testBit 12 = B := by
  apply Nat.eq_of_testBit_eq
  intro i
  rw [mk_bit]
  by_cases q : i < 12
  · rw [decide_eq_true q, Bool.true_and]
  · rw [decide_eq_false q, Bool.false_and, tb12 h (by omega)]
def hh (c : Nat) : Nat := 4096 - 2 ^ c
theorem hh_2 {c : Nat} (h : c < 12) : hh c + 2 ^ c = 4096 := by
  have : 2 ^ c ≤ 2 ^ 12 := Nat.pow_le_pow_right (by decide) (by omega)
  unfold hh
  omega
def phi (p : Nat → Bool) : Nat := sg (fun c => bif p c then hh c else 0) 12
theorem phi_is (p : Nat → Bool) : phi p + mk p 12 = 4096 * cntB p 12 := by
  unfold phi
  rw [← sg_num, ← sg_cnt, ← sg_add]
  refine sg_congr 12 fun c hc => ?_
  have := hh_2 hc
  cases p c
  · rfl
  · exact this
theorem ds_lin {t : KT} (a : Nat) (F G : Nat → Nat) : ∀ n, ds (fun c => a * F c + G c) t n = a * ds F t n + ds G t n
  | 0 => rfl
  | n + 1 => by
    show ds (fun c => a * F c + G c) t n + kw (fun c => a * F c + G c) (t n) = a * (ds F t n + kw F (t n)) + (ds G t n + kw G (t n))
    rw [ds_lin a F G n, Nat.mul_add]
    have : kw (fun c => a * F c + G c) (t n) = a * kw F (t n) + kw G (t n) := by
      cases t n <;> rfl
    omega
theorem ds_hh {t : KT} : ∀ n, (∀ i x, i < n → t i = some x → x < 12) → ds hh t n + ds (fun c => 2 ^ c) t n = 4096 * ds (fun _ => 1) t n
  | 0, _ => rfl
  | n + 1, h => by
    have ih := ds_hh n fun i x hi => h i x (by omega)
    show ds hh t n + kw hh (t n) + (ds (fun c => 2 ^ c) t n + kw (fun c => 2 ^ c) (t n)) = 4096 * (ds (fun _ => 1) t n + kw (fun _ => 1) (t n))
    cases ht : t n with
    | none => show ds hh t n + 0 + (ds (fun c => 2 ^ c) t n + 0) = 4096 * (ds (fun _ => 1) t n + 0); omega
    | some x =>
      have := hh_2 (h n x (by omega) ht)
      show ds hh t n + hh x + (ds (fun c => 2 ^ c) t n + 2 ^ x) = 4096 * (ds (fun _ => 1) t n + 1)
      omega
theorem ds_b {t : KT} {F : Nat → Nat} {M : Nat} : ∀ n, (∀ i x, i < n → t i = some x → F x ≤ M) → ds F t n ≤ n * M
  | 0, _ => Nat.zero_le _
  | n + 1, h => by
    have ih := ds_b n fun i x hi => h i x (by omega)
    rw [Nat.add_mul, Nat.one_mul]
    show ds F t n + kw F (t n) ≤ n * M + M
    cases ht : t n with
    | none => show ds F t n + 0 ≤ n * M + M; omega
    | some x =>
      have := h n x (by omega) ht
      show ds F t n + F x ≤ n * M + M
      omega
theorem ds_sg {t : KT} (F : Nat → Nat) (n : Nat) (h : ∀ i x, i < n → t i = some x → x < 12) : ds F t n = sg (fun c => F c * kcnt t c n) 12 := by
  rw [← lsum_ds (Q := List.range 12) List.nodup_range n (fun i x hi hx => List.mem_range.mpr (h i x hi hx)), sg_l]
theorem kcnt_no {t : KT} {x : Nat} : ∀ n, (∀ i, i < n → t i ≠ some x) → kcnt t x n = 0
  | 0, _ => rfl
  | n + 1, h => by
    rw [kcnt_s, kcnt_no n fun i hi => h i (by omega), if_neg (h n (by omega))]
theorem vW_mono {s : AS} {m R S : Nat} {D : Nat → Nat} (hR : R < 4096) (hS : S < 4096) (h : ∀ c, R.testBit c = true → S.testBit c = true) : vW s m D m R ≤ vW s m D m S := by
  obtain ⟨t, h1, h2, h3⟩ := kV_at (g := gB s m D) (F := fW s) (N := aN s) (m := m) m 0 R (by omega) hR
  unfold vW
  rw [← h3]
  exact kV_ub m 0 S t (by omega) hS ⟨fun i x a b c => ⟨(h1.1 i x a b c).1, h x (h1.1 i x a b c).2.1, (h1.1 i x a b c).2.2⟩, h1.2⟩
/-- what the search keeps, as a way -/
theorem kO_way {s : AS} {m S : Nat} {D : Nat → Nat} {Q : List Nat} (hQ : Qok (aW s) S Q) (hS : S < 4096) (hn : ∀ c, S.testBit c = true → c < aN s) (hm : m ≤ 12) :
    ∃ tK : KT, kWay (gB s m D) m ((2 ^ m - 1) ^^^ 4294967295) tK ∧ (∀ i x, i < m → tK i = some x → (kO s m D S Q).testBit x = true) ∧ (∀ c, (kO s m D S Q).testBit c = true → S.testBit c = true) ∧ (∀ c, kcnt tK c m = if (kO s m D S Q).testBit c = true then 1 else 0) ∧ ds (fW s) tK m = vW s m D m S ∧ ∀ (f : Nat → Nat) (t : KT), Q.Pairwise (fun a b => f b ≤ f a) → kWay (gB s m D) m ((2 ^ m - 1) ^^^ 4294967295) t → (∀ i x, i < m → t i = some x → S.testBit x = true) → ds f t m ≤ ds f tK m := by
  have eQ : Q.filter S.testBit = Q := List.filter_eq_self.mpr fun c hc => (hQ.2.1 c).mp hc
  have eb := bO_vW (s := s) (m := m) (lo := 0) (S := S) (B := S) (DB := 2 ^ m - 1) (D := D) hQ (fun c h => h) hS hn hm (Nat.zero_le m) (fun i hi => days_all hm hi)
  have wy := kgo_way (g := gB s m D) (n := m) (s0 := (2 ^ m - 1) ^^^ 4294967295) hm hQ.1
  obtain ⟨-, a2, a3⟩ := gf_ok (g := gB s m D) (m := m) (s0 := (2 ^ m - 1) ^^^ 4294967295) (F := fW s) hm Q [] (fun _ => none) 0 0 (kInv_0 (gB s m D) m ((2 ^ m - 1) ^^^ 4294967295)) (by simpa using hQ.1)
  rw [gf_kgo] at a2 a3
  have eK : kO s m D S Q = (gf (gB s m D) m ((2 ^ m - 1) ^^^ 4294967295) (fW s) Q (fun _ => none) 0 0).2.2 := by
    unfold kO bO
    rw [eQ]
  rw [show (bO s m D Q S (2 ^ m - 1)).1 = (gf (gB s m D) m ((2 ^ m - 1) ^^^ 4294967295) (fW s) Q (fun _ => none) 0 0).2.1 by unfold bO; rw [eQ], a2, Nat.zero_add, Nat.sub_zero] at eb
  have hK : ∀ c, (kO s m D S Q).testBit c = (decide (c ∈ Q) && decide (kcnt (kgo (gB s m D) m ((2 ^ m - 1) ^^^ 4294967295) Q (fun _ => none)) c m = 1)) := fun c => by
    rw [eK, a3, Nat.zero_testBit, Bool.false_or]
  have inQ : ∀ i x, i < m → kgo (gB s m D) m ((2 ^ m - 1) ^^^ 4294967295) Q (fun _ => none) i = some x → x ∈ Q := fun i x hi hx => by
    by_cases e : x ∈ Q
    · exact e
    · have z := wy.2.1 x e
      have := kcnt_of m hi hx
      omega
  have hkc : ∀ c, kcnt (kgo (gB s m D) m ((2 ^ m - 1) ^^^ 4294967295) Q (fun _ => none)) c m = if (kO s m D S Q).testBit c = true then 1 else 0 := fun c => by
    have c1 := wy.1.2 c
    by_cases e : c ∈ Q
    · by_cases e1 : kcnt (kgo (gB s m D) m ((2 ^ m - 1) ^^^ 4294967295) Q (fun _ => none)) c m = 1
      · rw [hK, decide_eq_true e, decide_eq_true e1, if_pos (by decide)]; exact e1
      · rw [hK, decide_eq_false e1, Bool.and_false, if_neg (by decide)]; omega
    · rw [hK, decide_eq_false e, Bool.false_and, if_neg (by decide)]
      exact wy.2.1 c e
  have hbest : ∀ (f : Nat → Nat) (t : KT), Q.Pairwise (fun a b => f b ≤ f a) → kWay (gB s m D) m ((2 ^ m - 1) ^^^ 4294967295) t → lsum (fun x => f x * kcnt t x m) Q ≤ lsum (fun x => f x * kcnt (kgo (gB s m D) m ((2 ^ m - 1) ^^^ 4294967295) Q (fun _ => none)) x m) Q := fun f t hf ht => kgo_ok hm hQ.1 f hf ht
  generalize kgo (gB s m D) m ((2 ^ m - 1) ^^^ 4294967295) Q (fun _ => none) = tK at *
  refine ⟨tK, wy.1, fun i x hi hx => ?_, fun c hc => ?_, hkc, ?_, fun f t hf ht hu => ?_⟩
  · have h1 := kcnt_of m hi hx
    rw [hkc x] at h1
    by_cases e : (kO s m D S Q).testBit x = true
    · exact e
    · rw [if_neg e] at h1; omega
  · rw [hK, Bool.and_eq_true, decide_eq_true_iff] at hc
    exact (hQ.2.1 c).mp hc.1
  · rw [← eb]
    exact (lsum_ds hQ.1 m inQ).symm
  · rw [← lsum_ds hQ.1 m inQ, ← lsum_ds hQ.1 m (fun i x hi hx => (hQ.2.1 x).mpr (hu i x hi hx))]
    exact hbest f t hf ht
theorem spare_one {s : AS} {m S B : Nat} {D : Nat → Nat} {Q : List Nat} (ok : aOK s) (hQ : Qok (aW s) S Q) (hS : S < 4096) (hn : ∀ c, S.testBit c = true → c < aN s) (hm : m ≤ 12) (hv : vW s m D m (nd S B) = vW s m D m S) :
    phi (fun c => S.testBit c && B.testBit c) ≤ phi (fun c => S.testBit c && !(kO s m D S Q).testBit c) := by
  obtain ⟨tK, k1, k2, k3, k4, k5, k6⟩ := kO_way (D := D) hQ hS hn hm
  obtain ⟨t, h1, h2, h3⟩ := kV_at (g := gB s m D) (F := fW s) (N := aN s) (m := m) m 0 (nd S B) (by omega) (Nat.lt_of_le_of_lt (nd_le _ _) hS)
  generalize kO s m D S Q = K at *
  have tR : ∀ i x, i < m → t i = some x → (nd S B).testBit x = true := fun i x hi hx => (h1.1 i x (Nat.zero_le i) hi hx).2.1
  have tS : ∀ i x, i < m → t i = some x → S.testBit x = true := fun i x hi hx => nd_sub (tR i x hi hx)
  have t12 : ∀ i x, i < m → t i = some x → x < 12 := fun i x hi hx => b12 hS (tS i x hi hx)
  have K12 : ∀ i x, i < m → tK i = some x → x < 12 := fun i x hi hx => b12 hS (k3 x (k2 i x hi hx))
  have tw : kWay (gB s m D) m ((2 ^ m - 1) ^^^ 4294967295) t := ⟨fun i x hi hx => ⟨(h1.1 i x (Nat.zero_le i) hi hx).1, by rw [days_all hm hi]; exact decide_eq_false (by omega)⟩, fun x => kcnt_inj m fun i j a b c d => h1.2 i j x (Nat.zero_le i) a b c d⟩
  have ev : ds (fW s) t m = ds (fW s) tK m := by
    have := ds_dsr (fW s) t m 0
    rw [Nat.zero_add, h3] at this
    rw [this, k5, ← hv]
    show 0 + vW s m D m (nd S B) = vW s m D m (nd S B)
    omega
  have e1 : ∀ T : KT, ds (fW s) T m = 1000 * ds (fun _ => 1) T m + ds (aW s) T m := fun T => ds_lin 1000 (fun _ => 1) (aW s) m
  have w1 : ds (aW s) t m ≤ m * 29 := ds_b m fun i x hi hx => ok.w (hn x (tS i x hi hx))
  have w2 : ds (aW s) tK m ≤ m * 29 := ds_b m fun i x hi hx => ok.w (hn x (k3 x (k2 i x hi hx)))
  have m29 : m * 29 ≤ 12 * 29 := Nat.mul_le_mul_right 29 hm
  have eo : ds (fun _ => 1) t m = ds (fun _ => 1) tK m := by
    have a1 := e1 t
    have a2 := e1 tK
    omega
  have hb := k6 (fun c => 8192 * fW s c + 2 ^ c) t (List.Pairwise.imp_of_mem (fun {a b} ha hb h => by
    have pa : 2 ^ a ≤ 2 ^ 12 := Nat.pow_le_pow_right (by decide) (by have := b12 hS ((hQ.2.1 a).mp ha); omega)
    have pb : 2 ^ b ≤ 2 ^ 12 := Nat.pow_le_pow_right (by decide) (by have := b12 hS ((hQ.2.1 b).mp hb); omega)
    show 8192 * (1000 + aW s b) + 2 ^ b ≤ 8192 * (1000 + aW s a) + 2 ^ a
    have ga := Nat.two_pow_pos a
    have gb := Nat.two_pow_pos b
    rcases h with z | ⟨z, z2⟩
    · omega
    · have : 2 ^ b ≤ 2 ^ a := Nat.pow_le_pow_right (by decide) (by omega)
      omega) hQ.2.2) tw tS
  rw [ds_lin 8192 (fW s) (fun c => 2 ^ c), ds_lin 8192 (fW s) (fun c => 2 ^ c), ev] at hb
  have hh1 := ds_hh m t12
  have hh2 := ds_hh m K12
  have hge : ds hh tK m ≤ ds hh t m := by omega
  rw [ds_sg hh m t12, ds_sg hh m K12] at hge
  have p1 : phi (fun c => S.testBit c && B.testBit c) + sg (fun c => hh c * kcnt t c m) 12 ≤ phi S.testBit := by
    unfold phi
    rw [← sg_add]
    refine sg_le 12 fun c hc => ?_
    dsimp only
    cases hs : S.testBit c
    · rw [Bool.false_and, cond_false, kcnt_no m fun i hi hx => by rw [tS i c hi hx] at hs; cases hs]
      exact Nat.le_refl _
    · rw [Bool.true_and, cond_true]
      cases hb : B.testBit c
      · rw [cond_false]
        have := Nat.mul_le_mul_left (hh c) (tw.2 c)
        omega
      · rw [cond_true, kcnt_no m fun i hi hx => by
          have := tR i c hi hx
          rw [nd_bit, hs, hb, decide_eq_true (show c < 32 by omega)] at this
          cases this]
        exact Nat.le_refl _
  have p2 : phi (fun c => S.testBit c && !K.testBit c) + sg (fun c => hh c * kcnt tK c m) 12 = phi S.testBit := by
    unfold phi
    rw [← sg_add]
    refine sg_congr 12 fun c hc => ?_
    dsimp only
    rw [k4 c]
    cases hs : S.testBit c
    · rw [Bool.false_and, cond_false, if_neg (fun z => by rw [k3 c z] at hs; cases hs)]
      rfl
    · rw [Bool.true_and, cond_true]
      cases hk : K.testBit c
      · rw [Bool.not_false, cond_true, if_neg (by decide)]
        rfl
      · rw [Bool.not_true, cond_false, if_pos rfl]
        omega
  omega
theorem spare_star {s : AS} {m S B : Nat} {D : Nat → Nat} {Q : List Nat} (hQ : Qok (aW s) S Q) (hS : S < 4096) (hn : ∀ c, S.testBit c = true → c < aN s) (hm : m ≤ 12) (hB : ∀ c, S.testBit c = true → B.testBit c = !(kO s m D S Q).testBit c) : vW s m D m (nd S B) = vW s m D m S := by
  have nS : nd S B < 4096 := Nat.lt_of_le_of_lt (nd_le _ _) hS
  obtain ⟨tK, k1, k2, k3, k4, k5, k6⟩ := kO_way (D := D) hQ hS hn hm
  apply Nat.le_antisymm
  · exact vW_mono nS hS fun c hc => nd_sub hc
  · have hu := kV_ub (g := gB s m D) (F := fW s) (N := aN s) (m := m) m 0 (nd S B) tK (by omega) nS ⟨fun i x h1 h2 h3 => by
      have kx := k2 i x h2 h3
      have sx := k3 x kx
      refine ⟨(k1.1 i x h2 h3).1, ?_, hn x sx⟩
      have := b12 hS sx
      rw [nd_bit, sx, hB x sx, kx, decide_eq_true (show x < 32 by omega)]
      rfl, fun i j x h1 h2 h3 h4 h5 => by
      have q1 := k1.2 x
      have q2 := kcnt_two m h2 h3 h4 h5
      omega⟩
    have := ds_dsr (fW s) tK m 0
    rw [Nat.zero_add, k5] at this
    have e0 : ds (fW s) tK 0 = 0 := rfl
    unfold vW at this ⊢
    omega
/-- the day's values of one -/
def vS (s : AS) (w n B : Nat) : Nat := vW s (nM s w (aP s w 0) n) (nD s w (aP s w 0)) (nM s w (aP s w 0) n) B
def spC (s : AS) (n B : Nat) : Bool := decide (nd B (unU s) = 0) && (decide (vS s 0 n (nd (unS s 0) B) = vS s 0 n (unS s 0)) && decide (vS s 1 n (nd (unS s 1) B) = vS s 1 n (unS s 1)))
def spF (s : AS) (n B o : Nat) : Nat := if spC s n B = true then (if cntB o.testBit 12 < cntB B.testBit 12 then B else o) else o
theorem fol_best {c : Nat → Bool} {k : Nat → Nat} {F : Nat → Nat → Nat} (hF : ∀ B o, F B o = if c B = true then (if k o < k B then B else o) else o) {T N : Nat} (h0 : c 0 = true) (hT : c T = true) (hb : ∀ B, B < N → c B = true → k B ≤ k T ∧ (k B = k T → T ≤ B)) : ∀ n, n ≤ N → (n ≤ T → c (fol F 0 n 0) = true ∧ (fol F 0 n 0 < n ∨ fol F 0 n 0 = 0)) ∧ (T < n → fol F 0 n 0 = T)
  | 0, _ => ⟨fun _ => ⟨h0, Or.inr rfl⟩, fun h => absurd h (by omega)⟩
  | n + 1, hn => by
    obtain ⟨i1, i2⟩ := fol_best hF h0 hT hb n (by omega)
    rw [fol_last, Nat.zero_add, hF]
    generalize fol F 0 n 0 = o at *
    constructor
    · intro h
      obtain ⟨c1, c2⟩ := i1 (by omega)
      split
      · rename_i q
        split
        · exact ⟨q, Or.inl (by omega)⟩
        · exact ⟨c1, by omega⟩
      · exact ⟨c1, by omega⟩
    · intro h
      by_cases e : T = n
      · subst e
        obtain ⟨c1, c2⟩ := i1 (Nat.le_refl _)
        rw [if_pos hT]
        by_cases q : k o < k T
        · rw [if_pos q]
        · rw [if_neg q]
          obtain ⟨b1, b2⟩ := hb o (by omega) c1
          have := b2 (by omega)
          omega
      · have e2 := i2 (by omega)
        subst e2
        split
        · rename_i q
          obtain ⟨b1, b2⟩ := hb n (by omega) q
          rw [if_neg (by omega)]
        · rfl
theorem un_own {s : AS} (ok : aOK s) (c : Nat) : (unU s).testBit c = ((unS s 0).testBit c || (unS s 1).testBit c) ∧ ((unS s 0).testBit c && (unS s 1).testBit c) = false := by
  rw [unU_bit]
  unfold unS
  rw [mk_bit, mk_bit]
  by_cases hc : c < aN s
  · have := (ok.c hc).2.2.1
    rw [decide_eq_true hc]
    rcases (by omega : aC s c 2 = 0 ∨ aC s c 2 = 1) with e | e
    · rw [e]; cases aX s c <;> decide
    · rw [e]; cases aX s c <;> decide
  · rw [decide_eq_false hc]
    simp
/-- the class's set is the reference's first with most -/
theorem spare_is {s : AS} (ok : aOK s) {n : Nat} (hn2 : n ≤ 83) {Q0 Q1 : List Nat} (h0 : Qok (aW s) (unS s 0) Q0) (h1 : Qok (aW s) (unS s 1) Q1) :
    nd (nd (unU s) (kO s (nM s 0 (aP s 0 0) n) (nD s 0 (aP s 0 0)) (unS s 0) Q0)) (kO s (nM s 1 (aP s 1 0) n) (nD s 1 (aP s 1 0)) (unS s 1) Q1) = fol (spF s n) 0 (2 ^ aN s) 0 := by
  have n12 := ok.2.1
  have U12 := unU_lt n12
  have Un : unU s < 2 ^ aN s := mk_lt _ _
  have p12 : 2 ^ aN s ≤ 4096 := Nat.pow_le_pow_right (n := 2) (by decide) (show aN s ≤ 12 from n12)
  have S0 := unS_lt (w := 0) n12
  have S1 := unS_lt (w := 1) n12
  have m0 := nM_le ok (w := 0) (wd := aP s 0 0) hn2
  have m1 := nM_le ok (w := 1) (wd := aP s 1 0) hn2
  obtain ⟨-, -, -, s0, -, -, -⟩ := kO_way (D := nD s 0 (aP s 0 0)) h0 S0 (fun c hc => unS_n hc) m0
  obtain ⟨-, -, -, s1, -, -, -⟩ := kO_way (D := nD s 1 (aP s 1 0)) h1 S1 (fun c hc => unS_n hc) m1
  have one0 := fun B => spare_one (B := B) (D := nD s 0 (aP s 0 0)) ok h0 S0 (fun c hc => unS_n hc) m0
  have one1 := fun B => spare_one (B := B) (D := nD s 1 (aP s 1 0)) ok h1 S1 (fun c hc => unS_n hc) m1
  have st0 := fun B => spare_star (B := B) (D := nD s 0 (aP s 0 0)) h0 S0 (fun c hc => unS_n hc) m0
  have st1 := fun B => spare_star (B := B) (D := nD s 1 (aP s 1 0)) h1 S1 (fun c hc => unS_n hc) m1
  generalize kO s (nM s 0 (aP s 0 0) n) (nD s 0 (aP s 0 0)) (unS s 0) Q0 = K0 at *
  generalize kO s (nM s 1 (aP s 1 0) n) (nD s 1 (aP s 1 0)) (unS s 1) Q1 = K1 at *
  have tl : nd (nd (unU s) K0) K1 ≤ unU s := Nat.le_trans (nd_le _ _) (nd_le _ _)
  have tb : ∀ c, (nd (nd (unU s) K0) K1).testBit c = ((unU s).testBit c && (!K0.testBit c && !K1.testBit c)) := fun c => by
    rw [nd_bit, nd_bit]
    cases hu : (unU s).testBit c
    · simp
    · have := b12 U12 hu
      rw [decide_eq_true (show c < 32 by omega)]
      cases K0.testBit c <;> cases K1.testBit c <;> rfl
  generalize nd (nd (unU s) K0) K1 = T at *
  have T0 : ∀ c, (unS s 0).testBit c = true → T.testBit c = !K0.testBit c := fun c hc => by
    obtain ⟨a1, a2⟩ := un_own ok c
    rw [tb, a1, hc]
    cases hk : K1.testBit c
    · simp
    · rw [hc, s1 c hk] at a2; cases a2
  have T1 : ∀ c, (unS s 1).testBit c = true → T.testBit c = !K1.testBit c := fun c hc => by
    obtain ⟨a1, a2⟩ := un_own ok c
    rw [tb, a1, hc]
    cases hk : K0.testBit c
    · simp
    · rw [hc, s0 c hk] at a2; cases a2
  have can_of : ∀ B, B < 4096 → (∀ c, B.testBit c = true → (unU s).testBit c = true) → nd B (unU s) = 0 := fun B hB h => by
    apply Nat.eq_of_testBit_eq
    intro c
    rw [nd_bit, Nat.zero_testBit]
    cases hb : B.testBit c
    · rfl
    · have := b12 hB hb
      rw [h c hb, decide_eq_true (show c < 32 by omega)]
      rfl
  have hT : spC s n T = true := by
    unfold spC vS
    rw [can_of T (by omega) (fun c hc => by rw [tb, Bool.and_eq_true] at hc; exact hc.1), st0 T T0, st1 T T1]
    simp
  have h00 : spC s n 0 = true := by
    unfold spC
    rw [nd_00 S0, nd_00 S1, can_of 0 (by decide) (fun c hc => by rw [Nat.zero_testBit] at hc; cases hc)]
    simp
  have sp : ∀ B, B < 4096 → (∀ c, B.testBit c = true → (unU s).testBit c = true) → phi B.testBit = phi (fun c => (unS s 0).testBit c && B.testBit c) + phi (fun c => (unS s 1).testBit c && B.testBit c) := fun B hB h => by
    unfold phi
    rw [← sg_add]
    refine sg_congr 12 fun c hc => ?_
    obtain ⟨a1, a2⟩ := un_own ok c
    dsimp only
    have hs := h c
    rw [a1] at hs
    cases hb : B.testBit c
    · simp
    · have := hs hb
      cases e0 : (unS s 0).testBit c <;> cases e1 : (unS s 1).testBit c <;> rw [e0, e1] at a2 this
      · cases this
      · simp
      · simp
      · cases a2
  have hb : ∀ B, B < 2 ^ aN s → spC s n B = true → cntB B.testBit 12 ≤ cntB T.testBit 12 ∧ (cntB B.testBit 12 = cntB T.testBit 12 → T ≤ B) := fun B hB hc => by
    unfold spC at hc
    rw [Bool.and_eq_true, Bool.and_eq_true, decide_eq_true_iff, decide_eq_true_iff, decide_eq_true_iff] at hc
    obtain ⟨c0, c1, c2⟩ := hc
    have q0 := one0 B c1
    have q1 := one1 B c2
    have eB := sp B (by omega) (fun c hc => can_sub (by omega) c0 hc)
    have eT := sp T (by omega) (fun c hc => by rw [tb, Bool.and_eq_true] at hc; exact hc.1)
    have x0 : phi (fun c => (unS s 0).testBit c && T.testBit c) = phi (fun c => (unS s 0).testBit c && !K0.testBit c) := by
      unfold phi
      refine sg_congr 12 fun c hc => ?_
      dsimp only
      cases hs : (unS s 0).testBit c
      · rfl
      · rw [T0 c hs]
    have x1 : phi (fun c => (unS s 1).testBit c && T.testBit c) = phi (fun c => (unS s 1).testBit c && !K1.testBit c) := by
      unfold phi
      refine sg_congr 12 fun c hc => ?_
      dsimp only
      cases hs : (unS s 1).testBit c
      · rfl
      · rw [T1 c hs]
    have i1 := phi_is B.testBit
    have i2 := phi_is T.testBit
    rw [mk_own (by omega)] at i1 i2
    omega
  exact (((fol_best (fun B o => rfl) h00 hT hb (2 ^ aN s) (Nat.le_refl _)).2 (by omega))).symm
theorem op_spare {σ : GS} (ok : GOK σ) {z1 z2 : Int} (h1 : iB z1) (h2 : iB z2) : OP 94 244 [qI (zI z1), qI (zI z2)] σ := by
  have b1 := h1.1
  have b2 := h1.2
  have b3 := h2.1
  have b4 := h2.2
  have bD := ok.1.1
  have n12 := ok.1.2.1
  have hr0 := fDay_r (gS σ) z1
  have hr := fWh_r (z := z2) (m := 1) hr0
  have U12 := unU_lt n12
  have p12 : 2 ^ aN (gS σ) ≤ 4096 := Nat.pow_le_pow_right (n := 2) (by decide) (show aN (gS σ) ≤ 12 from n12)
  have st : ∀ d μ, MI μ σ → qcall qprogs (d + 30) 244 [qR (24, 0, 0), qI (zI z1), qI (zI z2)] μ = qx (d + 29) qc_M_spare 27 [some (qR (24, 0, 0)), some (qI (zI z1)), some (qI (zI z2)), some (qI (zI (fWh (fDay (gS σ) z1) z2 1))), none, none] [] μ := fun d μ h => by
    rw [qe_M_spare, qb_M_spare_0, h.1.day, zI_of, c_M_bound (d + 28) (by omega), qbI_some, show (if z1 < (aD (gS σ) : Nat) then (-4 : Int) else if 83 < z1 then -6 else 0) = fDay (gS σ) z1 from rfl]
    unfold fWh
    by_cases e : fDay (gS σ) z1 = 0
    · rw [e, if_pos zI0, if_pos rfl, zI_of 0, zI_of, c_M_isIn (d + 28) (by unfold iB at *; omega), qbI_some, qB_if]
      by_cases e2 : 0 ≤ z2 ∧ z2 ≤ 1
      · rw [show (decide ((0 : Int) ≤ z2) && decide (z2 ≤ 1)) = true by simp [e2], cond_true, if_pos e2]
      · rw [show (decide ((0 : Int) ≤ z2) && decide (z2 ≤ 1)) = false by rw [← Bool.decide_and]; exact decide_eq_false e2, cond_false, if_neg e2, zI_of]
    · rw [if_neg (zI_n0 (by omega)), if_neg e]
  by_cases hf : fWh (fDay (gS σ) z1) z2 1 = 0
  · have hf0 := hf
    obtain ⟨hf1, hz0, hz1⟩ := fWh_0 hf
    obtain ⟨n, rfl, hn, hn2⟩ := fDay_0 hf1
    have inv : ∀ r c o, o < 4096 → c + r ≤ 4096 → fol (spF (gS σ) n) c r o < 4096 := by
      intro r
      induction r with
      | zero => intro c o h1 h2; exact h1
      | succ r ih =>
        intro c o h1 h2
        rw [fol_s]
        refine ih (c + 1) _ ?_ (by omega)
        unfold spF
        split
        · split
          · omega
          · exact h1
        · exact h1
    have T4 := inv (2 ^ aN (gS σ)) 0 0 (by decide) (by omega)
    refine ⟨qI (zI (if z2 = 0 then ((fol (spF (gS σ) n) 0 (2 ^ aN (gS σ)) 0 : Nat) : Int) else ((cntB (fol (spF (gS σ) n) 0 (2 ^ aN (gS σ)) 0).testBit 12 : Nat) : Int))), σ, fun d μ h => ?_, fun d μ h => ?_, ok⟩
    · obtain ⟨μ1, Q0, Q1, r1, r2, r3, r4, r5, r6⟩ := c_J_valueOfBoth (d + 12) (show 0 < 11 by decide) h.1.1 ok.1 hn hn2 (h.2 0 (by decide)).1 (h.2 1 (by decide)).1
      have ra := h.1.1.pls r2
      have ci := h.pb r2 (n := n) ⟨⟨Q0, r3⟩, Q1, r4⟩
      have es := spare_is ok.1 hn2 r3.2.2.2.2 r4.2.2.2.2
      refine ⟨μ1, ?_, ci.1, ci.2⟩
      rw [qe_J_spare, qb_J_spare_0, c_J_faultOfDayWhat (d + 27) h.1.1 ok.1 h1 h2, qbI_some, hf, if_pos zI0, qb_J_spare_17, r1, qbI_some, c_Affair_unused (d + 27) (show 0 < 11 by decide) ra ok.1, qbI_some, show mk (aX (gS σ)) (aN (gS σ)) = unU (gS σ) from rfl, r5, r6, zI_of, zI_nd, zI_nd, es]
      by_cases e : z2 = 0
      · rw [if_pos (show zI z2 = 0 by rw [e]; exact zI0), if_pos e, qb_J_spare_70]
      · rw [if_neg (show ¬ zI z2 = 0 by rw [zI_0, zI_eq (by omega)]; exact e), if_neg e, qb_J_spare_65, c_bitCount (d + 28) T4, qbI_some, qb_J_spare_70]
    · obtain ⟨μ1, r1, r2, r3, r4⟩ := c_M_findBoth (d + 23) h.1 ok.1 hn hn2
      have lb := r4
      obtain ⟨m1, m2, -, m3, m4, m5⟩ := r4
      have O0 := ownS_lt (s := gS σ) (w := 0) (m := nM (gS σ) 0 (aP (gS σ) 0 0) n) (D := nD (gS σ) 0 (aP (gS σ) 0 0)) n12
      have vle : ∀ w B, vS (gS σ) w n B ≤ 12348 := fun w B => vW_le ok.1 (nM_le ok.1 hn2)
      have v0 : ∀ b, μ1.1 (48, 0, 0) (nd (ownS (gS σ) 0 (nM (gS σ) 0 (aP (gS σ) 0 0) n) (nD (gS σ) 0 (aP (gS σ) 0 0))) b) = zI (vS (gS σ) 0 n (nd (unS (gS σ) 0) b) : Nat) := fun b => by
        rw [m2 _ (sub_of fun c hc => nd_sub hc)]
        unfold vS
        rw [own_all n12 b _ (Nat.le_refl _)]
      have v00 : μ1.1 (48, 0, 0) (ownS (gS σ) 0 (nM (gS σ) 0 (aP (gS σ) 0 0) n) (nD (gS σ) 0 (aP (gS σ) 0 0))) = zI (vS (gS σ) 0 n (unS (gS σ) 0) : Nat) := by
        have := v0 0
        rw [nd_00 O0, nd_00 (unS_lt n12)] at this
        exact this
      have v1 : ∀ b, μ1.1 (43, 0, 0) (nd (ownS (gS σ) 1 (nM (gS σ) 1 (aP (gS σ) 1 0) n) (nD (gS σ) 1 (aP (gS σ) 1 0))) b) = zI (vS (gS σ) 1 n (nd (unS (gS σ) 1) b) : Nat) := fun b => by
        have := m5 0 (Nat.zero_le _) _ (sub_of (S := nd (ownS (gS σ) 1 (nM (gS σ) 1 (aP (gS σ) 1 0) n) (nD (gS σ) 1 (aP (gS σ) 1 0))) b) (fun c hc => nd_sub hc))
        rw [Nat.mul_zero, Nat.zero_add, Nat.sub_zero] at this
        rw [this]
        unfold vS
        rw [own_all n12 b _ (Nat.le_refl _)]
      have v10 : μ1.1 (43, 0, 0) (ownS (gS σ) 1 (nM (gS σ) 1 (aP (gS σ) 1 0) n) (nD (gS σ) 1 (aP (gS σ) 1 0))) = zI (vS (gS σ) 1 n (unS (gS σ) 1) : Nat) := by
        have := v1 0
        rw [nd_00 m4, nd_00 (unS_lt n12)] at this
        exact this
      generalize ownS (gS σ) 0 (nM (gS σ) 0 (aP (gS σ) 0 0) n) (nD (gS σ) 0 (aP (gS σ) 0 0)) = A0 at *
      generalize ownS (gS σ) 1 (nM (gS σ) 1 (aP (gS σ) 1 0) n) (nD (gS σ) 1 (aP (gS σ) 1 0)) = A1 at *
      have L : ∀ r c o, c + r = 2 ^ aN (gS σ) → o < 4096 → qx (d + 29) qc_M_spare 48 [some (qR (24, 0, 0)), none, some (qI (zI z2)), none, some (qI (zI (o : Nat))), some (qI (zI (c : Nat)))] [] μ1 = qx (d + 29) qc_M_spare 149 [none, none, some (qI (zI z2)), none, some (qI (zI (fol (spF (gS σ) n) c r o : Nat))), none] [] μ1 := by
        intro r
        induction r with
        | zero =>
          intro c o hc ho
          rw [qb_M_spare_48, r3.cnt]
          simp only [zI_of, zI_31]
          rw [zI_bit (by omega), if_pos (by rw [zI_le (by omega)]; omega)]
          rfl
        | succ r ih =>
          intro c o hc ho
          have i1 := ih (c + 1) (spF (gS σ) n c o) (by omega) (by
            unfold spF
            split
            · split
              · omega
              · exact ho
            · exact ho)
          have e143 : ∀ x, qx (d + 29) qc_M_spare 143 [some (qR (24, 0, 0)), none, some (qI (zI z2)), none, some (qI (zI (x : Nat))), some (qI (zI (c : Nat)))] [] μ1 = qx (d + 29) qc_M_spare 48 [some (qR (24, 0, 0)), none, some (qI (zI z2)), none, some (qI (zI (x : Nat))), some (qI (zI ((c + 1 : Nat) : Int)))] [] μ1 := fun x => by
            rw [qb_M_spare_143, zI_of, zI_add]
            rfl
          have ndl := nd_le c (unU (gS σ))
          have k1 := cntB_le (P := c.testBit) 12
          have k2 := cntB_le (P := o.testBit) 12
          have nA0 := nd_le A0 c
          have nA1 := nd_le A1 c
          have q0 := vle 0 (nd (unS (gS σ) 0) c)
          have q00 := vle 0 (unS (gS σ) 0)
          have q1 := vle 1 (nd (unS (gS σ) 1) c)
          have q10 := vle 1 (unS (gS σ) 1)
          rw [qb_M_spare_48, r3.cnt]
          simp only [zI_of, zI_31]
          rw [zI_bit (by omega), if_neg (by rw [zI_le (by omega)]; omega), c_M_unused (d + 28) r3 ok.1, qbI_some, show mk (aX (gS σ)) (aN (gS σ)) = unU (gS σ) from rfl, zI_nd, fol_s]
          unfold spF at i1 ⊢
          have no : ¬ spC (gS σ) n c = true → qx (d + 29) qc_M_spare 143 [some (qR (24, 0, 0)), none, some (qI (zI z2)), none, some (qI (zI (o : Nat))), some (qI (zI (c : Nat)))] [] μ1 = qx (d + 29) qc_M_spare 149 [none, none, some (qI (zI z2)), none, some (qI (zI (fol (spF (gS σ) n) (c + 1) r (if spC (gS σ) n c = true then if cntB o.testBit 12 < cntB c.testBit 12 then c else o else o) : Nat))), none] [] μ1 := fun hc => by
            rw [if_neg hc] at i1 ⊢
            rw [e143]
            exact i1
          by_cases c1 : nd c (unU (gS σ)) = 0
          · rw [if_pos (by rw [c1]; exact zI0), c_M_bits (d + 28) (by omega), qbI_some, c_M_bits (d + 28) ho, qbI_some]
            by_cases c2 : cntB o.testBit 12 < cntB c.testBit 12
            · rw [if_pos (by rw [zI_lt (by omega)]; omega), qb_M_spare_87, m1, m3]
              simp only [zI_of]
              rw [zI_nd, zI_nd, zI_oob (n := 4096) (by omega), cond_false, zI_oob (n := 4096) (by omega), cond_false, show qix (zI (nd A0 c : Nat)) = nd A0 c from zI_ixN (by omega), show qix (zI (A0 : Nat)) = A0 from zI_ixN (by omega), show qix (zI (nd A1 c : Nat)) = nd A1 c from zI_ixN (by omega), show qix (zI (A1 : Nat)) = A1 from zI_ixN (by omega), v0, v00, v1, v10, zI_oob (n := 53248) (by omega), cond_false, zI_oob (n := 53248) (by omega), cond_false]
              by_cases c3 : vS (gS σ) 0 n (nd (unS (gS σ) 0) c) = vS (gS σ) 0 n (unS (gS σ) 0)
              · rw [if_pos (by rw [c3])]
                by_cases c4 : vS (gS σ) 1 n (nd (unS (gS σ) 1) c) = vS (gS σ) 1 n (unS (gS σ) 1)
                · have cc : spC (gS σ) n c = true := by unfold spC; rw [decide_eq_true c1, decide_eq_true c3, decide_eq_true c4]; rfl
                  rw [if_pos cc, if_pos c2] at i1 ⊢
                  rw [if_pos (by rw [c4]), e143]
                  exact i1
                · rw [if_neg (by rw [zI_eq (by omega)]; omega)]
                  exact no (by unfold spC; rw [decide_eq_false c4, Bool.and_false, Bool.and_false]; decide)
              · rw [if_neg (by rw [zI_eq (by omega)]; omega)]
                exact no (by unfold spC; rw [decide_eq_false c3, Bool.false_and, Bool.and_false]; decide)
            · rw [if_neg (by rw [zI_lt (by omega)]; omega), e143]
              rw [if_neg c2, ite_self] at i1 ⊢
              exact i1
          · rw [if_neg (by rw [zI_0, zI_eq (by omega)]; omega)]
            exact no (by unfold spC; rw [decide_eq_false c1, Bool.false_and]; decide)
      have l0 := L (2 ^ aN (gS σ)) 0 0 (by omega) (by decide)
      refine ⟨μ1, ?_, h.r ok r2 r3, r2.md⟩
      rw [st d μ h, hf, qb_M_spare_27, if_pos zI0, qb_M_spare_37, r1, qbV_some]
      simp only [zI_of]
      refine Eq.trans l0 ?_
      rw [qb_M_spare_149]
      by_cases e : z2 = 0
      · rw [if_pos (show zI z2 = 0 by rw [e]; exact zI0), if_pos e, qb_M_spare_163]
      · rw [if_neg (show ¬ zI z2 = 0 by rw [zI_0, zI_eq (by omega)]; exact e), if_neg e, qb_M_spare_158, c_M_bits (d + 28) T4, qbI_some, qb_M_spare_163]
  · refine ⟨qI (zI (fWh (fDay (gS σ) z1) z2 1)), refS σ (-(fWh (fDay (gS σ) z1) z2 1)).toNat, fun d μ h => ?_, fun d μ h => ?_, ok.ref⟩
    · rw [qe_J_spare, qb_J_spare_0, c_J_faultOfDayWhat (d + 27) h.1.1 ok.1 h1 h2, qbI_some, if_neg (by rw [zI_0, zI_eq (by omega)]; exact hf)]
      exact j_ref1 (d := d + 28) h (by omega)
    · rw [st d μ h, qb_M_spare_27, if_neg (by rw [zI_0, zI_eq (by omega)]; exact hf)]
      exact m_ref1 (d := d + 28) h (by omega)
end
