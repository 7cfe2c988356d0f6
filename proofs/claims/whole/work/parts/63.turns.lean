section
/-! by turns taking: the heaviest first is best for both -/
def alt (f : Nat → Nat) : List Nat → Int
  | [] => 0
  | c :: r => f c - alt f r
abbrev rmv (y : Nat) (L : List Nat) : List Nat := L.filter (fun x => decide (¬ x = y))
theorem alt_b {f : Nat → Nat} : ∀ (L : List Nat) (M : Nat), L.Pairwise (fun a b => f b ≤ f a) → (∀ x ∈ L, f x ≤ M) → 0 ≤ alt f L ∧ alt f L ≤ M
  | [], M, _, _ => ⟨Int.le_refl 0, by show (0 : Int) ≤ M; omega⟩
  | c :: r, M, h, hM => by
    obtain ⟨h1, h2⟩ := List.pairwise_cons.mp h
    obtain ⟨a1, a2⟩ := alt_b r (f c) h2 h1
    have := hM c (List.mem_cons_self ..)
    show 0 ≤ (f c : Int) - alt f r ∧ (f c : Int) - alt f r ≤ M
    omega
theorem alt_er {f : Nat → Nat} : ∀ (L : List Nat) (M y : Nat), L.Nodup → L.Pairwise (fun a b => f b ≤ f a) → (∀ x ∈ L, f x ≤ M) → y ∈ L → (f y : Int) ≤ alt f L + alt f (rmv y L) ∧ alt f L + alt f (rmv y L) ≤ 2 * M - f y
  | [], _, _, _, _, _, hy => by cases hy
  | c :: r, M, y, hn, h, hM, hy => by
    obtain ⟨h1, h2⟩ := List.pairwise_cons.mp h
    obtain ⟨n1, n2⟩ := List.nodup_cons.mp hn
    have hc := hM c (List.mem_cons_self ..)
    have e : alt f (c :: r) = (f c : Int) - alt f r := rfl
    by_cases q : c = y
    · subst q
      have er : rmv c (c :: r) = r := by
        unfold rmv
        rw [List.filter_cons, if_neg (by simp)]
        exact List.filter_eq_self.mpr fun x hx => decide_eq_true (fun z => n1 (z ▸ hx))
      rw [er, e]
      omega
    · have hr : y ∈ r := by
        rcases List.mem_cons.mp hy with z | z
        · exact absurd z.symm q
        · exact z
      have er : rmv y (c :: r) = c :: rmv y r := by
        unfold rmv
        rw [List.filter_cons, if_pos (decide_eq_true q)]
      obtain ⟨i1, i2⟩ := alt_er r (f c) y n2 h2 h1 hr
      rw [er, e, show alt f (c :: rmv y r) = (f c : Int) - alt f (rmv y r) from rfl]
      omega
theorem qok_uniq {f : Nat → Nat} : ∀ (Q1 Q2 : List Nat), Q1.Nodup → Q2.Nodup → Q1.Pairwise (Rk f) → Q2.Pairwise (Rk f) → (∀ c, c ∈ Q1 ↔ c ∈ Q2) → Q1 = Q2
  | [], [], _, _, _, _, _ => rfl
  | [], b :: r, _, _, _, _, h => by have := (h b).mpr (List.mem_cons_self ..); cases this
  | a :: r, [], _, _, _, _, h => by have := (h a).mp (List.mem_cons_self ..); cases this
  | a :: r, b :: t, n1, n2, p1, p2, h => by
    obtain ⟨a1, a2⟩ := List.pairwise_cons.mp p1
    obtain ⟨b1, b2⟩ := List.pairwise_cons.mp p2
    obtain ⟨m1, m2⟩ := List.nodup_cons.mp n1
    obtain ⟨m3, m4⟩ := List.nodup_cons.mp n2
    have e : a = b := by
      rcases List.mem_cons.mp ((h a).mp (List.mem_cons_self ..)) with z | z
      · exact z
      · rcases List.mem_cons.mp ((h b).mpr (List.mem_cons_self ..)) with y | y
        · exact y.symm
        · have r1 := a1 b y
          have r2 := b1 a z
          unfold Rk at r1 r2
          omega
    subst e
    rw [qok_uniq r t m2 m4 a2 b2 fun c => by
      constructor
      · intro hc
        rcases List.mem_cons.mp ((h c).mp (List.mem_cons_of_mem _ hc)) with z | z
        · exact absurd (z ▸ hc) m1
        · exact z
      · intro hc
        rcases List.mem_cons.mp ((h c).mpr (List.mem_cons_of_mem _ hc)) with z | z
        · exact absurd (z ▸ hc) m3
        · exact z]
def insR (f : Nat → Nat) (c : Nat) : List Nat → List Nat
  | [] => [c]
  | a :: r => if f c < f a then a :: insR f c r else c :: a :: r
theorem insR_m {f : Nat → Nat} {c x : Nat} : ∀ L, x ∈ insR f c L ↔ x = c ∨ x ∈ L
  | [] => by simp [insR]
  | a :: r => by
    unfold insR
    split
    · rw [List.mem_cons, insR_m r, List.mem_cons]
      constructor
      · rintro (h | h | h)
        · exact Or.inr (Or.inl h)
        · exact Or.inl h
        · exact Or.inr (Or.inr h)
      · rintro (h | h | h)
        · exact Or.inr (Or.inl h)
        · exact Or.inl h
        · exact Or.inr (Or.inr h)
    · rw [List.mem_cons]
theorem insR_ok {f : Nat → Nat} {c : Nat} : ∀ L : List Nat, L.Nodup → L.Pairwise (Rk f) → (∀ x ∈ L, x < c) → (insR f c L).Nodup ∧ (insR f c L).Pairwise (Rk f)
  | [], _, _, _ => by simp [insR]
  | a :: r, hn, h, hc => by
    obtain ⟨h1, h2⟩ := List.pairwise_cons.mp h
    obtain ⟨n1, n2⟩ := List.nodup_cons.mp hn
    have ca := hc a (List.mem_cons_self ..)
    unfold insR
    split
    · rename_i lt
      obtain ⟨i1, i2⟩ := insR_ok r n2 h2 (fun x hx => hc x (List.mem_cons_of_mem _ hx))
      refine ⟨List.nodup_cons.mpr ⟨fun z => ?_, i1⟩, List.pairwise_cons.mpr ⟨fun b hb => ?_, i2⟩⟩
      · rcases (insR_m r).mp z with y | y
        · omega
        · exact n1 y
      · rcases (insR_m r).mp hb with y | y
        · rw [y]; exact Or.inl lt
        · exact h1 b y
    · rename_i ge
      refine ⟨List.nodup_cons.mpr ⟨fun z => by have := hc c z; omega, hn⟩, List.pairwise_cons.mpr ⟨fun b hb => ?_, h⟩⟩
      have lb := hc b hb
      rcases List.mem_cons.mp hb with y | y
      · subst y; unfold Rk; omega
      · have := h1 b y
        unfold Rk at *
        omega
def srt (f : Nat → Nat) (S : Nat) : Nat → List Nat
  | 0 => []
  | c + 1 => if S.testBit c = true then insR f c (srt f S c) else srt f S c
theorem srt_ok {f : Nat → Nat} {S : Nat} : ∀ N, (srt f S N).Nodup ∧ (srt f S N).Pairwise (Rk f) ∧ ∀ x, x ∈ srt f S N ↔ x < N ∧ S.testBit x = true
  | 0 => by simp [srt]
  | N + 1 => by
    obtain ⟨h1, h2, h3⟩ := srt_ok (f := f) (S := S) N
    unfold srt
    by_cases q : S.testBit N = true
    · rw [if_pos q]
      obtain ⟨i1, i2⟩ := insR_ok (c := N) _ h1 h2 (fun x hx => ((h3 x).mp hx).1)
      refine ⟨i1, i2, fun x => ?_⟩
      rw [insR_m, h3]
      constructor
      · rintro (h | h)
        · rw [h]; exact ⟨by omega, q⟩
        · exact ⟨by omega, h.2⟩
      · intro h
        by_cases e : x = N
        · exact Or.inl e
        · exact Or.inr ⟨by omega, h.2⟩
    · rw [if_neg q]
      refine ⟨h1, h2, fun x => ?_⟩
      rw [h3]
      constructor
      · intro h; exact ⟨by omega, h.2⟩
      · intro h
        by_cases e : x = N
        · rw [e] at h; exact absurd h.2 q
        · exact ⟨by omega, h.2⟩
/-- the value of the game -/
def gm (f : Nat → Nat) (S : Nat) : Int := alt f (srt f S 12)
theorem rk_le {f : Nat → Nat} {L : List Nat} (h : L.Pairwise (Rk f)) : L.Pairwise (fun a b => f b ≤ f a) := h.imp fun {a b} z => by unfold Rk at z; omega
theorem gm_of {f : Nat → Nat} {S : Nat} {Q : List Nat} (hS : S < 4096) (h : Qok f S Q) : gm f S = alt f Q := by
  obtain ⟨h1, h2, h3⟩ := srt_ok (f := f) (S := S) 12
  unfold gm
  rw [qok_uniq _ Q h1 h.1 h2 h.2.2 fun c => by
    rw [h3, h.2.1 c]
    constructor
    · intro z; exact z.2
    · intro z; exact ⟨b12 hS z, z⟩]
theorem rmv_ok {f : Nat → Nat} {S c : Nat} {Q : List Nat} (hS : S < 4096) (hc : c < 12) (h : Qok f S Q) : Qok f (nd S (2 ^ c)) (rmv c Q) := by
  refine ⟨h.1.filter _, fun x => ?_, h.2.2.filter _⟩
  rw [List.mem_filter, h.2.1, nd2 hS, Bool.and_eq_true]
  simp
  intro _
  exact ⟨fun z y => z y.symm, fun z y => z y.symm⟩
theorem srt_q {f : Nat → Nat} {S : Nat} (hS : S < 4096) : Qok f S (srt f S 12) := by
  obtain ⟨h1, h2, h3⟩ := srt_ok (f := f) (S := S) 12
  exact ⟨h1, fun c => by rw [h3]; exact ⟨fun z => z.2, fun z => ⟨b12 hS z, z⟩⟩, h2⟩
theorem gm_le {f : Nat → Nat} {S c : Nat} (hS : S < 4096) (hc : S.testBit c = true) : (f c : Int) - gm f (nd S (2 ^ c)) ≤ gm f S := by
  have q := srt_q (f := f) hS
  have c12 := b12 hS hc
  rw [gm_of (Nat.lt_of_le_of_lt (nd_le _ _) hS) (rmv_ok hS c12 q)]
  have mem := (q.2.1 c).mpr hc
  obtain ⟨M, hM⟩ : ∃ M, ∀ x ∈ srt f S 12, f x ≤ M := by
    have : ∀ L : List Nat, ∃ M, ∀ x ∈ L, f x ≤ M := fun L => by
      induction L with
      | nil => exact ⟨0, fun x hx => by cases hx⟩
      | cons a r ih =>
        obtain ⟨M, hM⟩ := ih
        refine ⟨max (f a) M, fun x hx => ?_⟩
        rcases List.mem_cons.mp hx with z | z
        · rw [z]; exact Nat.le_max_left _ _
        · exact Nat.le_trans (hM x z) (Nat.le_max_right _ _)
    exact this _
  have := (alt_er _ M c q.1 (rk_le q.2.2) hM mem).1
  unfold gm
  omega
theorem gm_at {f : Nat → Nat} {S : Nat} (hS : S < 4096) (h0 : S ≠ 0) : ∃ c, S.testBit c = true ∧ (f c : Int) - gm f (nd S (2 ^ c)) = gm f S := by
  have q := srt_q (f := f) hS
  cases hL : srt f S 12 with
  | nil =>
    exfalso
    apply h0
    apply Nat.eq_of_testBit_eq
    intro i
    rw [Nat.zero_testBit]
    cases hb : S.testBit i
    · rfl
    · have := (q.2.1 i).mpr hb
      rw [hL] at this
      cases this
  | cons c r =>
    rw [hL] at q
    have hc : S.testBit c = true := (q.2.1 c).mp (List.mem_cons_self ..)
    refine ⟨c, hc, ?_⟩
    rw [gm_of (Nat.lt_of_le_of_lt (nd_le _ _) hS) (rmv_ok hS (b12 hS hc) q)]
    have n1 := (List.nodup_cons.mp q.1).1
    have er : rmv c (c :: r) = r := by
      unfold rmv
      rw [List.filter_cons, if_neg (by simp)]
      exact List.filter_eq_self.mpr fun x hx => decide_eq_true (fun z => n1 (z ▸ hx))
    rw [er]
    unfold gm
    rw [hL]
    rfl
theorem gm_b {f : Nat → Nat} {S M : Nat} (hS : S < 4096) (h : ∀ c, S.testBit c = true → f c ≤ M) : 0 ≤ gm f S ∧ gm f S ≤ M := by
  have q := srt_q (f := f) hS
  exact alt_b _ M (rk_le q.2.2) fun x hx => h x ((q.2.1 x).mp hx)
theorem gm_0 (f : Nat → Nat) : gm f 0 = 0 := by
  have := gm_b (f := f) (S := 0) (M := 0) (by decide) (fun c hc => by rw [Nat.zero_testBit] at hc; cases hc)
  omega
def imI (h : Nat → Int) (b : Int) : Nat → Int
  | 0 => b
  | k + 1 => if imI h b k < h k then h k else imI h b k
theorem imI_le {h : Nat → Int} {b M : Int} (hb : b ≤ M) : ∀ n, (∀ c, c < n → h c ≤ M) → imI h b n ≤ M
  | 0, _ => hb
  | n + 1, hh => by
    have h1 := imI_le hb n (fun c hc => hh c (by omega))
    have h2 := hh n (by omega)
    show (if imI h b n < h n then h n else imI h b n) ≤ M
    split <;> omega
theorem imI_ge {h : Nat → Int} {b : Int} : ∀ n c, c < n → h c ≤ imI h b n
  | 0, c, hc => absurd hc (by omega)
  | n + 1, c, hc => by
    show h c ≤ (if imI h b n < h n then h n else imI h b n)
    by_cases e : c = n
    · subst e; split <;> omega
    · have := imI_ge (h := h) (b := b) n c (by omega)
      split <;> omega
theorem imI_b {h : Nat → Int} {b : Int} : ∀ n, b ≤ imI h b n
  | 0 => Int.le_refl _
  | n + 1 => by
    have := imI_b (h := h) (b := b) n
    show b ≤ (if imI h b n < h n then h n else imI h b n)
    split <;> omega
def tuH (f : Nat → Nat) (S c : Nat) : Int := if S.testBit c = true then (f c : Int) - gm f (nd S (2 ^ c)) else -100000
theorem tu_im {f : Nat → Nat} {S n : Nat} (hS : S < 2 ^ n) (hn : n ≤ 12) : imI (tuH f S) (if S = 0 then 0 else -100000) n = gm f S := by
  have h12 : S < 4096 := Nat.lt_of_lt_of_le hS (show 2 ^ n ≤ 2 ^ 12 from Nat.pow_le_pow_right (by decide) hn)
  have g0 : 0 ≤ gm f S := by
    unfold gm
    exact (alt_b (f := f) _ ((srt f S 12).foldr (fun x m => max (f x) m) 0) (rk_le (srt_q h12).2.2) (fun x hx => by
      have : ∀ L : List Nat, x ∈ L → f x ≤ L.foldr (fun x m => max (f x) m) 0 := fun L => by
        induction L with
        | nil => intro h; cases h
        | cons a r ih =>
          intro h
          show f x ≤ max (f a) (r.foldr (fun x m => max (f x) m) 0)
          rcases List.mem_cons.mp h with z | z
          · rw [z]; exact Nat.le_max_left _ _
          · exact Nat.le_trans (ih z) (Nat.le_max_right _ _)
      exact this _ hx)).1
  by_cases e : S = 0
  · subst e
    rw [if_pos rfl, gm_0]
    have h1 : imI (tuH f 0) 0 n ≤ 0 := imI_le (Int.le_refl 0) n (fun c _ => by unfold tuH; rw [Nat.zero_testBit, if_neg (by decide)]; decide)
    have h2 := imI_b (h := tuH f 0) (b := 0) n
    omega
  · rw [if_neg e]
    have h1 : imI (tuH f S) (-100000) n ≤ gm f S := imI_le (by omega) n (fun c _ => by
      unfold tuH
      split
      · rename_i hc; exact gm_le h12 hc
      · omega)
    obtain ⟨c, hc, hv⟩ := gm_at (f := f) h12 e
    have cn : c < n := by
      by_cases q : c < n
      · exact q
      · rw [Nat.testBit_lt_two_pow (Nat.lt_of_lt_of_le hS (Nat.pow_le_pow_right (by decide) (by omega)))] at hc
        cases hc
    have h2 := imI_ge (h := tuH f S) (b := -100000) n c cn
    have h3 : tuH f S c = gm f S := by unfold tuH; rw [if_pos hc]; exact hv
    omega
/-- the reference's table of turns -/
theorem c_M_findTurns (d : Nat) {s : AS} {μ : QM} (h : RM μ s) (ok : aOK s) : ∃ μ', qcall qprogs (d + 2) 215 [qR (24, 0, 0)] μ = some (none, μ') ∧ FrQ μ μ' ∧ ∀ S, S < 2 ^ aN s → μ'.1 (43, 0, 0) S = zI (gm (aW s) S) := by
  have n12 := ok.2.1
  have p12 : 2 ^ aN s ≤ 4096 := Nat.pow_le_pow_right (n := 2) (by decide) (show aN s ≤ 12 from n12)
  have gb : ∀ S, S < 2 ^ aN s → 0 ≤ gm (aW s) S ∧ gm (aW s) S ≤ 29 := fun S hS => gm_b (by omega) (fun c hc => ok.w (by
    by_cases q : c < aN s
    · exact q
    · rw [Nat.testBit_lt_two_pow (Nat.lt_of_lt_of_le hS (Nat.pow_le_pow_right (by decide) (by omega)))] at hc
      cases hc))
  have wr : ∀ (x : Nat) (v : Int32) (μ1 : QM), FrQ μ μ1 → FrQ μ (qsi μ1 (43, 0, 0) x v) := fun x v μ1 f => f.tr (FrQ.row (by decide))
  have L2 : ∀ S, S < 2 ^ aN s → ∀ r c (μ1 : QM), c + r = aN s → FrQ μ μ1 → (∀ T, T < S → μ1.1 (43, 0, 0) T = zI (gm (aW s) T)) → μ1.1 (43, 0, 0) S = zI (imI (tuH (aW s) S) (if S = 0 then 0 else -100000) c) → ∃ μ2, qx (d + 1) qc_M_findTurns 31 [some (qR (24, 0, 0)), some (qI (zI (S : Nat))), some (qI (zI (c : Nat))), none] [] μ1 = qx (d + 1) qc_M_findTurns 104 [some (qR (24, 0, 0)), some (qI (zI (S : Nat))), none, none] [] μ2 ∧ FrQ μ μ2 ∧ ∀ T, T < S + 1 → μ2.1 (43, 0, 0) T = zI (gm (aW s) T) := by
    intro S hS r
    induction r with
    | zero =>
      intro c μ1 hc f hT hv
      have hR := h.q f
      rw [qb_M_findTurns_31, hR.cnt, if_pos (by rw [zI_le (by omega)]; omega)]
      rw [show c = aN s by omega, tu_im hS n12] at hv
      exact ⟨μ1, rfl, f, fun T hT' => by
        by_cases e : T = S
        · rw [e]; exact hv
        · exact hT T (by omega)⟩
    | succ r ih =>
      intro c μ1 hc f hT hv
      have hR := h.q f
      have hcn : c < aN s := by omega
      have wc := ok.w hcn
      have hbd : -100000 ≤ imI (tuH (aW s) S) (if S = 0 then 0 else -100000) c ∧ imI (tuH (aW s) S) (if S = 0 then 0 else -100000) c ≤ 100000 := by
        have h1 := imI_b (h := tuH (aW s) S) (b := if S = 0 then 0 else -100000) c
        have h2 : imI (tuH (aW s) S) (if S = 0 then 0 else -100000) c ≤ gm (aW s) S := imI_le (by have := gb S hS; split <;> omega) c (fun c _ => by
          unfold tuH
          split
          · rename_i hc; exact gm_le (by omega) hc
          · have := gb S hS; omega)
        have := gb S hS
        constructor
        · refine Int.le_trans ?_ h1; split <;> omega
        · omega
      have go : ∀ v : Int, -100000 ≤ v → v ≤ 100000 → v = tuH (aW s) S c → ∃ μ2, qx (d + 1) qc_M_findTurns 71 [some (qR (24, 0, 0)), some (qI (zI (S : Nat))), some (qI (zI (c : Nat))), none] [qI (zI v)] μ1 = qx (d + 1) qc_M_findTurns 104 [some (qR (24, 0, 0)), some (qI (zI (S : Nat))), none, none] [] μ2 ∧ FrQ μ μ2 ∧ ∀ T, T < S + 1 → μ2.1 (43, 0, 0) T = zI (gm (aW s) T) := fun v v1 v2 hv2 => by
        have fin : ∀ w : Int, w = imI (tuH (aW s) S) (if S = 0 then 0 else -100000) (c + 1) → ∃ μ2, qx (d + 1) qc_M_findTurns 97 [some (qR (24, 0, 0)), some (qI (zI (S : Nat))), some (qI (zI (c : Nat))), none] [qI (zI w), qI (zI (S : Nat)), qR (43, 0, 0)] μ1 = qx (d + 1) qc_M_findTurns 104 [some (qR (24, 0, 0)), some (qI (zI (S : Nat))), none, none] [] μ2 ∧ FrQ μ μ2 ∧ ∀ T, T < S + 1 → μ2.1 (43, 0, 0) T = zI (gm (aW s) T) := fun w hw => by
          rw [qb_M_findTurns_97, zI_oob (n := 53248) (by omega), cond_false, show qix (zI (S : Nat)) = S from zI_ixN (by omega), zI_of, zI_add]
          exact ih (c + 1) _ (by omega) (wr S _ μ1 f) (fun T hT' => by rw [qsi_get, if_neg (by omega)]; exact hT T hT') (by rw [qsi_self, hw])
        have es : imI (tuH (aW s) S) (if S = 0 then 0 else -100000) (c + 1) = if imI (tuH (aW s) S) (if S = 0 then 0 else -100000) c < tuH (aW s) S c then tuH (aW s) S c else imI (tuH (aW s) S) (if S = 0 then 0 else -100000) c := rfl
        rw [qb_M_findTurns_71, zI_oob (n := 53248) (by omega), cond_false, show qix (zI (S : Nat)) = S from zI_ixN (by omega), hv]
        by_cases q : imI (tuH (aW s) S) (if S = 0 then 0 else -100000) c < v
        · rw [if_neg (by rw [zI_le (by omega)]; omega)]
          exact fin v (by rw [es, ← hv2, if_pos q])
        · rw [if_pos (by rw [zI_le (by omega)]; omega), qb_M_findTurns_91, zI_oob (n := 53248) (by omega), cond_false, show qix (zI (S : Nat)) = S from zI_ixN (by omega), hv]
          exact fin _ (by rw [es, ← hv2, if_neg q])
      rw [qb_M_findTurns_31, hR.cnt, if_neg (by rw [zI_le (by omega)]; omega), c_M_has d (by omega) (by omega), qbI_some, qB_if]
      cases hb : S.testBit c
      · rw [cond_false, qb_M_findTurns_68, zI_of]
        exact go (-100000) (by omega) (by omega) (by unfold tuH; rw [hb, if_neg (by decide)])
      · have ndl := nd_le S (2 ^ c)
        have ndS : nd S (2 ^ c) < S := by
          rcases Nat.lt_or_ge (nd S (2 ^ c)) S with z | z
          · exact z
          · exfalso
            have e : nd S (2 ^ c) = S := by omega
            have := nd2 (S := S) (c := c) (i := c) (by omega)
            rw [e, hb] at this
            simp at this
        have gn := gb (nd S (2 ^ c)) (by omega)
        rw [cond_true, c_M_weightOf d hR ok hcn, qbI_some]
        simp only [zI_of, zI_31]
        rw [zI_bit (c := c) (by omega), zI_nd, zI_oob (n := 53248) (by omega), cond_false, show qix (zI (nd S (2 ^ c) : Nat)) = nd S (2 ^ c) from zI_ixN (by omega), hT _ ndS, zI_sub]
        exact go _ (by omega) (by omega) (by unfold tuH; rw [hb, if_pos rfl])
  have L : ∀ r S (μ1 : QM), S + r = 2 ^ aN s → FrQ μ μ1 → (∀ T, T < S → μ1.1 (43, 0, 0) T = zI (gm (aW s) T)) → ∃ μ2, qx (d + 1) qc_M_findTurns 2 [some (qR (24, 0, 0)), some (qI (zI (S : Nat))), none, none] [] μ1 = some (none, μ2) ∧ FrQ μ μ2 ∧ ∀ S, S < 2 ^ aN s → μ2.1 (43, 0, 0) S = zI (gm (aW s) S) := by
    intro r
    induction r with
    | zero =>
      intro S μ1 hS f hT
      rw [qb_M_findTurns_2, (h.q f).cnt]
      simp only [zI_of, zI_31]
      rw [zI_bit (c := aN s) (by omega), if_pos (by rw [zI_le (by omega)]; omega), qb_M_findTurns_110]
      exact ⟨μ1, rfl, f, by rw [show 2 ^ aN s = S by omega]; exact hT⟩
    | succ r ih =>
      intro S μ1 hS f hT
      have g28 : qx (d + 1) qc_M_findTurns 2 [some (qR (24, 0, 0)), some (qI (zI (S : Nat))), none, none] [] μ1 = qx (d + 1) qc_M_findTurns 28 [some (qR (24, 0, 0)), some (qI (zI (S : Nat))), none, none] [qI (zI (if S = 0 then 0 else -100000)), qI (zI (S : Nat)), qR (43, 0, 0)] μ1 := by
        rw [qb_M_findTurns_2, (h.q f).cnt]
        simp only [zI_of, zI_31]
        rw [zI_bit (c := aN s) (by omega), if_neg (by rw [zI_le (by omega)]; omega)]
        by_cases e : S = 0
        · rw [if_pos e, if_pos (by rw [e]; exact zI0)]
        · rw [if_neg e, if_neg (by rw [zI_0, zI_eq (by omega)]; omega), qb_M_findTurns_25, zI_of]
      obtain ⟨μ2, x1, x2, x3⟩ := L2 S (by omega) (aN s) 0 (qsi μ1 (43, 0, 0) S (zI (if S = 0 then 0 else -100000))) (by omega) (wr S _ μ1 f) (fun T hT' => by rw [qsi_get, if_neg (by omega)]; exact hT T hT') (by rw [qsi_self]; rfl)
      obtain ⟨μ3, y1, y2, y3⟩ := ih (S + 1) μ2 (by omega) x2 x3
      refine ⟨μ3, ?_, y2, y3⟩
      rw [g28, qb_M_findTurns_28, zI_oob (n := 53248) (by omega), cond_false, show qix (zI (S : Nat)) = S from zI_ixN (by omega), zI_of]
      refine Eq.trans x1 ?_
      rw [qb_M_findTurns_104, zI_of, zI_add]
      exact y1
  obtain ⟨μ', x1, x2, x3⟩ := L (2 ^ aN s) 0 μ (by omega) FrQ.rf (fun T hT => absurd hT (by omega))
  refine ⟨μ', ?_, x2, x3⟩
  rw [qe_M_findTurns, qb_M_findTurns_0, zI_of]
  exact x1
theorem getD_m (A B : List Nat) (c : Nat) : (A ++ c :: B).getD A.length 0 = c := by rw [getD_ins, if_neg (by omega), if_pos rfl]
theorem c_Plan_leadByTaking (d : Nat) {p m c S : Nat} {D : Nat → Nat} {s : AS} {Q : List Nat} {μ : QM} (hp : p < 2) (h : PP μ p s m D S Q) (hc : S.testBit c = true) (hb : ∀ x, S.testBit x = true → aW s x ≤ 29) : qcall qprogs (d + 1) 49 [qR (5, p, 0), qR (6, p, c)] μ = some (some (qI (zI ((aW s c : Int) - alt (aW s) (rmv c Q)))), μ) := by
  obtain ⟨-, -, ⟨c1, c2, c3⟩, ⟨q1, q2, q3⟩, qo⟩ := h
  have c12 := (c3 c hc).1
  have L : ∀ (B A : List Nat) (v g : Int), Q = A ++ B → g = 1 ∨ g = -1 → qx d qc_Plan_leadByTaking 10 [some (qR (5, p, 0)), some (qR (6, p, c)), some (qI (zI v)), some (qI (zI g)), some (qI (zI (A.length : Nat)))] [] μ = some (some (qI (zI (v + g * alt (aW s) (rmv c B)))), μ) := by
    intro B
    induction B with
    | nil =>
      intro A v g hAB hg
      have e : Q.length = A.length := by rw [hAB, List.append_nil]
      rw [qb_Plan_leadByTaking_10, q2, if_pos (by rw [zI_le (by omega)]; omega), qb_Plan_leadByTaking_61]
      refine q_ret ?_
      show v = v + g * 0
      omega
    | cons x B ih =>
      intro A v g hAB hg
      have e : Q.length = A.length + (B.length + 1) := by rw [hAB, List.length_append, List.length_cons]
      have hx := q3 A.length (by omega)
      rw [show Q.getD A.length 0 = x by rw [hAB]; exact getD_m A B x] at hx
      have mx : S.testBit x = true := (qo.2.1 x).mp (by rw [hAB]; exact List.mem_append.mpr (Or.inr (List.mem_cons_self ..)))
      obtain ⟨x12, xw, -⟩ := c3 x mx
      have bx := hb x mx
      have i1 := fun v' g' hg' => ih (A ++ [x]) v' g' (by rw [hAB, List.append_assoc]; rfl) hg'
      rw [show (A ++ [x]).length = A.length + 1 by rw [List.length_append]; rfl] at i1
      rw [qb_Plan_leadByTaking_10, q2]
      simp only [zI_of]
      rw [if_neg (by rw [zI_le (by omega)]; omega), if_neg (by rw [zI_le (by omega)]; omega), zI_oob (n := 12) (by omega), cond_false, show qix (zI (A.length : Nat)) = A.length from zI_ixN (by omega), hx, qoN_some (qd6 hp x12)]
      by_cases q : x = c
      · subst q
        rw [if_pos rfl, qb_Plan_leadByTaking_55, zI_of, zI_add]
        have er : rmv x (x :: B) = rmv x B := by
          unfold rmv
          rw [List.filter_cons, if_neg (by simp)]
        rw [er]
        exact i1 v g hg
      · have er : rmv c (x :: B) = x :: rmv c B := by
          unfold rmv
          rw [List.filter_cons, if_pos (decide_eq_true q)]
        have ne : ¬ (some ((6, p, x) : QA)) = some (6, p, c) := by simp [q]
        have ev : v + g * alt (aW s) (x :: rmv c B) = v + g * (aW s x : Int) + -g * alt (aW s) (rmv c B) := by
          show v + g * ((aW s x : Int) - alt (aW s) (rmv c B)) = _
          rcases hg with rfl | rfl <;> omega
        rw [if_neg ne, cond_false, qoN_some (qd6 hp x12), xw, zI_mul, zI_add, zI_neg, qb_Plan_leadByTaking_55, zI_of, zI_add, er, ev]
        exact i1 _ (-g) (by omega)
  have l0 := L Q [] (aW s c : Int) (-1) rfl (Or.inr rfl)
  rw [qe_Plan_leadByTaking (h0 := qd5 hp) (h1 := qd6 hp c12), qb_Plan_leadByTaking_0, (c3 c hc).2.1]
  simp only [zI_of]
  refine l0.trans (q_ret ?_)
  omega
def tuO (s : AS) (c : Nat) : Int := (aW s c : Int) - gm (aW s) (nd (unU s) (2 ^ c))
def tuF (s : AS) (c : Nat) (o : Option (Int × Nat)) : Option (Int × Nat) := if (unU s).testBit c = true then (match o with
  | none => some (tuO s c, c)
  | some (m, i) => if m < tuO s c then some (tuO s c, c) else some (m, i)) else o
theorem ffr_min {P : Nat → Bool} {b : Nat} : ∀ k c, ffr P k c = some b → ∀ x, c ≤ x → x < b → P x = false
  | 0, c, h, _, _, _ => by cases h
  | k + 1, c, h, x, hx, hb => by
    rw [ffr_s] at h
    by_cases q : P c = true
    · rw [if_pos q] at h; cases h; omega
    · rw [if_neg q] at h
      by_cases e : x = c
      · rw [e]; simpa using q
      · exact ffr_min k (c + 1) h x (by omega) hb
theorem tu_inv (s : AS) : ∀ k, (fol (tuF s) 0 k none = none ∧ ∀ c, c < k → (unU s).testBit c = false) ∨ ∃ m i, fol (tuF s) 0 k none = some (m, i) ∧ i < k ∧ (unU s).testBit i = true ∧ m = tuO s i ∧ (∀ c, c < k → (unU s).testBit c = true → tuO s c ≤ m) ∧ ∀ c, c < i → (unU s).testBit c = true → tuO s c < m
  | 0 => Or.inl ⟨rfl, fun c hc => absurd hc (by omega)⟩
  | k + 1 => by
    rw [fol_last, Nat.zero_add]
    rcases tu_inv s k with ⟨h1, h2⟩ | ⟨m, i, h1, h2, h3, h4, h5, h6⟩
    · rw [h1]
      cases hb : (unU s).testBit k
      · left
        unfold tuF
        rw [hb, if_neg (by decide)]
        exact ⟨rfl, fun c hc => by
          by_cases e : c = k
          · rw [e]; exact hb
          · exact h2 c (by omega)⟩
      · right
        refine ⟨tuO s k, k, by unfold tuF; rw [hb, if_pos rfl], by omega, hb, rfl, fun c hc hx => ?_, fun c hc hx => ?_⟩
        · by_cases e : c = k
          · rw [e]; exact Int.le_refl _
          · rw [h2 c (by omega)] at hx; cases hx
        · rw [h2 c (by omega)] at hx; cases hx
    · rw [h1]
      right
      cases hb : (unU s).testBit k
      · refine ⟨m, i, by unfold tuF; rw [hb, if_neg (by decide)], by omega, h3, h4, fun c hc hx => ?_, h6⟩
        by_cases e : c = k
        · rw [e, hb] at hx; cases hx
        · exact h5 c (by omega) hx
      · by_cases q : m < tuO s k
        · refine ⟨tuO s k, k, by unfold tuF; rw [hb, if_pos rfl]; exact if_pos q, by omega, hb, rfl, fun c hc hx => ?_, fun c hc hx => ?_⟩
          · by_cases e : c = k
            · rw [e]; exact Int.le_refl _
            · have := h5 c (by omega) hx; omega
          · have := h5 c (by omega) hx; omega
        · refine ⟨m, i, by unfold tuF; rw [hb, if_pos rfl]; exact if_neg q, by omega, h3, h4, fun c hc hx => ?_, h6⟩
          by_cases e : c = k
          · rw [e]; omega
          · exact h5 c (by omega) hx
def tuP (s : AS) (c : Nat) : Bool := (unU s).testBit c && decide (tuO s c = gm (aW s) (unU s))
theorem tu_all {s : AS} (hn : aN s ≤ 12) : fol (tuF s) 0 12 none = (ffr (tuP s) 12 0).map (fun i => (gm (aW s) (unU s), i)) ∧ (ffr (tuP s) 12 0 = none → gm (aW s) (unU s) = 0) := by
  have U12 := unU_lt hn
  rcases tu_inv s 12 with ⟨h1, h2⟩ | ⟨m, i, h1, h2, h3, h4, h5, h6⟩
  · have U0 : unU s = 0 := by
      apply Nat.eq_of_testBit_eq
      intro c
      rw [Nat.zero_testBit]
      by_cases q : c < 12
      · exact h2 c q
      · exact tb12 U12 (by omega)
    cases hf : ffr (tuP s) 12 0 with
    | none => exact ⟨h1, fun _ => by rw [U0]; exact gm_0 _⟩
    | some b =>
      obtain ⟨-, f2, f3⟩ := ffr_some _ _ hf
      unfold tuP at f3
      rw [h2 b (by omega)] at f3
      cases f3
  · have ne : unU s ≠ 0 := fun z => by rw [z, Nat.zero_testBit] at h3; cases h3
    obtain ⟨c0, g1, g2⟩ := gm_at (f := aW s) U12 ne
    have c12 := b12 U12 g1
    have mg : m = gm (aW s) (unU s) := by
      have a1 := h5 c0 c12 g1
      have a2 : tuO s i ≤ gm (aW s) (unU s) := gm_le U12 h3
      unfold tuO at a1 a2 h4
      omega
    have pi : tuP s i = true := by unfold tuP; rw [h3, ← h4, mg, decide_eq_true rfl]; rfl
    cases hf : ffr (tuP s) 12 0 with
    | none =>
      have := ffr_none _ _ hf i (by omega) (by omega)
      rw [pi] at this
      cases this
    | some b =>
      obtain ⟨-, f2, f3⟩ := ffr_some _ _ hf
      have f3' := f3
      unfold tuP at f3'
      rw [Bool.and_eq_true, decide_eq_true_iff] at f3'
      have eb : b = i := by
        rcases Nat.lt_trichotomy b i with z | z | z
        · have := h6 b z f3'.1
          omega
        · exact z
        · have := ffr_min _ _ hf i (by omega) z
          rw [pi] at this
          cases this
      subst eb
      exact ⟨by rw [h1, mg]; rfl, fun z => by cases z⟩
def hiI : Option (Int × Nat) → Int
  | none => -9
  | some p => p.2
def loI : Option (Int × Nat) → Int
  | none => 0
  | some p => p.1
theorem op_turns {σ : GS} (ok : GOK σ) {z1 : Int} (h1 : iB z1) : OP 84 216 [qI (zI z1)] σ := by
  have b1 := h1.1
  have b2 := h1.2
  have n12 := ok.1.2.1
  have U12 := unU_lt n12
  have p12 : 2 ^ aN (gS σ) ≤ 4096 := Nat.pow_le_pow_right (n := 2) (by decide) (show aN (gS σ) ≤ 12 from n12)
  have Un : unU (gS σ) < 2 ^ aN (gS σ) := mk_lt _ _
  have ub : ∀ c, (unU (gS σ)).testBit c = true → c < aN (gS σ) := fun c hc => by rw [unU_bit, Bool.and_eq_true] at hc; simpa using hc.1
  have gU := gm_b (f := aW (gS σ)) (M := 29) U12 (fun c hc => ok.1.w (ub c hc))
  have gN : ∀ c, 0 ≤ gm (aW (gS σ)) (nd (unU (gS σ)) (2 ^ c)) ∧ gm (aW (gS σ)) (nd (unU (gS σ)) (2 ^ c)) ≤ 29 := fun c => gm_b (Nat.lt_of_le_of_lt (nd_le _ _) U12) (fun x hx => ok.1.w (ub x (nd_sub hx)))
  obtain ⟨ta1, ta2⟩ := tu_all (s := gS σ) n12
  by_cases hz : 0 ≤ z1 ∧ z1 ≤ 1
  · refine ⟨qI (zI (if z1 = 0 then gm (aW (gS σ)) (unU (gS σ)) else onM (ffr (tuP (gS σ)) 12 0))), σ, fun d μ h => ?_, fun d μ h => ?_, ok⟩
    · have e16 : qcall qprogs (d + 30) 84 [qR (0, 0, 0), qI (zI z1)] μ = qx (d + 29) qc_J_turns 16 [some (qR (0, 0, 0)), some (qI (zI z1)), none, none, none, none] [] μ := by
        rw [qe_J_turns, qb_J_turns_0]
        simp (disch := omega) only [zI_of, zI_0, zI_1, zI_add, zI_sub, zI_mul, zI_neg, zI_lt, zI_le, zI_eq, zI_rem, zI_oob, zI_ixN, zI_ix, zI_ite, zI10, zI01, Int.toNat_natCast, cond_false, cond_true, q01_0, q01_1, q01_0z, q01_1z, qB_if, qB_ifz, qB_ret, qB_retz, qbI_some, qbV_some, qbL_some, qbR_some, qbN_some, qbN_none, true_or, or_true, false_or, or_false, if_true, if_false, Int.reduceEq, Int.reduceLT, Int.reduceLE, Int.reduceNeg]
        by_cases e : z1 = 0
        · rw [if_pos e]
        · rw [if_neg e, if_pos (by omega)]
      obtain ⟨pn, m, D, pd⟩ := h.2 0 (by decide)
      obtain ⟨μ1, Q, r1, r2, r3, r4, r5, r6, r7⟩ := c_Plan_takeCauses (d + 26) (p := 0) (j := 0) (S := unU (gS σ)) (by decide) (by decide) h.1.1 ok.1 U12 ub pd pn
      have pp : PP μ1 0 (gS σ) m D (unU (gS σ)) Q := ⟨r3, r4, r5, r6, r7⟩
      have ci := h.pp r2 pp
      have L : ∀ r c (o : Option (Int × Nat)), c + r = 12 → (∀ p, o = some p → -100 ≤ p.1 ∧ p.1 ≤ 100 ∧ p.2 ≤ 12) → qx (d + 29) qc_J_turns 42 [some (qR (0, 0, 0)), some (qI (zI z1)), some (qI (zI (hiI o))), some (qI (zI (loI o))), some (qI (zI (c : Nat))), none] [] μ1 = qx (d + 29) qc_J_turns 110 [none, some (qI (zI z1)), some (qI (zI (hiI (fol (tuF (gS σ)) c r o)))), some (qI (zI (loI (fol (tuF (gS σ)) c r o)))), none, none] [] μ1 := by
        intro r
        induction r with
        | zero =>
          intro c o hc ho
          rw [qb_J_turns_42, zI_of, if_pos (by rw [zI_le (by omega)]; omega)]
          rfl
        | succ r ih =>
          intro c o hc ho
          have step : ∀ o', (∀ p, o' = some p → -100 ≤ p.1 ∧ p.1 ≤ 100 ∧ p.2 ≤ 12) → tuF (gS σ) c o = o' → qx (d + 29) qc_J_turns 104 [some (qR (0, 0, 0)), some (qI (zI z1)), some (qI (zI (hiI o'))), some (qI (zI (loI o'))), some (qI (zI (c : Nat))), none] [] μ1 = qx (d + 29) qc_J_turns 110 [none, some (qI (zI z1)), some (qI (zI (hiI (fol (tuF (gS σ)) c (r + 1) o)))), some (qI (zI (loI (fol (tuF (gS σ)) c (r + 1) o)))), none, none] [] μ1 := fun o' h1 h2 => by
            rw [qb_J_turns_104, zI_of, zI_add, fol_s, h2]
            exact ih (c + 1) o' (by omega) h1
          rw [qb_J_turns_42, r5.2.1]
          simp (disch := omega) only [zI_of, zI_0, zI_1, zI_add, zI_sub, zI_mul, zI_neg, zI_lt, zI_le, zI_eq, zI_rem, zI_oob, zI_ixN, zI_ix, zI_ite, zI10, zI01, Int.toNat_natCast, cond_false, cond_true, q01_0, q01_1, q01_0z, q01_1z, qB_if, qB_ifz, qB_ret, qB_retz, qbI_some, qbV_some, qbL_some, qbR_some, qbN_some, qbN_none, true_or, or_true, false_or, or_false, if_true, if_false, Int.reduceEq, Int.reduceLT, Int.reduceLE, Int.reduceNeg, zI_31, zI_bit, zI_and, tb_if]
          rw [if_neg (by omega)]
          cases hb : (unU (gS σ)).testBit c
          · rw [cond_false]
            exact step o ho (by unfold tuF; rw [hb, if_neg (by decide)])
          · have hcn := ub c hb
            have wc := ok.1.w hcn
            have gc := gN c
            have lead := c_Plan_leadByTaking (d + 28) (c := c) (show 0 < 2 by decide) pp hb (fun x hx => ok.1.w (ub x hx))
            rw [← gm_of (Nat.lt_of_le_of_lt (nd_le _ _) U12) (rmv_ok U12 (by omega) r7)] at lead
            have lead : qcall qprogs (d + 29) 49 [qR (5, 0, 0), qR (6, 0, c)] μ1 = some (some (qI (zI (tuO (gS σ) c))), μ1) := lead
            have tb : -29 ≤ tuO (gS σ) c ∧ tuO (gS σ) c ≤ 29 := by unfold tuO; omega
            rw [cond_true, qb_J_turns_67, zI_oob (n := 12) (by omega), cond_false, show qix (zI (c : Nat)) = c from zI_ixN (by omega), lead, qbI_some, zI_of]
            cases o with
            | none =>
              rw [if_pos (show zI (hiI none) = zI (-9) from rfl), qb_J_turns_98]
              exact step (some (tuO (gS σ) c, c)) (fun p hp => by cases hp; exact ⟨by show -100 ≤ tuO (gS σ) c; omega, by show tuO (gS σ) c ≤ 100; omega, by show c ≤ 12; omega⟩) (by unfold tuF; rw [hb, if_pos rfl])
            | some p =>
              obtain ⟨p1, p2, p3⟩ := ho p rfl
              rw [show hiI (some p) = (p.2 : Int) from rfl, show loI (some p) = p.1 from rfl, if_neg (by rw [zI_eq (by omega)]; omega)]
              by_cases e : p.1 < tuO (gS σ) c
              · rw [if_neg (by rw [zI_le (by omega)]; omega), qb_J_turns_98]
                exact step (some (tuO (gS σ) c, c)) (fun p hp => by cases hp; exact ⟨by show -100 ≤ tuO (gS σ) c; omega, by show tuO (gS σ) c ≤ 100; omega, by show c ≤ 12; omega⟩) (by unfold tuF; rw [hb, if_pos rfl]; exact if_pos e)
              · rw [if_pos (by rw [zI_le (by omega)]; omega)]
                exact step (some p) ho (by unfold tuF; rw [hb, if_pos rfl]; exact if_neg e)
      have l0 := L 12 0 none (by decide) (fun p hp => by cases hp)
      refine ⟨μ1, ?_, ci.1, ci.2⟩
      rw [e16, qb_J_turns_16, c_Affair_unused (d + 27) (show 0 < 11 by decide) h.1.1 ok.1, qbI_some, show mk (aX (gS σ)) (aN (gS σ)) = unU (gS σ) from rfl, r1, qbV_some]
      simp only [zI_of]
      refine Eq.trans l0 ?_
      rw [ta1, qb_J_turns_110]
      by_cases e : z1 = 0
      · rw [if_pos (show zI z1 = 0 by rw [e]; exact zI0), if_pos e, qb_J_turns_119]
        cases hf : ffr (tuP (gS σ)) 12 0 with
        | none => rw [ta2 hf]; rfl
        | some b => rfl
      · rw [if_neg (show ¬ zI z1 = 0 by rw [zI_0, zI_eq (by omega)]; exact e), if_neg e, qb_J_turns_118, qb_J_turns_119]
        cases hf : ffr (tuP (gS σ)) 12 0 with
        | none => rfl
        | some b => rfl
    · obtain ⟨μ1, r1, r2, r3⟩ := c_M_findTurns (d + 27) h.1 ok.1
      have hR := h.1.q r2
      have L : ∀ r c, c + r = aN (gS σ) → qx (d + 29) qc_M_turns 38 [some (qR (24, 0, 0)), none, some (qI (zI (unU (gS σ) : Nat))), some (qI (zI (c : Nat)))] [] μ1 = some (some (qI (zI (onM (ffr (tuP (gS σ)) r c)))), μ1) := by
        intro r
        induction r with
        | zero =>
          intro c hc
          rw [qb_M_turns_38, hR.cnt, if_pos (by rw [zI_le (by omega)]; omega), qb_M_turns_89, zI_of]
          rfl
        | succ r ih =>
          intro c hc
          have i1 := ih (c + 1) (by omega)
          have wc := ok.1.w (c := c) (by omega)
          have gc := gN c
          have ndl := nd_le (unU (gS σ)) (2 ^ c)
          rw [qb_M_turns_38, hR.cnt, if_neg (by rw [zI_le (by omega)]; omega), c_M_has (d + 28) (by omega) (by omega), qbI_some, qB_if, ffr_s]
          cases hb : (unU (gS σ)).testBit c
          · rw [cond_false, if_neg (by unfold tuP; rw [hb, Bool.false_and]; decide), qb_M_turns_83, zI_of, zI_add]
            exact i1
          · rw [cond_true, c_M_weightOf (d + 28) hR ok.1 (by omega), qbI_some]
            simp only [zI_of, zI_31]
            rw [zI_bit (c := c) (by omega), zI_nd, zI_oob (n := 53248) (by omega), cond_false, zI_oob (n := 53248) (by omega), cond_false, show qix (zI (nd (unU (gS σ)) (2 ^ c) : Nat)) = nd (unU (gS σ)) (2 ^ c) from zI_ixN (by omega), show qix (zI (unU (gS σ) : Nat)) = unU (gS σ) from zI_ixN (by omega), r3 _ (by omega), r3 _ Un, zI_sub]
            by_cases e : tuO (gS σ) c = gm (aW (gS σ)) (unU (gS σ))
            · rw [if_pos (by rw [show (aW (gS σ) c : Int) - gm (aW (gS σ)) (nd (unU (gS σ)) (2 ^ c)) = tuO (gS σ) c from rfl, e]), if_pos (by unfold tuP; rw [hb, decide_eq_true e]; rfl)]
              rfl
            · rw [if_neg (by rw [zI_eq (by omega)]; exact e), if_neg (by unfold tuP; rw [hb, decide_eq_false e]; decide), qb_M_turns_83, zI_of, zI_add]
              exact i1
      refine ⟨μ1, ?_, h.q ok r2, r2.r.md⟩
      rw [qe_M_turns, qb_M_turns_0]
      simp only [zI_of]
      rw [c_M_isIn (d + 28) (by omega), qbI_some, show (decide ((0 : Int) ≤ z1) && decide (z1 ≤ 1)) = true by simp [hz], if_neg (by decide), qb_M_turns_16, r1, qbV_some, c_M_unused (d + 28) hR ok.1, qbI_some, show mk (aX (gS σ)) (aN (gS σ)) = unU (gS σ) from rfl]
      by_cases e : z1 = 0
      · rw [if_pos (show zI z1 = 0 by rw [e]; exact zI0), if_pos e, zI_oob (n := 53248) (by omega), cond_false, show qix (zI (unU (gS σ) : Nat)) = unU (gS σ) from zI_ixN (by omega), r3 _ Un]
      · have l0 := L (aN (gS σ)) 0 (by omega)
        rw [ffr_cut (P := tuP (gS σ)) (N := aN (gS σ)) (fun c hc => by
          unfold tuP
          cases hb : (unU (gS σ)).testBit c
          · rfl
          · have := ub c hb; omega) (aN (gS σ)) 12 0 (by omega) (by omega)] at l0
        rw [if_neg (show ¬ zI z1 = 0 by rw [zI_0, zI_eq (by omega)]; exact e), if_neg e, qb_M_turns_36, zI_of]
        exact l0
  · refine ⟨qI (zI (1000000000 - -2)), refS σ 2, fun d μ h => ?_, fun d μ h => ?_, ok.ref⟩
    · rw [qe_J_turns, qb_J_turns_0]
      simp only [zI_of]
      rw [if_neg (by rw [zI_0, zI_eq (by omega)]; omega), if_neg (by rw [zI_eq (by omega)]; omega)]
      exact j_ref2 (d := d + 27) (f := -2) h (by decide)
    · obtain ⟨μ9, r1, r2, r3⟩ := c_M_lower (d + 28) (f := -2) h (by decide)
      rw [qe_M_turns, qb_M_turns_0]
      simp only [zI_of]
      rw [c_M_isIn (d + 28) (by omega), qbI_some, show (decide ((0 : Int) ≤ z1) && decide (z1 ≤ 1)) = false by rw [← Bool.decide_and]; exact decide_eq_false hz, if_pos (by decide), r1, qbI_some]
      exact ⟨μ9, rfl, r2, r3⟩
end
