section
/-! meant: the reference's ways -/
def FrW (μ μ' : QM) : Prop := μ'.1 = μ.1 ∧ μ'.2.2 = μ.2.2 ∧ ∀ a, a ≠ (46, 0, 0) → μ'.2.1 a = μ.2.1 a
theorem FrW.rf {μ : QM} : FrW μ μ := ⟨rfl, rfl, fun _ _ => rfl⟩
theorem FrW.tr {μ μ1 μ2 : QM} (h : FrW μ μ1) (h2 : FrW μ1 μ2) : FrW μ μ2 := ⟨h2.1.trans h.1, h2.2.1.trans h.2.1, fun a ha => (h2.2.2 a ha).trans (h.2.2 a ha)⟩
theorem FrW.sl {μ μ1 : QM} {k : Nat} {v : Int64} (h : FrW μ μ1) : FrW μ (qsl μ1 (46, 0, 0) k v) := ⟨h.1, h.2.1, fun a ha => (qsl_ne ha).trans (h.2.2 a ha)⟩
theorem RM.w1 {μ μ' : QM} {s : AS} (h : RM μ s) (e : μ'.1 = μ.1) : RM μ' s := by unfold RM; rw [e]; exact h
theorem MI.w {μ μ' : QM} {σ : GS} (h : MI μ σ) (ok : GOK σ) (f : FrW μ μ') : MI μ' σ ∧ Fr isMd μ μ' :=
  h.rr ok ⟨⟨fun a _ => by rw [f.1], fun a ha => f.2.2 a fun e => ha (by rw [e]; exact Or.inr (Or.inr (Or.inr (by decide)))), fun a _ => by rw [f.2.1]⟩, fun k _ => by rw [f.1], fun x _ => by rw [f.1]⟩ (h.1.w1 f.1)
theorem c_M_areDaysOf (d : Nat) {w : Nat} {μ : QM} {σ : GS} (h : MI μ σ) (ok : GOK σ) (hw : w < 2) : qcall qprogs (d + 1) 219 [qR (24, 0, 0), qI (zI (w : Nat))] μ = some (some (qI (qB (decide (gK σ ≤ 8) && rwD (gR σ) (aP (gS σ) w 0) (gK σ)))), μ) := by
  have k12 := ok.2.2.2.2.2.2.1
  have r99 := ok.2.2.2.2.2.2.2
  have b0 := (ok.1.p hw).1
  have hk := h.2.2.2.2.1.1
  have hr := h.2.2.2.2.1.2
  have L : ∀ r i, i + r = gK σ → rwD (gR σ) (aP (gS σ) w 0) i = true → qx d qc_M_areDaysOf 2 [some (qR (24, 0, 0)), some (qI (zI (w : Nat))), some (qI (zI (i : Nat)))] [] μ = some (some (qI (qB (decide (gK σ ≤ 8) && rwD (gR σ) (aP (gS σ) w 0) (gK σ)))), μ) := by
    intro r
    induction r with
    | zero =>
      intro i hi ht
      rw [qb_M_areDaysOf_2, hk, if_pos (by rw [zI_le (by omega)]; omega), qb_M_areDaysOf_68, hk, zI_of, show gK σ = i by omega, ht, Bool.and_true]
      by_cases q : i ≤ 8
      · rw [if_neg (by rw [zI_lt (by omega)]; omega), qb_M_areDaysOf_82, zI_of, if_pos (Or.inr (by decide +kernel)), decide_eq_true q]
        rfl
      · rw [if_pos (by rw [zI_lt (by omega)]; omega), qb_M_areDaysOf_81, qb_M_areDaysOf_82, zI_of, if_pos (Or.inl (by decide +kernel)), decide_eq_false q]
        rfl
    | succ r ih =>
      intro i hi ht
      have b1 := r99 i (by omega)
      have out : rwD (gR σ) (aP (gS σ) w 0) (i + 1) = false → qx d qc_M_areDaysOf 60 [none, none, none] [] μ = some (some (qI (qB (decide (gK σ ≤ 8) && rwD (gR σ) (aP (gS σ) w 0) (gK σ)))), μ) := fun q => by
        have := rwD_up q r
        rw [qb_M_areDaysOf_60, zI_of, if_pos (Or.inl (by decide +kernel)), show gK σ = i + 1 + r by omega, this, Bool.and_false]
        rfl
      have nxt : rwD (gR σ) (aP (gS σ) w 0) (i + 1) = true → qx d qc_M_areDaysOf 62 [some (qR (24, 0, 0)), some (qI (zI (w : Nat))), some (qI (zI (i : Nat)))] [] μ = some (some (qI (qB (decide (gK σ ≤ 8) && rwD (gR σ) (aP (gS σ) w 0) (gK σ)))), μ) := fun q => by
        rw [qb_M_areDaysOf_62, zI_of, zI_add]
        exact ih (i + 1) (by omega) q
      rw [qb_M_areDaysOf_2, hk, if_neg (by rw [zI_le (by omega)]; omega), zI_oob (n := 12) (by omega), cond_false, show qix (zI (i : Nat)) = i from zI_ixN (by omega), hr i (by omega)]
      simp only [zI_of]
      by_cases q2 : gR σ i ≤ 83
      · rw [if_neg (by rw [zI_lt (by omega)]; omega), cond_false, if_neg (by decide), zI_oob (n := 2) (by omega), cond_false, show qix (zI (w : Nat)) = w from zI_ixN (by omega), h.1.wd hw, zI_rem (by omega), show ((gR σ i : Nat) : Int) % 7 = ((gR σ i % 7 : Nat) : Int) by omega]
        by_cases q3 : gR σ i % 7 = aP (gS σ) w 0
        · rw [if_pos (by rw [q3])]
          by_cases q0 : i = 0
          · rw [if_pos (by rw [zI_0, zI_le (by omega)]; omega)]
            exact nxt (by rw [rwD_s, ht, decide_eq_true q2, decide_eq_true q3, decide_eq_true q0]; rfl)
          · have b2 := r99 (i - 1) (by omega)
            rw [if_neg (by rw [zI_0, zI_le (by omega)]; omega), cond_false, show zI (1 : Int) = zI ((1 : Nat) : Int) from rfl, zI_subN (by omega), zI_oob (n := 12) (by omega), cond_false, show qix (zI ((i - 1 : Nat) : Int)) = i - 1 from zI_ixN (by omega), hr (i - 1) (by omega)]
            by_cases q4 : gR σ (i - 1) < gR σ i
            · rw [if_pos (by rw [zI_lt (by omega)]; omega)]
              exact nxt (by rw [rwD_s, ht, decide_eq_true q2, decide_eq_true q3, decide_eq_true q4, Bool.or_true]; rfl)
            · rw [if_neg (by rw [zI_lt (by omega)]; omega)]
              exact out (by rw [rwD_s, decide_eq_false q0, decide_eq_false q4]; simp)
        · rw [if_neg (by rw [zI_eq (by omega)]; omega)]
          exact out (by rw [rwD_s, decide_eq_false q3]; simp)
      · rw [if_pos (by rw [zI_lt (by omega)]; omega)]
        exact out (by rw [rwD_s, decide_eq_false q2]; simp)
  rw [qe_M_areDaysOf, qb_M_areDaysOf_0, zI_of]
  exact L (gK σ) 0 (by omega) rfl
theorem unS_bit {s : AS} {w c : Nat} : (unS s w).testBit c = (decide (c < aN s) && (aX s c && decide (aC s c 2 = w))) := by unfold unS; rw [mk_bit]
theorem c_M_isMeant (d : Nat) {w c x : Nat} {s : AS} {μ : QM} (h : RM μ s) (ok : aOK s) (hc : c < aN s) (hw : w < 2) (hx : x ≤ 1000) (hx2 : x % 7 = aP s w 0) : qcall qprogs (d + 4) 220 [qR (24, 0, 0), qI (zI (w : Nat)), qI (zI (c : Nat)), qI (zI (x : Nat))] μ = some (some (qI (qB ((unS s w).testBit c && aF s c x))), μ) := by
  have n12 := ok.2.1
  have b2 := (ok.c hc).2.2.1
  have b4 := (ok.c hc).2.2.2.2
  rw [unS_bit, decide_eq_true hc, Bool.true_and]
  rw [qe_M_isMeant, qb_M_isMeant_0, zI_oob (n := 12) (by omega), cond_false, show qix (zI (c : Nat)) = c from zI_ixN (by omega), h.wh hc, cond_false, h.us hc]
  unfold aX
  by_cases q : aC s c 2 = w
  · rw [if_pos (by rw [q]), decide_eq_true q]
    by_cases q2 : aC s c 4 = 0
    · rw [if_pos (by rw [q2]; rfl), decide_eq_true q2, c_M_isGood d h ok hc hx, qbI_some, aG_wd q hx2]
      cases aF s c x
      · rw [if_pos (show qB false = 0 from zI0), qb_M_isMeant_32, qb_M_isMeant_33, zI_of, if_pos (Or.inl (by decide +kernel))]; rfl
      · rw [if_neg (show ¬ qB true = 0 by decide), qb_M_isMeant_33, zI_of, if_pos (Or.inr (by decide +kernel))]; rfl
    · rw [if_neg (by rw [zI_0, zI_eq (by omega)]; omega), decide_eq_false q2, qb_M_isMeant_32, qb_M_isMeant_33, zI_of, if_pos (Or.inl (by decide +kernel))]; rfl
  · rw [if_neg (by rw [zI_eq (by omega)]; omega), decide_eq_false q, qb_M_isMeant_32, qb_M_isMeant_33, zI_of, if_pos (Or.inl (by decide +kernel)), Bool.and_false]; rfl
def cT (T : Nat) : Nat := cntB T.testBit 12
def wT (g : Nat → Nat → Bool) (m : Nat) (A : Nat → Bool) (k q T : Nat) : Nat := if cT T = k then (if T < q then dWy g m A k T else 0) else if cT T = k + 1 then dWy g m A (k + 1) T else 0
def WU (μ : QM) (v : Nat → Nat) (N : Nat) : Prop := ∀ T, T < N → μ.2.1 (46, 0, 0) T = lN (v T)
theorem WU.st {μ : QM} {v : Nat → Nat} {N a x : Nat} (h : WU μ v N) : WU (qsl μ (46, 0, 0) a (lN (v a + x))) (fun T => if T = a then v T + x else v T) N := fun T hT => by
  rw [qsl_get]
  by_cases e : T = a
  · subst e; rw [if_pos ⟨rfl, rfl⟩]; show _ = lN (if T = T then _ else _); rw [if_pos rfl]
  · rw [if_neg (fun z => e z.2), h T hT]; show _ = lN (if T = a then _ else _); rw [if_neg e]
def fNx (g : Nat → Nat → Bool) (m : Nat) (A : Nat → Bool) (k q c b : Nat) : Nat := if (decide (c ≤ b) && ((A b && !q.testBit b) && g k b)) = true then dWy g m A (k + 1) (q ||| 2 ^ b) else 0
theorem fNx_s {g : Nat → Nat → Bool} {m k q c : Nat} {A : Nat → Bool} (hc : c < 12) : sm (fNx g m A k q c) 12 = (if ((A c && !q.testBit c) && g k c) = true then dWy g m A (k + 1) (q ||| 2 ^ c) else 0) + sm (fNx g m A k q (c + 1)) 12 := by
  rw [sm_point 12 hc]
  congr 1
  · unfold fNx; rw [decide_eq_true (Nat.le_refl c), Bool.true_and]
  · refine sm_congr 12 fun b _ => ?_
    show (if b = c then 0 else fNx g m A k q c b) = fNx g m A k q (c + 1) b
    unfold fNx
    by_cases e : b = c
    · rw [if_pos e, decide_eq_false (show ¬ c + 1 ≤ b by omega), if_neg (by simp)]
    · rw [if_neg e]
      by_cases q2 : c ≤ b
      · rw [decide_eq_true q2, decide_eq_true (show c + 1 ≤ b by omega)]
      · rw [decide_eq_false q2, decide_eq_false (show ¬ c + 1 ≤ b by omega)]
theorem c_M_waysWithout (d : Nat) {w : Nat} {out : Int} {μ : QM} {σ : GS} (h : MI μ σ) (ok : GOK σ) (hw : w < 2) (hout : -9 ≤ out ∧ out < 12) (k8 : gK σ ≤ 8) (hrow : rwD (gR σ) (aP (gS σ) w 0) (gK σ) = true) :
    ∃ μ', qcall qprogs (d + 5) 221 [qR (24, 0, 0), qI (zI (w : Nat)), qI (zI out)] μ = some (some (qL (lN (pmn (fun i c => aF (gS σ) c (gR σ i)) (gK σ) (fun _ => true) (fun c => (unS (gS σ) w).testBit c && !decide ((c : Int) = out))))), μ') ∧ FrW μ μ' := by
  have n12 := ok.1.2.1
  have p12 : 2 ^ aN (gS σ) ≤ 4096 := (Nat.pow_le_pow_right (n := 2) (by decide) n12 : 2 ^ aN (gS σ) ≤ 2 ^ 12)
  have p1 : 1 ≤ 2 ^ aN (gS σ) := Nat.one_le_two_pow
  have r99 := ok.2.2.2.2.2.2.2
  have hdays := rwD_at (gK σ) hrow
  obtain ⟨n, hn⟩ : ∃ x, x = aN (gS σ) := ⟨_, rfl⟩
  obtain ⟨m, hm⟩ : ∃ x, x = gK σ := ⟨_, rfl⟩
  obtain ⟨g, hg⟩ : ∃ g, g = fun i c => aF (gS σ) c (gR σ i) := ⟨_, rfl⟩
  obtain ⟨A, hA⟩ : ∃ A, A = fun c => (unS (gS σ) w).testBit c && !decide ((c : Int) = out) := ⟨_, rfl⟩
  rw [← hg, ← hA, ← hm]
  rw [← hn] at p12 p1 n12
  rw [← hm] at k8 r99 hdays
  have hA2 : ∀ c, n ≤ c → A c = false := fun c hc => by
    rw [hA]
    show ((unS (gS σ) w).testBit c && _) = false
    rw [unS_bit, ← hn, decide_eq_false (by omega)]
    rfl
  have cnt : ∀ μ1, FrW μ μ1 → μ1.1 (24, 0, 0) 11 = zI (n : Nat) := fun μ1 f => by rw [f.1, hn]; exact h.1.cnt
  have rm : ∀ μ1, FrW μ μ1 → μ1.1 (24, 0, 0) 33 = zI (m : Nat) := fun μ1 f => by rw [f.1, hm]; exact h.2.2.2.2.1.1
  have rw2 : ∀ μ1, FrW μ μ1 → ∀ i, i < m → μ1.1 (45, 0, 0) i = zI (gR σ i : Nat) := fun μ1 f i hi => by rw [f.1]; exact h.2.2.2.2.1.2 i (by omega)
  have bit1 : Int32.ofInt 1 <<< (zI (n : Nat) &&& 31) = zI ((2 ^ n : Nat) : Int) := by rw [zI_of, zI_31, zI_bit (by omega)]
  obtain ⟨tot, ht⟩ : ∃ x, x = pmn g m (fun _ => true) A := ⟨_, rfl⟩
  rw [← ht]
  have L1 : ∀ r i (μ1 : QM), i + r = 2 ^ n → FrW μ μ1 → (∀ T, T < i → μ1.2.1 (46, 0, 0) T = lN (if T = 0 then 1 else 0)) → ∃ μ2, qx (d + 4) qc_M_waysWithout 2 [some (qR (24, 0, 0)), some (qI (zI (w : Nat))), some (qI (zI out)), some (qI (zI (i : Nat))), none, none] [] μ1 = qx (d + 4) qc_M_waysWithout 33 [some (qR (24, 0, 0)), some (qI (zI (w : Nat))), some (qI (zI out)), none, none, none] [] μ2 ∧ FrW μ μ2 ∧ WU μ2 (fun T => if T = 0 then 1 else 0) (2 ^ n) := by
    intro r
    induction r with
    | zero =>
      intro i μ1 hi hF hv
      rw [qb_M_waysWithout_2, cnt μ1 hF, bit1, if_pos (by rw [zI_le (by omega)]; omega)]
      exact ⟨μ1, rfl, hF, fun T hT => hv T (by omega)⟩
    | succ r ih =>
      intro i μ1 hi hF hv
      have st : qx (d + 4) qc_M_waysWithout 2 [some (qR (24, 0, 0)), some (qI (zI (w : Nat))), some (qI (zI out)), some (qI (zI (i : Nat))), none, none] [] μ1 = qx (d + 4) qc_M_waysWithout 26 [some (qR (24, 0, 0)), some (qI (zI (w : Nat))), some (qI (zI out)), some (qI (zI (i : Nat))), none, none] [qL (lN (if i = 0 then 1 else 0)), qI (zI (i : Nat)), qR (46, 0, 0)] μ1 := by
        rw [qb_M_waysWithout_2, cnt μ1 hF, bit1, if_neg (by rw [zI_le (by omega)]; omega)]
        by_cases e : i = 0
        · rw [if_pos (by rw [e]; exact zI0), if_pos e]; rfl
        · rw [if_neg (by rw [zI_0, zI_eq (by omega)]; omega), if_neg e, qb_M_waysWithout_25]; rfl
      rw [st, qb_M_waysWithout_26, zI_oob (n := 4096) (by omega), cond_false, zI_of, zI_add, show qix (zI (i : Nat)) = i from zI_ixN (by omega)]
      refine ih (i + 1) _ (by omega) hF.sl fun T hT => ?_
      rw [qsl_get]
      by_cases e : T = i
      · subst e; rw [if_pos ⟨rfl, rfl⟩]
      · rw [if_neg (fun z => e z.2)]; exact hv T (by omega)
  have LC : ∀ r c k q (v1 : Nat → Nat) (μ1 : QM), c + r = n → k < m → q < 2 ^ n → cT q = k → FrW μ μ1 → WU μ1 v1 (2 ^ n) → (∀ T, k + 1 < cT T → v1 T = 0) → sm (fun T => v1 T * wT g m A k q T) (2 ^ n) + v1 q * sm (fNx g m A k q c) 12 = tot →
      ∃ (v2 : Nat → Nat) (μ2 : QM), qx (d + 4) qc_M_waysWithout 73 [some (qR (24, 0, 0)), some (qI (zI (w : Nat))), some (qI (zI out)), some (qI (zI (k : Nat))), some (qI (zI (q : Nat))), some (qI (zI (c : Nat)))] [] μ1 = qx (d + 4) qc_M_waysWithout 142 [some (qR (24, 0, 0)), some (qI (zI (w : Nat))), some (qI (zI out)), some (qI (zI (k : Nat))), some (qI (zI (q : Nat))), none] [] μ2 ∧ FrW μ μ2 ∧ WU μ2 v2 (2 ^ n) ∧ (∀ T, k + 1 < cT T → v2 T = 0) ∧ sm (fun T => v2 T * wT g m A k q T) (2 ^ n) = tot := by
    intro r
    induction r with
    | zero =>
      intro c k q v1 μ1 hc hk hq hcq hF hW hz hS
      refine ⟨v1, μ1, ?_, hF, hW, hz, ?_⟩
      · rw [qb_M_waysWithout_73, cnt μ1 hF, if_pos (by rw [zI_le (by omega)]; omega)]
      · rw [sm_zero 12 (fun b _ => by
          show fNx g m A k q c b = 0
          unfold fNx
          by_cases e : c ≤ b
          · rw [hA2 b (by omega), if_neg (by simp)]
          · rw [decide_eq_false e, if_neg (by simp)]), Nat.mul_zero, Nat.add_zero] at hS
        exact hS
    | succ r ih =>
      intro c k q v1 μ1 hc hk hq hcq hF hW hz hS
      have c12 : c < 12 := by omega
      rw [fNx_s c12] at hS
      have skip : ((A c && !q.testBit c) && g k c) = false → ∃ (v2 : Nat → Nat) (μ2 : QM), qx (d + 4) qc_M_waysWithout 136 [some (qR (24, 0, 0)), some (qI (zI (w : Nat))), some (qI (zI out)), some (qI (zI (k : Nat))), some (qI (zI (q : Nat))), some (qI (zI (c : Nat)))] [] μ1 = qx (d + 4) qc_M_waysWithout 142 [some (qR (24, 0, 0)), some (qI (zI (w : Nat))), some (qI (zI out)), some (qI (zI (k : Nat))), some (qI (zI (q : Nat))), none] [] μ2 ∧ FrW μ μ2 ∧ WU μ2 v2 (2 ^ n) ∧ (∀ T, k + 1 < cT T → v2 T = 0) ∧ sm (fun T => v2 T * wT g m A k q T) (2 ^ n) = tot := fun e => by
        rw [qb_M_waysWithout_136, zI_of, zI_add]
        refine ih (c + 1) k q v1 μ1 (by omega) hk hq hcq hF hW hz ?_
        rw [if_neg (by rw [e]; decide), Nat.zero_add] at hS
        exact hS
      rw [qb_M_waysWithout_73, cnt μ1 hF, if_neg (by rw [zI_le (by omega)]; omega)]
      by_cases e1 : (c : Int) = out
      · rw [if_pos (by rw [e1])]
        exact skip (by rw [hA]; show (((unS (gS σ) w).testBit c && !decide ((c : Int) = out)) && _ && _) = false; rw [decide_eq_true e1]; simp)
      · have hAc : A c = (unS (gS σ) w).testBit c := by rw [hA]; show ((unS (gS σ) w).testBit c && !decide ((c : Int) = out)) = _; rw [decide_eq_false e1]; simp
        rw [if_neg (by rw [zI_eq (by omega)]; exact e1), c_M_has (d + 3) (by omega) (by omega), qbI_some]
        cases hb : q.testBit c
        · rw [if_pos (show qB false = 0 from zI0), zI_oob (n := 12) (by omega), cond_false, show qix (zI (k : Nat)) = k from zI_ixN (by omega), rw2 μ1 hF k hk, c_M_isMeant d (h.1.w1 hF.1) ok.1 (by omega) hw (by have := r99 k hk; omega) (hdays k hk).2, qbI_some, ← hAc, show aF (gS σ) c (gR σ k) = g k c by rw [hg]]
          cases hx : (A c && g k c)
          · rw [if_pos (show qB false = 0 from zI0)]
            exact skip (by rw [hb]; simp only [Bool.not_false, Bool.and_true]; exact hx)
          · have hx2 : ((A c && !q.testBit c) && g k c) = true := by rw [hb]; simp only [Bool.not_false, Bool.and_true]; exact hx
            have ql := or_lt hq (show c < n by omega)
            have qne : q ≠ q ||| 2 ^ c := fun z => by
              have : (q ||| 2 ^ c).testBit c = true := by rw [Nat.testBit_or, Nat.testBit_two_pow_self, Bool.or_true]
              rw [← z, hb] at this
              cases this
            have cq : cT (q ||| 2 ^ c) = k + 1 := by
              unfold cT at hcq ⊢
              rw [cntB_or hb, if_pos c12, hcq]
            have bitc : Int32.ofInt 1 <<< (zI (c : Nat) &&& 31) = zI ((2 ^ c : Nat) : Int) := by rw [zI_of, zI_31, zI_bit (by omega)]
            rw [if_neg (show ¬ qB true = 0 by decide), bitc, zI_or, zI_oob (n := 4096) (by omega), cond_false, zI_oob (n := 4096) (by omega), cond_false, cond_false, show qix (zI (q : Nat)) = q from zI_ixN (by omega), show qix (zI ((q ||| 2 ^ c : Nat) : Int)) = q ||| 2 ^ c from zI_ixN (by omega), hW _ ql, hW q hq, lN_add, qb_M_waysWithout_136, zI_of, zI_add]
            refine ih (c + 1) k q (fun T => if T = (q ||| 2 ^ c) then v1 T + v1 q else v1 T) _ (by omega) hk hq hcq hF.sl hW.st (fun T hT => ?_) ?_
            · show (if T = (q ||| 2 ^ c) then _ else _) = 0
              rw [if_neg (fun z => by rw [z, cq] at hT; omega)]
              exact hz T hT
            · rw [← hS, sm_upd (2 ^ n) ql]
              show _ + (if q = (q ||| 2 ^ c) then _ else _) * _ = _
              rw [if_neg qne, if_pos hx2, Nat.mul_add, ← Nat.add_assoc]
              congr 2
              unfold wT
              rw [if_neg (by omega), if_pos cq]
        · rw [if_neg (show ¬ qB true = 0 by decide)]
          exact skip (by rw [hb]; simp)
  have LQ : ∀ q k (v1 : Nat → Nat) (μ1 : QM), q ≤ 2 ^ n → k < m → FrW μ μ1 → WU μ1 v1 (2 ^ n) → (∀ T, k + 1 < cT T → v1 T = 0) → sm (fun T => v1 T * wT g m A k q T) (2 ^ n) = tot →
      ∃ (v2 : Nat → Nat) (μ2 : QM), qx (d + 4) qc_M_waysWithout 53 [some (qR (24, 0, 0)), some (qI (zI (w : Nat))), some (qI (zI out)), some (qI (zI (k : Nat))), some (qI (zI ((q : Int) - 1))), none] [] μ1 = qx (d + 4) qc_M_waysWithout 148 [some (qR (24, 0, 0)), some (qI (zI (w : Nat))), some (qI (zI out)), some (qI (zI (k : Nat))), none, none] [] μ2 ∧ FrW μ μ2 ∧ WU μ2 v2 (2 ^ n) ∧ (∀ T, k + 1 < cT T → v2 T = 0) ∧ sm (fun T => v2 T * wT g m A k 0 T) (2 ^ n) = tot := by
    intro q
    induction q with
    | zero =>
      intro k v1 μ1 hq hk hF hW hz hS
      refine ⟨v1, μ1, ?_, hF, hW, hz, hS⟩
      rw [qb_M_waysWithout_53, if_pos (by decide)]
    | succ q ih =>
      intro k v1 μ1 hq hk hF hW hz hS
      rw [qb_M_waysWithout_53, show (((q + 1 : Nat) : Int) - 1) = (q : Nat) by omega, if_neg (by rw [zI_0, zI_lt (by omega)]; omega), c_M_bits (d + 3) (by omega), qbI_some]
      have ct12 : cntB q.testBit 12 ≤ 12 := cntB_le 12
      have next : ∀ (v2 : Nat → Nat) (μ2 : QM), FrW μ μ2 → WU μ2 v2 (2 ^ n) → (∀ T, k + 1 < cT T → v2 T = 0) → sm (fun T => v2 T * wT g m A k q T) (2 ^ n) = tot → ∃ (v3 : Nat → Nat) (μ3 : QM), qx (d + 4) qc_M_waysWithout 142 [some (qR (24, 0, 0)), some (qI (zI (w : Nat))), some (qI (zI out)), some (qI (zI (k : Nat))), some (qI (zI (q : Nat))), none] [] μ2 = qx (d + 4) qc_M_waysWithout 148 [some (qR (24, 0, 0)), some (qI (zI (w : Nat))), some (qI (zI out)), some (qI (zI (k : Nat))), none, none] [] μ3 ∧ FrW μ μ3 ∧ WU μ3 v3 (2 ^ n) ∧ (∀ T, k + 1 < cT T → v3 T = 0) ∧ sm (fun T => v3 T * wT g m A k 0 T) (2 ^ n) = tot := fun v2 μ2 f2 w2 z2 s2 => by
        rw [qb_M_waysWithout_142, zI_of, zI_add, show ((q : Nat) : Int) + -1 = (q : Nat) - 1 by omega]
        exact ih k v2 μ2 (by omega) hk f2 w2 z2 s2
      by_cases e : cT q = k
      · have e1 : sm (fun T => v1 T * wT g m A k (q + 1) T) (2 ^ n) = sm (fun T => v1 T * wT g m A k q T) (2 ^ n) + v1 q * sm (fNx g m A k q 0) 12 := by
          refine sm_wt (by omega) (fun T _ hT => ?_) ?_
          · unfold wT
            by_cases c1 : cT T = k
            · rw [if_pos c1, if_pos c1]
              by_cases z : T < q
              · rw [if_pos (by omega), if_pos z]
              · rw [if_neg (by omega), if_neg z]
            · rw [if_neg c1, if_neg c1]
          · unfold wT
            rw [if_pos e, if_pos e, if_pos (by omega), if_neg (by omega), Nat.zero_add, dWy_s hk]
            refine sm_congr 12 fun b _ => ?_
            unfold fNx
            rw [decide_eq_true (Nat.zero_le b), Bool.true_and]
        rw [e1] at hS
        obtain ⟨v2, μ2, x1, x2, x3, x4, x5⟩ := LC n 0 k q v1 μ1 (by omega) hk (by omega) e hF hW hz hS
        rw [if_pos (by unfold cT at e; rw [e]), qb_M_waysWithout_70, zI_of]
        obtain ⟨v3, μ3, y1, y2⟩ := next v2 μ2 x2 x3 x4 x5
        exact ⟨v3, μ3, (show _ = _ from x1).trans y1, y2⟩
      · rw [if_neg (by unfold cT at e; rw [zI_eq (by omega)]; omega)]
        refine next v1 μ1 hF hW hz ?_
        rw [← hS]
        refine sm_congr (2 ^ n) fun T _ => ?_
        congr 1
        unfold wT
        by_cases c1 : cT T = k
        · have hT : T ≠ q := fun z => e (by rw [← z]; exact c1)
          rw [if_pos c1, if_pos c1]
          by_cases z : T < q
          · rw [if_pos z, if_pos (by omega)]
          · rw [if_neg z, if_neg (by omega)]
        · rw [if_neg c1, if_neg c1]
  have LK : ∀ r k (v1 : Nat → Nat) (μ1 : QM), k + r = m → FrW μ μ1 → WU μ1 v1 (2 ^ n) → (∀ T, k < cT T → v1 T = 0) → sm (fun T => v1 T * wT g m A k (2 ^ n) T) (2 ^ n) = tot →
      ∃ (v2 : Nat → Nat) (μ2 : QM), qx (d + 4) qc_M_waysWithout 35 [some (qR (24, 0, 0)), some (qI (zI (w : Nat))), some (qI (zI out)), some (qI (zI (k : Nat))), none, none] [] μ1 = qx (d + 4) qc_M_waysWithout 154 [some (qR (24, 0, 0)), none, none, none, none, none] [] μ2 ∧ FrW μ μ2 ∧ WU μ2 v2 (2 ^ n) ∧ sm (fun T => if cT T = m then v2 T else 0) (2 ^ n) = tot := by
    intro r
    induction r with
    | zero =>
      intro k v1 μ1 hk hF hW hz hS
      have e : k = m := by omega
      subst e
      refine ⟨v1, μ1, ?_, hF, hW, ?_⟩
      · rw [qb_M_waysWithout_35, rm μ1 hF, if_pos (by rw [zI_le (by omega)]; omega)]
      · rw [← hS]
        refine sm_congr (2 ^ n) fun T hT => ?_
        unfold wT
        by_cases c1 : cT T = k
        · rw [if_pos c1, if_pos c1, if_pos hT, dWy_end, Nat.mul_one]
        · rw [if_neg c1, if_neg c1]
          by_cases c2 : cT T = k + 1
          · rw [hz T (by omega), Nat.zero_mul]
          · rw [if_neg c2, Nat.mul_zero]
    | succ r ih =>
      intro k v1 μ1 hk hF hW hz hS
      have km : k < m := by omega
      obtain ⟨v2, μ2, x1, x2, x3, x4, x5⟩ := LQ (2 ^ n) k v1 μ1 (Nat.le_refl _) km hF hW (fun T hT => hz T (by omega)) hS
      obtain ⟨v3, μ3, y1, y2⟩ := ih (k + 1) v2 μ2 (by omega) x2 x3 x4 (by
        rw [← x5]
        refine sm_congr (2 ^ n) fun T hT => ?_
        unfold wT
        by_cases c1 : cT T = k + 1
        · rw [if_pos c1, if_pos hT, if_neg (by omega), if_pos c1]
        · rw [if_neg c1]
          by_cases c2 : cT T = k
          · rw [if_neg (by omega), if_pos c2, if_neg (by omega)]
          · rw [if_neg c2, if_neg c1, Nat.mul_zero]
            by_cases c3 : cT T = k + 1 + 1
            · rw [x4 T (by omega), Nat.zero_mul]
            · rw [if_neg c3, Nat.mul_zero])
      refine ⟨v3, μ3, ?_, y2⟩
      rw [qb_M_waysWithout_35, rm μ1 hF, if_neg (by rw [zI_le (by omega)]; omega), cnt μ1 hF, bit1, zI_of, zI_sub, x1, qb_M_waysWithout_148, zI_of, zI_add]
      exact y1
  have LS : ∀ (v : Nat → Nat) (μ2 : QM), FrW μ μ2 → WU μ2 v (2 ^ n) → ∀ r i, i + r = 2 ^ n → qx (d + 4) qc_M_waysWithout 159 [some (qR (24, 0, 0)), none, none, some (qL (lN (sm (fun T => if cT T = m then v T else 0) i))), none, some (qI (zI (i : Nat)))] [] μ2 = some (some (qL (lN (sm (fun T => if cT T = m then v T else 0) (2 ^ n)))), μ2) := by
    intro v μ2 hF hW r
    induction r with
    | zero =>
      intro i hi
      rw [qb_M_waysWithout_159, cnt μ2 hF, bit1, if_pos (by rw [zI_le (by omega)]; omega), qb_M_waysWithout_202, show i = 2 ^ n by omega]
    | succ r ih =>
      intro i hi
      have i1 := ih (i + 1) (by omega)
      have ct12 : cntB i.testBit 12 ≤ 12 := cntB_le 12
      rw [sm_s] at i1
      rw [qb_M_waysWithout_159, cnt μ2 hF, bit1, if_neg (by rw [zI_le (by omega)]; omega), c_M_bits (d + 3) (by omega), qbI_some, rm μ2 hF]
      by_cases e : cT i = m
      · rw [if_pos e] at i1
        rw [if_pos (by unfold cT at e; rw [e]), zI_oob (n := 4096) (by omega), cond_false, show qix (zI (i : Nat)) = i from zI_ixN (by omega), hW i (by omega), qb_M_waysWithout_194, lN_add, zI_of, zI_add]
        exact i1
      · rw [if_neg e] at i1
        rw [if_neg (by unfold cT at e; rw [zI_eq (by omega)]; omega), qb_M_waysWithout_193, qb_M_waysWithout_194, show Int64.ofInt 0 = lN 0 from rfl, lN_add, zI_of, zI_add]
        exact i1
  obtain ⟨μ1, a1, a2, a3⟩ := L1 (2 ^ n) 0 μ (by omega) FrW.rf (fun T hT => absurd hT (by omega))
  have c00 : cT 0 = 0 := by decide
  obtain ⟨v2, μ2, b1, b2, b3, b4⟩ := LK m 0 _ μ1 (by omega) a2 a3 (fun T hT => by
    show (if T = 0 then 1 else 0) = 0
    rw [if_neg (fun z => by rw [z, c00] at hT; omega)]) (by
    rw [sm_point (a := 0) (2 ^ n) (by omega), sm_zero (2 ^ n) (fun T hT => by
      by_cases e : T = 0
      · rw [if_pos e]
      · rw [if_neg e, if_neg e, Nat.zero_mul]), if_pos rfl, Nat.one_mul, Nat.add_zero, ht]
    unfold wT
    rw [if_pos c00, if_pos (by omega), dWy_0])
  refine ⟨μ2, ?_, b2⟩
  rw [qe_M_waysWithout, qb_M_waysWithout_0, zI_of]
  refine (show _ = _ from a1).trans ?_
  rw [qb_M_waysWithout_33, zI_of]
  refine (show _ = _ from b1).trans ?_
  rw [qb_M_waysWithout_154, zI_of, ← b4]
  exact LS v2 μ2 b2 b3 (2 ^ n) 0 (by omega)
end
