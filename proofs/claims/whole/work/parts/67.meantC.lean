section
/-! meant: the class's ways -/
theorem low8 : ∀ o, o < 256 → o ≠ 0 → ∃ i, i < 8 ∧ o.testBit i = true ∧ (zI (o : Nat) &&& (-zI (o : Nat))) = zI ((2 ^ i : Nat) : Int) ∧ (zI (o : Nat) &&& (zI (o : Nat) - zI 1)) = zI ((o - 2 ^ i : Nat) : Int) ∧ o - 2 ^ i < o ∧ ∀ j, j < 8 → (o - 2 ^ i).testBit j = (o.testBit j && !decide (j = i)) := by decide +kernel
theorem lN_or (a b : Nat) : lN a ||| lN b = lN (a ||| b) := Int64.toBitVec_inj.mp (by simp [lN, BitVec.ofNat_or])
def FrL (μ μ' : QM) : Prop := μ'.1 = μ.1 ∧ μ'.2.2 = μ.2.2 ∧ ∀ a, a ≠ (23, 0, 0) → μ'.2.1 a = μ.2.1 a
theorem FrL.rf {μ : QM} : FrL μ μ := ⟨rfl, rfl, fun _ _ => rfl⟩
theorem FrL.tr {μ μ1 μ2 : QM} (h : FrL μ μ1) (h2 : FrL μ1 μ2) : FrL μ μ2 := ⟨h2.1.trans h.1, h2.2.1.trans h.2.1, fun a ha => (h2.2.2 a ha).trans (h.2.2 a ha)⟩
theorem FrL.sl {μ μ1 : QM} {k : Nat} {v : Int64} (h : FrL μ μ1) : FrL μ (qsl μ1 (23, 0, 0) k v) := ⟨h.1, h.2.1, fun a ha => (qsl_ne ha).trans (h.2.2 a ha)⟩
theorem FrL.x {μ μ' : QM} (h : FrL μ μ') : Fr isX μ μ' := ⟨fun a _ => by rw [h.1], fun a ha => h.2.2 a fun e => ha (by rw [e]; exact Or.inr (Or.inr (Or.inr ⟨by decide, by decide⟩))), fun a _ => by rw [h.2.1]⟩
theorem PC.l {μ μ' : QM} {p m S : Nat} {s : AS} {D : Nat → Nat} (h : PC μ p s m D S) (e : μ'.1 = μ.1) : PC μ' p s m D S := by unfold PC; rw [e]; exact h
theorem PD.l {μ μ' : QM} {p m : Nat} {D : Nat → Nat} (h : PD μ p m D) (e : μ'.1 = μ.1) : PD μ' p m D := by unfold PD; rw [e]; exact h
def WV (μ : QM) (v : Nat → Nat) (N : Nat) : Prop := ∀ T, T < N → μ.2.1 (23, 0, 0) T = lN (v T)
theorem qsl_get (μ : QM) (a b : QA) (k j : Nat) (v : Int64) : (qsl μ a k v).2.1 b j = if b = a ∧ j = k then v else μ.2.1 b j := rfl
theorem WV.st {μ : QM} {v : Nat → Nat} {N a x : Nat} (h : WV μ v N) : WV (qsl μ (23, 0, 0) a (lN (v a + x))) (fun T => if T = a then v T + x else v T) N := fun T hT => by
  rw [qsl_get]
  by_cases e : T = a
  · subst e; rw [if_pos ⟨rfl, rfl⟩]; show _ = lN (if T = T then _ else _); rw [if_pos rfl]
  · rw [if_neg (fun z => e z.2), h T hT]; show _ = lN (if T = a then _ else _); rw [if_neg e]
theorem sm_wt {v w w' : Nat → Nat} {a X : Nat} {n : Nat} (ha : a < n) (h : ∀ T, T < n → T ≠ a → w' T = w T) (h2 : w' a = w a + X) : sm (fun T => v T * w' T) n = sm (fun T => v T * w T) n + v a * X := by
  rw [sm_point n ha, sm_point (f := fun T => v T * w T) n ha, h2, Nat.mul_add, sm_congr (f := fun i => if i = a then 0 else v i * w' i) (g := fun i => if i = a then 0 else v i * w i) n fun i hi => by
    by_cases e : i = a
    · rw [if_pos e, if_pos e]
    · rw [if_neg e, if_neg e, h i hi e]]
  omega
def wQ (g : Nat → Nat → Bool) (m B c q T : Nat) : Nat := if T < q then mW g m B c T else mW g m B (c + 1) T
theorem c_Plan_spread (d : Nat) {g : Nat → Nat → Bool} {m c B G : Nat} {v : Nat → Nat} {μ : QM} (hm : m ≤ 8) (hc : c < 12) (hB : B.testBit c = true) (hG : G < 2 ^ m) (hg : ∀ i, i < m → G.testBit i = g i c) (h : WV μ v (2 ^ m)) :
    ∃ μ' v', qcall qprogs (d + 1) 51 [qI (zI (G : Nat)), qI (zI ((2 ^ m - 1 : Nat) : Int)), qR (23, 0, 0)] μ = some (none, μ') ∧ FrL μ μ' ∧ WV μ' v' (2 ^ m) ∧ lN (sm (fun T => v' T * mW g m B (c + 1) T) (2 ^ m)) = lN (sm (fun T => v T * mW g m B c T) (2 ^ m)) := by
  have p8 : 2 ^ m ≤ 256 := (Nat.pow_le_pow_right (n := 2) (by decide) hm : 2 ^ m ≤ 2 ^ 8)
  have p1 : 1 ≤ 2 ^ m := Nat.one_le_two_pow
  obtain ⟨tot, ht⟩ : ∃ x, x = sm (fun T => v T * mW g m B c T) (2 ^ m) := ⟨_, rfl⟩
  have LI : ∀ n q o (v1 : Nat → Nat) (μ1 : QM), o < n → o < 256 → q < 2 ^ m → (∀ i, o.testBit i = true → i < m ∧ q.testBit i = false) → WV μ1 v1 (2 ^ m) → FrL μ μ1 → lN (sm (fun T => v1 T * wQ g m B c q T) (2 ^ m) + v1 q * sm (fun i => if o.testBit i = true then mW g m B (c + 1) (q ||| 2 ^ i) else 0) m) = lN tot →
      ∃ (v2 : Nat → Nat) (μ2 : QM), qx d qc_Plan_spread 20 [some (qI (zI (G : Nat))), none, some (qR (23, 0, 0)), some (qI (zI (q : Nat))), some (qI (zI (o : Nat))), none, none] [] μ1 = qx d qc_Plan_spread 76 [some (qI (zI (G : Nat))), none, some (qR (23, 0, 0)), some (qI (zI (q : Nat))), none, none, none] [] μ2 ∧ FrL μ μ2 ∧ WV μ2 v2 (2 ^ m) ∧ lN (sm (fun T => v2 T * wQ g m B c q T) (2 ^ m)) = lN tot := by
    intro n
    induction n with
    | zero => intro q o v1 μ1 hn; exact absurd hn (by omega)
    | succ n ih =>
      intro q o v1 μ1 hn ho hq hoq hW hF hS
      by_cases o0 : o = 0
      · refine ⟨v1, μ1, ?_, hF, hW, ?_⟩
        · rw [qb_Plan_spread_20, if_pos (by rw [o0]; exact zI0)]
        · rw [sm_zero m (fun i _ => by rw [o0, Nat.zero_testBit]; exact if_neg (by decide)), Nat.mul_zero, Nat.add_zero] at hS
          exact hS
      · obtain ⟨i, i8, ib, il, ir, id, ij⟩ := low8 o ho o0
        obtain ⟨im, iq⟩ := hoq i ib
        have ql := or_lt hq im
        have qle : q ≤ q ||| 2 ^ i := Nat.left_le_or
        have qne : q ≠ q ||| 2 ^ i := fun z => by
          have : (q ||| 2 ^ i).testBit i = true := by rw [Nat.testBit_or, Nat.testBit_two_pow_self, Bool.or_true]
          rw [← z, iq] at this
          cases this
        rw [qb_Plan_spread_20, if_neg (by rw [zI_0, zI_eq (by omega)]; omega), zI_oob (n := 256) (by omega), cond_false, show qix (zI (q : Nat)) = q from zI_ixN (by omega), hW q hq]
        by_cases z : lN (v1 q) = Int64.ofInt 0
        · refine ⟨v1, μ1, ?_, hF, hW, ?_⟩
          · rw [if_pos (by rw [lg_cmp_eq]; exact z)]
          · rw [← lN_add, ← lN_mul, z] at hS
            rw [← hS, show (Int64.ofInt 0 : Int64) = 0 from rfl, Int64.zero_mul, Int64.add_zero]
        · rw [if_neg (by rw [lg_cmp_eq]; exact z), il, zI_or, if_neg (by rw [zI_of, zI_le (by omega)]; omega), zI_oob (n := 256) (by omega), cond_false, cond_false, show qix (zI ((q ||| 2 ^ i : Nat) : Int)) = q ||| 2 ^ i from zI_ixN (by omega), hW _ ql, lN_add, cond_false, qb_Plan_spread_64, zI_of, ir]
          refine ih q (o - 2 ^ i) (fun T => if T = (q ||| 2 ^ i) then v1 T + v1 q else v1 T) _ (by omega) (by omega) hq (fun j hj => ?_) hW.st hF.sl ?_
          · by_cases j8 : j < 8
            · rw [ij j j8, Bool.and_eq_true] at hj
              exact hoq j hj.1
            · rw [Nat.testBit_lt_two_pow (Nat.lt_of_lt_of_le (show o - 2 ^ i < 256 by omega) (show 2 ^ 8 ≤ 2 ^ j from Nat.pow_le_pow_right (by decide) (by omega)))] at hj
              cases hj
          · rw [← hS]
            congr 1
            rw [sm_upd (2 ^ m) ql]
            show _ + (if q = (q ||| 2 ^ i) then _ else _) * _ = _
            rw [if_neg qne, sm_point (f := fun j => if o.testBit j = true then mW g m B (c + 1) (q ||| 2 ^ j) else 0) m im, if_pos ib, Nat.mul_add, ← Nat.add_assoc]
            congr 1
            · congr 1
              show v1 q * (if (q ||| 2 ^ i) < q then _ else _) = _
              rw [if_neg (by omega)]
            · congr 1
              refine sm_congr m fun j hj => ?_
              rw [ij j (by omega)]
              by_cases e : j = i
              · rw [if_pos e, decide_eq_true e, if_neg (by simp)]
              · rw [if_neg e, decide_eq_false e, Bool.not_false, Bool.and_true]
  have L : ∀ q (v1 : Nat → Nat) (μ1 : QM), q ≤ 2 ^ m → WV μ1 v1 (2 ^ m) → FrL μ μ1 → lN (sm (fun T => v1 T * wQ g m B c q T) (2 ^ m)) = lN tot →
      ∃ μ' v', qx d qc_Plan_spread 9 [some (qI (zI (G : Nat))), none, some (qR (23, 0, 0)), some (qI (zI ((q : Int) - 1))), none, none, none] [] μ1 = some (none, μ') ∧ FrL μ μ' ∧ WV μ' v' (2 ^ m) ∧ lN (sm (fun T => v' T * mW g m B (c + 1) T) (2 ^ m)) = lN tot := by
    intro q
    induction q with
    | zero =>
      intro v1 μ1 hq hW hF hS
      refine ⟨μ1, v1, ?_, hF, hW, ?_⟩
      · rw [qb_Plan_spread_9, if_pos (by decide), qb_Plan_spread_82]
      · rw [sm_congr (f := fun T => v1 T * wQ g m B c 0 T) (g := fun T => v1 T * mW g m B (c + 1) T) (2 ^ m) (fun T _ => by unfold wQ; rw [if_neg (by omega)])] at hS
        exact hS
    | succ q ih =>
      intro v1 μ1 hq hW hF hS
      have ndl : nd G q < 256 := Nat.lt_of_le_of_lt (nd_le G q) (by omega)
      have e1 : sm (fun T => v1 T * wQ g m B c (q + 1) T) (2 ^ m) = sm (fun T => v1 T * wQ g m B c q T) (2 ^ m) + v1 q * sm (fun i => if (nd G q).testBit i = true then mW g m B (c + 1) (q ||| 2 ^ i) else 0) m := by
        refine sm_wt (by omega) (fun T _ hT => ?_) ?_
        · unfold wQ
          by_cases z : T < q
          · rw [if_pos (by omega), if_pos z]
          · rw [if_neg (by omega), if_neg z]
        · unfold wQ
          rw [if_pos (by omega), if_neg (by omega), mW_t hc hB]
          congr 1
          refine sm_congr m fun i hi => ?_
          rw [nd_bit, hg i hi, decide_eq_true (show i < 32 by omega)]
          cases q.testBit i <;> cases g i c <;> rfl
      rw [e1] at hS
      obtain ⟨v2, μ2, r1, r2, r3, r4⟩ := LI (nd G q + 1) q (nd G q) v1 μ1 (by omega) ndl (by omega) (fun i hi => by
        have h1 := nd_sub hi
        have im : i < m := by
          by_cases z : i < m
          · exact z
          · rw [Nat.testBit_lt_two_pow (Nat.lt_of_lt_of_le hG (Nat.pow_le_pow_right (by decide) (by omega)))] at h1
            cases h1
        rw [nd_bit, h1, decide_eq_true (show i < 32 by omega)] at hi
        exact ⟨im, by cases hq : q.testBit i
                      · rfl
                      · rw [hq] at hi; cases hi⟩) hW hF hS
      obtain ⟨μ3, v3, s1, s2, s3, s4⟩ := ih v2 μ2 (by omega) r3 r2 r4
      refine ⟨μ3, v3, ?_, s2, s3, s4⟩
      rw [qb_Plan_spread_9, show (((q + 1 : Nat) : Int) - 1) = (q : Nat) by omega, if_neg (by rw [zI_0, zI_lt (by omega)]; omega), zI_of, zI_nd, r1, qb_Plan_spread_76, zI_of, zI_add, show ((q : Nat) : Int) + -1 = (q : Nat) - 1 by omega]
      exact s1
  obtain ⟨μ', v', r1, r2, r3, r4⟩ := L (2 ^ m) v μ (Nat.le_refl _) h FrL.rf (by
    rw [ht]
    congr 1
    exact sm_congr (2 ^ m) fun T hT => by unfold wQ; rw [if_pos hT])
  refine ⟨μ', v', ?_, r2, r3, by rw [r4, ht]⟩
  rw [qe_Plan_spread, qb_Plan_spread_0]
  simp only [zI_of]
  rw [zI_sub, if_neg (by rw [zI_lt (by omega)]; omega), show (((2 ^ m - 1 : Nat)) : Int) = ((2 ^ m : Nat) : Int) - 1 by omega]
  exact r1
theorem c_Plan_waysOf (d : Nat) {p m S B : Nat} {D : Nat → Nat} {s : AS} {μ : QM} (hp : p < 2) (hm : m ≤ 8) (h : PD μ p m D) (hC : PC μ p s m D S) (hB : ∀ c, B.testBit c = true → S.testBit c = true) (hB2 : B < 4096) :
    ∃ μ', qcall qprogs (d + 2) 50 [qR (5, p, 0), qI (zI (B : Nat)), qR (23, 0, 0)] μ = some (some (qL (lN (wys (fun i c => aF s c (D i)) m B))), μ') ∧ FrL μ μ' := by
  have p8 : 2 ^ m ≤ 256 := (Nat.pow_le_pow_right (n := 2) (by decide) hm : 2 ^ m ≤ 2 ^ 8)
  have p1 : 1 ≤ 2 ^ m := Nat.one_le_two_pow
  have L1 : ∀ r i (μ1 : QM), i + r = 2 ^ m → FrL μ μ1 → (∀ T, T < i → μ1.2.1 (23, 0, 0) T = lN (if T = 0 then 1 else 0)) → ∃ μ2, qx (d + 1) qc_Plan_waysOf 15 [some (qR (5, p, 0)), some (qI (zI (B : Nat))), some (qR (23, 0, 0)), some (qI (zI ((2 ^ m - 1 : Nat) : Int))), some (qI (zI (i : Nat)))] [] μ1 = qx (d + 1) qc_Plan_waysOf 41 [some (qR (5, p, 0)), some (qI (zI (B : Nat))), some (qR (23, 0, 0)), some (qI (zI ((2 ^ m - 1 : Nat) : Int))), none] [] μ2 ∧ FrL μ μ2 ∧ WV μ2 (fun T => if T = 0 then 1 else 0) (2 ^ m) := by
    intro r
    induction r with
    | zero =>
      intro i μ1 hi hF hv
      rw [qb_Plan_waysOf_15, if_pos (by rw [zI_lt (by omega)]; omega)]
      exact ⟨μ1, rfl, hF, fun T hT => hv T (by omega)⟩
    | succ r ih =>
      intro i μ1 hi hF hv
      have st : qx (d + 1) qc_Plan_waysOf 15 [some (qR (5, p, 0)), some (qI (zI (B : Nat))), some (qR (23, 0, 0)), some (qI (zI ((2 ^ m - 1 : Nat) : Int))), some (qI (zI (i : Nat)))] [] μ1 = qx (d + 1) qc_Plan_waysOf 34 [some (qR (5, p, 0)), some (qI (zI (B : Nat))), some (qR (23, 0, 0)), some (qI (zI ((2 ^ m - 1 : Nat) : Int))), some (qI (zI (i : Nat)))] [qL (lN (if i = 0 then 1 else 0)), qI (zI (i : Nat)), qR (23, 0, 0)] μ1 := by
        rw [qb_Plan_waysOf_15, if_neg (by rw [zI_lt (by omega)]; omega)]
        by_cases e : i = 0
        · rw [if_pos (by rw [e]; exact zI0), if_pos e]; rfl
        · rw [if_neg (by rw [zI_0, zI_eq (by omega)]; omega), if_neg e, qb_Plan_waysOf_33]; rfl
      rw [st, qb_Plan_waysOf_34, zI_oob (n := 256) (by omega), cond_false, zI_of, zI_add, show qix (zI (i : Nat)) = i from zI_ixN (by omega)]
      refine ih (i + 1) _ (by omega) hF.sl fun T hT => ?_
      rw [qsl_get]
      by_cases e : T = i
      · subst e; rw [if_pos ⟨rfl, rfl⟩]
      · rw [if_neg (fun z => e z.2)]; exact hv T (by omega)
  have L2 : ∀ r c (v1 : Nat → Nat) (μ1 : QM), c + r = 12 → FrL μ μ1 → WV μ1 v1 (2 ^ m) → lN (sm (fun T => v1 T * mW (fun i c => aF s c (D i)) m B c T) (2 ^ m)) = lN (wys (fun i c => aF s c (D i)) m B) → ∃ μ2, qx (d + 1) qc_Plan_waysOf 44 [some (qR (5, p, 0)), some (qI (zI (B : Nat))), some (qR (23, 0, 0)), some (qI (zI ((2 ^ m - 1 : Nat) : Int))), some (qI (zI (c : Nat)))] [] μ1 = some (some (qL (lN (wys (fun i c => aF s c (D i)) m B))), μ2) ∧ FrL μ μ2 := by
    intro r
    induction r with
    | zero =>
      intro c v1 μ1 hc hF hW hS
      refine ⟨μ1, ?_, hF⟩
      rw [qb_Plan_waysOf_44, zI_of, if_pos (by rw [zI_le (by omega)]; omega), qb_Plan_waysOf_83, if_neg (by rw [zI_0, zI_lt (by omega)]; omega), zI_oob (n := 256) (by omega), cond_false, qb_Plan_waysOf_94, show qix (zI ((2 ^ m - 1 : Nat) : Int)) = 2 ^ m - 1 from zI_ixN (by omega), hW _ (by omega), ← hS, show c = 12 by omega]
      rw [sm_point (a := 2 ^ m - 1) (2 ^ m) (by omega), sm_zero (2 ^ m) (fun T hT => by
        by_cases e : T = 2 ^ m - 1
        · rw [if_pos e]
        · rw [if_neg e, mW_end hT, if_neg e, Nat.mul_zero]), mW_end (by omega), if_pos rfl, Nat.mul_one, Nat.add_zero]
    | succ r ih =>
      intro c v1 μ1 hc hF hW hS
      have cc : c < 12 := by omega
      rw [qb_Plan_waysOf_44]
      simp (disch := omega) only [zI_of, zI_0, zI_1, zI_add, zI_sub, zI_mul, zI_neg, zI_lt, zI_le, zI_eq, zI_rem, zI_oob, zI_ixN, zI_ix, zI_ite, zI10, zI01, Int.toNat_natCast, cond_false, cond_true, q01_0, q01_1, q01_0z, q01_1z, qB_if, qB_ifz, qB_ret, qB_retz, qbI_some, qbV_some, qbL_some, qbR_some, qbN_some, qbN_none, true_or, or_true, false_or, or_false, if_true, if_false, Int.reduceEq, Int.reduceLT, Int.reduceLE, Int.reduceNeg, zI_31, zI_bit, zI_and, tb_if]
      rw [if_neg (by omega)]
      cases hb : B.testBit c
      · rw [cond_false, qb_Plan_waysOf_77, zI_of, zI_add]
        refine ih (c + 1) v1 μ1 (by omega) hF hW ?_
        rw [← hS]
        congr 1
        exact sm_congr (2 ^ m) fun T _ => by rw [mW_f hb]
      · obtain ⟨k1, k2, k3, k4⟩ := hC.2.2 c (hB c hb)
        have hgl : (gdB s m D c &&& (2 ^ m - 1)) < 2 ^ m := Nat.lt_of_le_of_lt Nat.and_le_left (mk_lt _ m)
        obtain ⟨μ2, v2, r1, r2, r3, r4⟩ := c_Plan_spread d (g := fun i c => aF s c (D i)) (B := B) hm cc hb hgl (fun i hi => by
          rw [Nat.testBit_and, Nat.testBit_two_pow_sub_one, decide_eq_true hi, Bool.and_true]
          unfold gdB
          rw [mk_bit, decide_eq_true hi, Bool.true_and]) hW
        rw [cond_true, hF.1, k4, zI_and, r1, qbV_some, qb_Plan_waysOf_77, zI_of, zI_add]
        exact ih (c + 1) v2 μ2 (by omega) (hF.tr r2) r3 (r4.trans hS)
  obtain ⟨μ1, a1, a2, a3⟩ := L1 (2 ^ m) 0 μ (by omega) FrL.rf (fun T hT => absurd hT (by omega))
  obtain ⟨μ2, b1, b2⟩ := L2 12 0 _ μ1 (by omega) a2 a3 (by
    congr 1
    rw [sm_point (a := 0) (2 ^ m) (by omega), sm_zero (2 ^ m) (fun T hT => by
      by_cases e : T = 0
      · rw [if_pos e]
      · rw [if_neg e, if_neg e, Nat.zero_mul]), if_pos rfl, Nat.one_mul, Nat.add_zero, wys_0])
  refine ⟨μ2, ?_, b2⟩
  rw [qe_Plan_waysOf (h0 := qd5 hp), qb_Plan_waysOf_0, c_Plan_allDays d hp h, qbI_some]
  simp only [zI_of]
  rw [zI_sub, if_neg (by rw [zI_lt (by omega)]; omega)]
  refine (show _ = _ from a1).trans ?_
  rw [qb_Plan_waysOf_41, zI_of]
  exact b1
/-- the causes in all ways, in some -/
def inA (g : Nat → Nat → Bool) (m S c : Nat) : Bool := S.testBit c && decide (wys g m (nd S (2 ^ c)) = 0)
def inSm (g : Nat → Nat → Bool) (m S c : Nat) : Bool := S.testBit c && decide (wys g m (nd S (2 ^ c)) < wys g m S)
theorem lN_eqw {g : Nat → Nat → Bool} {m S T : Nat} (hm : m ≤ 8) : lN (wys g m S) = lN (wys g m T) ↔ wys g m S = wys g m T := by
  have a := wys_le (g := g) (B := S) hm
  have b := wys_le (g := g) (B := T) hm
  exact pk_lEQ (by omega) (by omega)
theorem lN_eqz {g : Nat → Nat → Bool} {m S : Nat} (hm : m ≤ 8) : lN (wys g m S) = Int64.ofInt 0 ↔ wys g m S = 0 := by
  have a := wys_le (g := g) (B := S) hm
  exact pk_lEQ (b := 0) (by omega) (by decide)
theorem c_J_meantCauses (d : Nat) {p m S : Nat} {D : Nat → Nat} {s : AS} {μ : QM} {b : Bool} (hp : p < 2) (hm : m ≤ 8) (h : PD μ p m D) (hC : PC μ p s m D S) :
    ∃ μ', qcall qprogs (d + 3) 143 [qR (0, 0, 0), qR (5, p, 0), qL (lN (wys (fun i c => aF s c (D i)) m S)), qI (qB b)] μ = some (some (qL (lN (mk ((if b = true then inA else inSm) (fun i c => aF s c (D i)) m S) 12))), μ') ∧ FrL μ μ' := by
  obtain ⟨g, hg⟩ : ∃ g, g = fun i c => aF s c (D i) := ⟨_, rfl⟩
  rw [← hg]
  have hS := hC.1
  rw [qe_J_meantCauses (h0 := qd5 hp), qb_J_meantCauses_0]
  by_cases z : wys g m S = 0
  · rw [if_pos (by rw [lg_cmp_eq, lN_eqz hm]; exact z)]
    refine ⟨μ, ?_, FrL.rf⟩
    have z2 : ∀ c, S.testBit c = true → wys g m (nd S (2 ^ c)) = 0 := fun c hc => by
      have := wys_nd (g := g) (m := m) hS (b12 hS hc) hc
      omega
    cases b
    · rw [if_pos (show qB false = 0 from zI0), qb_J_meantCauses_19, qb_J_meantCauses_20]
      have e : mk ((if false = true then inA else inSm) g m S) 12 = 0 := by
        rw [if_neg (by decide)]
        apply Nat.eq_of_testBit_eq
        intro i
        rw [mk_bit, Nat.zero_testBit]
        unfold inSm
        rw [z, decide_eq_false (show ¬ wys g m (nd S (2 ^ i)) < 0 by omega)]
        simp
      rw [e]
      rfl
    · rw [if_neg (show ¬ qB true = 0 by decide), qb_J_meantCauses_20, hC.2.1, zI_nI, nI_l (by omega)]
      have e : mk ((if true = true then inA else inSm) g m S) 12 = S := by
        rw [if_pos rfl]
        apply Nat.eq_of_testBit_eq
        intro i
        rw [mk_bit]
        unfold inA
        cases hb : S.testBit i
        · simp
        · rw [z2 i hb, decide_eq_true (b12 hS hb)]; rfl
      rw [e]
  · rw [if_neg (by rw [lg_cmp_eq, lN_eqz hm]; exact z), qb_J_meantCauses_21, zI_of]
    have L : ∀ r c (μ1 : QM), c + r = 12 → FrL μ μ1 → ∃ μ2, qx (d + 2) qc_J_meantCauses 27 [some (qR (0, 0, 0)), some (qR (5, p, 0)), some (qL (lN (wys g m S))), none, some (qI (qB b)), some (qL (lN (mk ((if b = true then inA else inSm) g m S) c))), none, some (qI (zI (c : Nat))), none, none, none] [] μ1 = some (some (qL (lN (mk ((if b = true then inA else inSm) g m S) 12))), μ2) ∧ FrL μ μ2 := by
      intro r
      induction r with
      | zero =>
        intro c μ1 hc hF
        refine ⟨μ1, ?_, hF⟩
        rw [qb_J_meantCauses_27, zI_of, if_pos (by rw [zI_le (by omega)]; omega), qb_J_meantCauses_108, show c = 12 by omega]
      | succ r ih =>
        intro c μ1 hc hF
        have cc : c < 12 := by omega
        have skip : ∀ μ2, FrL μ μ2 → (if b = true then inA else inSm) g m S c = false → ∃ μ3, qx (d + 2) qc_J_meantCauses 102 [some (qR (0, 0, 0)), some (qR (5, p, 0)), some (qL (lN (wys g m S))), none, some (qI (qB b)), some (qL (lN (mk ((if b = true then inA else inSm) g m S) c))), none, some (qI (zI (c : Nat))), none, none, none] [] μ2 = some (some (qL (lN (mk ((if b = true then inA else inSm) g m S) 12))), μ3) ∧ FrL μ μ3 := fun μ2 hF2 hx => by
          have i1 := ih (c + 1) μ2 (by omega) hF2
          rw [mk_f hx] at i1
          rw [qb_J_meantCauses_102, zI_of, zI_add]
          exact i1
        have take : ∀ μ2, FrL μ μ2 → (if b = true then inA else inSm) g m S c = true → ∃ μ3, qx (d + 2) qc_J_meantCauses 94 [some (qR (0, 0, 0)), some (qR (5, p, 0)), some (qL (lN (wys g m S))), none, some (qI (qB b)), some (qL (lN (mk ((if b = true then inA else inSm) g m S) c))), none, some (qI (zI (c : Nat))), some (qI (zI ((2 ^ c : Nat) : Int))), none, none] [] μ2 = some (some (qL (lN (mk ((if b = true then inA else inSm) g m S) 12))), μ3) ∧ FrL μ μ3 := fun μ2 hF2 hx => by
          have i1 := ih (c + 1) μ2 (by omega) hF2
          have lt := p31 (Nat.pow_lt_pow_right (show 1 < 2 by decide) cc) (by decide)
          rw [mk_t hx, ← mk_or] at i1
          rw [qb_J_meantCauses_94, zI_nI (2 ^ c), nI_l (by omega), lN_or, qb_J_meantCauses_102, zI_of, zI_add]
          exact i1
        rw [qb_J_meantCauses_27, (hC.l hF.1).2.1]
        simp (disch := omega) only [zI_of, zI_0, zI_1, zI_add, zI_sub, zI_mul, zI_neg, zI_lt, zI_le, zI_eq, zI_rem, zI_oob, zI_ixN, zI_ix, zI_ite, zI10, zI01, Int.toNat_natCast, cond_false, cond_true, q01_0, q01_1, q01_0z, q01_1z, qB_if, qB_ifz, qB_ret, qB_retz, qbI_some, qbV_some, qbL_some, qbR_some, qbN_some, qbN_none, true_or, or_true, false_or, or_false, if_true, if_false, Int.reduceEq, Int.reduceLT, Int.reduceLE, Int.reduceNeg, zI_31, zI_bit, zI_and, tb_if]
        rw [if_neg (by omega)]
        cases hb : S.testBit c
        · rw [cond_false]
          refine skip μ1 hF ?_
          cases b <;> simp [inA, inSm, hb]
        · rw [cond_true, qb_J_meantCauses_53, (hC.l hF.1).2.1, zI_of, zI_nd]
          obtain ⟨μ2, w1, w2⟩ := c_Plan_waysOf d hp hm (h.l hF.1) (hC.l hF.1) (B := nd S (2 ^ c)) (fun x hx => nd_sub hx) (Nat.lt_of_le_of_lt (nd_le _ _) hS)
          rw [← hg] at w1
          rw [w1, qbL_some]
          cases b
          · rw [if_pos (show qB false = 0 from zI0), qb_J_meantCauses_87]
            have le := wys_nd (g := g) (m := m) hS cc hb
            by_cases q : wys g m (nd S (2 ^ c)) = wys g m S
            · rw [if_pos (by rw [lg_cmp_eq, lN_eqw hm]; exact q)]
              exact skip μ2 (hF.tr w2) (by rw [if_neg (by decide)]; unfold inSm; rw [decide_eq_false (by omega)]; simp)
            · rw [if_neg (by rw [lg_cmp_eq, lN_eqw hm]; exact q)]
              exact take μ2 (hF.tr w2) (by rw [if_neg (by decide)]; unfold inSm; rw [decide_eq_true (by omega), hb]; rfl)
          · rw [if_neg (show ¬ qB true = 0 by decide)]
            by_cases q : wys g m (nd S (2 ^ c)) = 0
            · rw [if_pos (by rw [lg_cmp_eq, lN_eqz hm]; exact q)]
              exact take μ2 (hF.tr w2) (by rw [if_pos rfl]; unfold inA; rw [decide_eq_true q, hb]; rfl)
            · rw [if_neg (by rw [lg_cmp_eq, lN_eqz hm]; exact q)]
              exact skip μ2 (hF.tr w2) (by rw [if_pos rfl]; unfold inA; rw [decide_eq_false q]; simp)
    exact L 12 0 μ (by omega) FrL.rf
/-- a row of rising days of one weekday -/
def rwD (R : Nat → Nat) (wd : Nat) : Nat → Bool
  | 0 => true
  | n + 1 => rwD R wd n && (decide (R n ≤ 83) && (decide (R n % 7 = wd) && (decide (n = 0) || decide (R (n - 1) < R n))))
theorem rwD_s (R : Nat → Nat) (wd n : Nat) : rwD R wd (n + 1) = (rwD R wd n && (decide (R n ≤ 83) && (decide (R n % 7 = wd) && (decide (n = 0) || decide (R (n - 1) < R n))))) := rfl
theorem rwD_up {R : Nat → Nat} {wd i : Nat} (h : rwD R wd i = false) : ∀ j, rwD R wd (i + j) = false
  | 0 => h
  | j + 1 => by show rwD R wd (i + j + 1) = false; rw [rwD_s, rwD_up h j]; rfl
theorem rwD_at {R : Nat → Nat} {wd : Nat} : ∀ n, rwD R wd n = true → ∀ i, i < n → R i ≤ 83 ∧ R i % 7 = wd
  | 0, _, i, h => absurd h (by omega)
  | n + 1, ht, i, h => by
    rw [rwD_s, Bool.and_eq_true, Bool.and_eq_true, Bool.and_eq_true, decide_eq_true_iff, decide_eq_true_iff] at ht
    by_cases e : i = n
    · rw [e]; exact ⟨ht.2.1, ht.2.2.1⟩
    · exact rwD_at n ht.1 i (by omega)
theorem c_J_isRowOfDays (d : Nat) {wd : Nat} {μ : QM} {σ : GS} (h : CI μ σ) (ok : GOK σ) (hw : wd ≤ 6) : qcall qprogs (d + 2) 142 [qR (0, 0, 0), qI (zI (wd : Nat))] μ = some (some (qI (qB (decide (gK σ ≤ 8) && rwD (gR σ) wd (gK σ)))), μ) := by
  have k12 := ok.2.2.2.2.2.2.1
  have r99 := ok.2.2.2.2.2.2.2
  have hk := h.1.2.2.2.2.1.1
  by_cases k8 : gK σ ≤ 8
  · have L : ∀ r i, i + r = gK σ → rwD (gR σ) wd i = true → qx (d + 1) qc_J_isRowOfDays 15 [some (qR (0, 0, 0)), some (qI (zI (wd : Nat))), some (qI (zI (if i = 0 then -1 else (gR σ (i - 1) : Int)))), some (qI (zI (i : Nat))), none] [] μ = some (some (qI (qB (decide (gK σ ≤ 8) && rwD (gR σ) wd (gK σ)))), μ) := by
      intro r
      induction r with
      | zero =>
        intro i hi ht
        rw [qb_J_isRowOfDays_15, hk, if_pos (by rw [zI_le (by omega)]; omega), qb_J_isRowOfDays_63, zI_of, if_pos (Or.inr (by decide +kernel)), show gK σ = i by omega, ht, decide_eq_true (by omega)]
        rfl
      | succ r ih =>
        intro i hi ht
        have b1 := r99 i (by omega)
        have b2 : i ≠ 0 → gR σ (i - 1) ≤ 99 := fun _ => r99 (i - 1) (by omega)
        have bA : -1 ≤ (if i = 0 then -1 else (gR σ (i - 1) : Int)) ∧ (if i = 0 then -1 else (gR σ (i - 1) : Int)) ≤ 99 := by
          by_cases e : i = 0
          · rw [if_pos e]; omega
          · rw [if_neg e]; have := b2 e; omega
        have out : rwD (gR σ) wd (i + 1) = false → qx (d + 1) qc_J_isRowOfDays 52 [none, none, none, none, none] [] μ = some (some (qI (qB (decide (gK σ ≤ 8) && rwD (gR σ) wd (gK σ)))), μ) := fun q => by
          have := rwD_up q r
          rw [qb_J_isRowOfDays_52, zI_of, if_pos (Or.inl (by decide +kernel)), show gK σ = i + 1 + r by omega, this, Bool.and_false]
          rfl
        have ri : (gR σ i : Int) ≤ (if i = 0 then -1 else (gR σ (i - 1) : Int)) ↔ ¬ (i = 0 ∨ gR σ (i - 1) < gR σ i) := by
          by_cases e : i = 0
          · rw [if_pos e]; constructor
            · intro z; omega
            · intro z; exact absurd (Or.inl e) z
          · rw [if_neg e]; constructor
            · intro z; omega
            · intro z; rw [not_or] at z; omega
        rw [qb_J_isRowOfDays_15, hk, if_neg (by rw [zI_le (by omega)]; omega), c_J_numberAt d h ok (by omega), qbI_some]
        by_cases q1 : i = 0 ∨ gR σ (i - 1) < gR σ i
        · rw [if_neg (by rw [zI_le (by omega), ri]; exact fun z => z q1)]
          simp only [zI_of]
          by_cases q2 : gR σ i ≤ 83
          · rw [if_neg (by rw [zI_lt (by omega)]; omega), if_neg (by decide), zI_rem (by omega), show ((gR σ i : Nat) : Int) % 7 = ((gR σ i % 7 : Nat) : Int) by omega]
            by_cases q3 : gR σ i % 7 = wd
            · rw [if_pos (by rw [q3]), qb_J_isRowOfDays_54, zI_of, zI_add]
              have i1 := ih (i + 1) (by omega) (by
                rw [rwD_s, ht, decide_eq_true q2, decide_eq_true q3]
                rcases q1 with q | q
                · rw [decide_eq_true q]; rfl
                · rw [decide_eq_true q, Bool.or_true]; rfl)
              rw [if_neg (by omega), Nat.add_sub_cancel] at i1
              exact i1
            · rw [if_neg (by rw [zI_eq (by omega)]; omega)]
              exact out (by rw [rwD_s, decide_eq_false q3]; simp)
          · rw [if_pos (by rw [zI_lt (by omega)]; omega)]
            exact out (by rw [rwD_s, decide_eq_false q2]; simp)
        · rw [if_pos (by rw [zI_le (by omega), ri]; exact q1)]
          rw [not_or] at q1
          exact out (by rw [rwD_s, decide_eq_false q1.1, decide_eq_false q1.2]; simp)
    rw [qe_J_isRowOfDays, qb_J_isRowOfDays_0, hk]
    simp only [zI_of]
    rw [if_pos (by rw [zI_le (by omega)]; omega), qb_J_isRowOfDays_11]
    simp only [zI_of]
    exact L (gK σ) 0 (by omega) rfl
  · rw [qe_J_isRowOfDays, qb_J_isRowOfDays_0, hk]
    simp only [zI_of]
    rw [if_neg (by rw [zI_le (by omega)]; omega), if_pos (Or.inl (by decide +kernel)), decide_eq_false k8]
    rfl
theorem c_Plan_takeDays (d : Nat) {p : Nat} {μ : QM} {σ : GS} (hp : p < 2) (h : CI μ σ) (ok : GOK σ) : ∃ μ', qcall qprogs (d + 2) 27 [qR (5, p, 0), qR (19, 0, 0), qI (zI (gK σ : Nat))] μ = some (none, μ') ∧ Fr (isPl p) μ μ' ∧ PD μ' p (gK σ) (gR σ) ∧ PN μ' p := by
  have k12 := ok.2.2.2.2.2.2.1
  have r99 := ok.2.2.2.2.2.2.2
  have L : ∀ r i (μ1 : QM), i + r = gK σ → Fr (isPl p) μ μ1 → PD μ1 p i (gR σ) → PN μ1 p → ∃ μ', qx (d + 1) qc_Plan_takeDays 7 [some (qR (5, p, 0)), some (qR (19, 0, 0)), some (qI (zI (gK σ : Nat))), some (qI (zI (i : Nat)))] [] μ1 = some (none, μ') ∧ Fr (isPl p) μ μ' ∧ PD μ' p (gK σ) (gR σ) ∧ PN μ' p := by
    intro r
    induction r with
    | zero =>
      intro i μ1 hi hF hD hN
      rw [qb_Plan_takeDays_7, if_pos (by rw [zI_le (by omega)]; omega), qb_Plan_takeDays_31]
      rw [show i = gK σ by omega] at hD
      exact ⟨μ1, rfl, hF, hD, hN⟩
    | succ r ih =>
      intro i μ1 hi hF hD hN
      have b1 := r99 i (by omega)
      have e19 : μ1.1 (19, 0, 0) i = zI (gR σ i : Nat) := by
        rw [hF.1 _ (fun z => by have := z.2.1; dsimp only at this; omega)]
        exact h.1.2.2.2.2.1.2 i (by omega)
      obtain ⟨μ2, r1, r2, r3, r4⟩ := c_Plan_takeDay d hp hD (by omega) (x := gR σ i) rfl (by omega)
      rw [qb_Plan_takeDays_7, if_neg (by rw [zI_le (by omega)]; omega), zI_of, if_neg (by rw [zI_le (by omega)]; omega), zI_oob (n := 12) (by omega), cond_false, show qix (zI (i : Nat)) = i from zI_ixN (by omega), e19, r1, qbV_some, zI_of, zI_add]
      exact ih (i + 1) μ2 (by omega) (hF.tr r2) r3 (r4 hN)
  rw [qe_Plan_takeDays (h0 := qd5 hp), qb_Plan_takeDays_0]
  simp only [zI_of]
  exact L (gK σ) 0 _ (by omega) (Fr.si (isPl_of (by decide))) ⟨by decide, qsi_self _ _ _ _, fun i hi => absurd hi (by omega)⟩ ((h.2 p hp).1.congr fun c => by rw [qsi_ne (by simp)])
end
