section
/-! marriages -/
def TM (o : Option AS) (μ : QM) (x : QR) : Prop := ∃ μ', x = some (some (qI (qB o.isSome)), μ') ∧ FrS μ μ' ∧ ∀ s', o = some s' → RM μ' s'
theorem TM.no {μ : QM} {x : QR} (h : x = some (some (qI (zI 0)), μ)) : TM none μ x := ⟨μ, h, FrS.rf, fun _ z => by cases z⟩
theorem TM.yes {μ μ' : QM} {s : AS} {x : QR} (h : x = some (some (qI (zI 1)), μ')) (f : FrS μ μ') (r : RM μ' s) : TM (some s) μ x := ⟨μ', h, f, fun _ z => by cases z; exact r⟩
theorem c_M_comes (d : Nat) {k a : Nat} {t : Nat → Int} {s : AS} {μ : QM} (h : RM μ s) (ok : aOK s) (hk : k < 48) (h37 : μ.1 (37, 0, 0) k = zI (t a)) (ht : TD μ t (4 * k) a) (hb : bad1 t a = none) : TM (exe t s a) μ (qcall qprogs (d + 6) 166 [qR (24, 0, 0), qI (zI (k : Nat))] μ) := by
  have n12 := ok.2.1
  have bD := ok.1
  obtain ⟨g1, g2, g3⟩ := bad1_n hb
  have f9 : ∀ i n, a + 1 ≤ i → i + n ≤ a + 1 + dgs (t a) → fig t i n < 10 ^ n := fun i n h2 h3 => fig9 hb h2 h3
  have a1 := f9 (a + 1) 1 (Nat.le_refl _) (by omega)
  obtain ⟨t1, t2, t3, t4, t5⟩ := ht
  have k4 : Int32.ofInt 4 * zI (k : Nat) = zI ((4 * k : Nat) : Int) := by rw [zI_of, zI_mul]; rfl
  have q1 : zI ((4 * k : Nat) : Int) + Int32.ofInt 1 = zI ((4 * k + 1 : Nat) : Int) := by rw [zI_of, zI_add]; rfl
  have q2 : zI ((4 * k : Nat) : Int) + Int32.ofInt 2 = zI ((4 * k + 2 : Nat) : Int) := by rw [zI_of, zI_add]; rfl
  have q3 : zI ((4 * k : Nat) : Int) + Int32.ofInt 3 = zI ((4 * k + 3 : Nat) : Int) := by rw [zI_of, zI_add]; rfl
  have ix0 : qix (zI ((4 * k : Nat) : Int)) = 4 * k := zI_ixN (by omega)
  have ix1 : qix (zI ((4 * k + 1 : Nat) : Int)) = 4 * k + 1 := zI_ixN (by omega)
  have ix2 : qix (zI ((4 * k + 2 : Nat) : Int)) = 4 * k + 2 := zI_ixN (by omega)
  have ix3 : qix (zI ((4 * k + 3 : Nat) : Int)) = 4 * k + 3 := zI_ixN (by omega)
  have ob0 : qoob (zI ((4 * k : Nat) : Int)) 192 = false := zI_oob (by omega)
  have ob1 : qoob (zI ((4 * k + 1 : Nat) : Int)) 192 = false := zI_oob (by omega)
  have ob2 : qoob (zI ((4 * k + 2 : Nat) : Int)) 192 = false := zI_oob (by omega)
  have ob3 : qoob (zI ((4 * k + 3 : Nat) : Int)) 192 = false := zI_oob (by omega)
  generalize ho : exe t s a = o
  unfold exe at ho
  rw [qe_M_comes, qb_M_comes_0, k4, ob0, cond_false, zI_oob (n := 48) (by omega), cond_false, show qix (zI (k : Nat)) = k from zI_ixN (by omega), h37, ix0]
  simp only [zI_of]
  rcases dgs_c g1 with ⟨e, eg⟩ | ⟨e, eg⟩ | ⟨e, eg⟩ | ⟨e, eg⟩ | ⟨e, eg⟩
  · obtain ⟨u0, u1, u2, u3⟩ := t1 e
    have a2 := f9 (a + 2) 1 (by omega) (by omega)
    have a3 := f9 (a + 3) 1 (by omega) (by omega)
    have a4 := f9 (a + 4) 2 (by omega) (by omega)
    rw [if_pos e] at ho
    rw [if_pos (by rw [e]), u0, qb_M_comes_123, q2, q3, ob2, ob3, ix2, ix3, u2]
    simp only [zI_of]
    generalize fig t (a + 1) 1 = x1 at *
    generalize fig t (a + 2) 1 = x2 at *
    generalize fig t (a + 3) 1 = x3 at *
    generalize fig t (a + 4) 2 = x4 at *
    by_cases e1 : x1 ≤ 5
    · rw [if_neg (by rw [zI_lt (by omega)]; omega), cond_false, c_M_isOne (d + 4) (z := (x3 : Int)) ⟨by omega, by omega⟩, qbI_some]
      by_cases e2 : x3 ≤ 1
      · rw [decide_eq_true (show (x3 : Int) = 0 ∨ (x3 : Int) = 1 by omega), if_neg (by decide), cond_false, u3]
        by_cases e3 : x4 ≤ 83
        · rw [if_neg (by rw [zI_lt (by omega)]; omega), h.cnt]
          by_cases e4 : aN s < 12
          · obtain ⟨μ', r1, r2, r3⟩ := c_M_adds (d + 4) (k := x1) (f := x2) (w := x3) (x := x4) h e4
            rw [if_neg (by rw [zI_eq (by omega)]; omega), qb_M_comes_166, q1, q2, q3, ob1, ob2, ob3, cond_false, cond_false, cond_false, ix1, ix2, ix3, u1, u2, u3, r1, qbV_some, q1r]
            rw [if_pos ⟨e1, e2, e3, e4⟩] at ho
            rw [← ho]
            exact TM.yes rfl r2 r3
          · rw [if_pos (by rw [zI_eq (by omega)]; omega), qb_M_comes_164, q0r]
            rw [if_neg (fun z => e4 z.2.2.2)] at ho
            rw [← ho]
            exact TM.no rfl
        · rw [if_pos (by rw [zI_lt (by omega)]; omega), qb_M_comes_164, q0r]
          rw [if_neg (fun z => e3 z.2.2.1)] at ho
          rw [← ho]
          exact TM.no rfl
      · rw [decide_eq_false (show ¬ ((x3 : Int) = 0 ∨ (x3 : Int) = 1) by omega), if_pos (by decide), qb_M_comes_164, q0r]
        rw [if_neg (fun z => e2 z.2.1)] at ho
        rw [← ho]
        exact TM.no rfl
    · rw [if_pos (by rw [zI_lt (by omega)]; omega), qb_M_comes_164, q0r]
      rw [if_neg (fun z => e1 z.1)] at ho
      rw [← ho]
      exact TM.no rfl
  · have u0 := t2 e
    rw [if_neg (by omega), if_pos e] at ho
    rw [if_neg (by rw [zI_eq (by omega)]; omega), if_neg (by rw [zI_eq (by omega)]; omega), if_neg (by rw [zI_eq (by omega)]; omega), if_neg (by rw [zI_eq (by omega)]; omega), u0, qb_M_comes_223, h.day, zI_of, zI_addN]
    generalize fig t (a + 1) 1 = x1 at *
    by_cases e1 : aD s + x1 ≤ 83
    · rw [if_pos (by rw [zI_le (by omega)]; omega), qb_M_comes_236, zI_of]
      rw [if_pos e1] at ho
      rw [← ho]
      have L : ∀ r i (s1 : AS) (μ1 : QM), i + r = x1 → aD s1 + r ≤ 83 → aOK s1 → FrS μ μ1 → RM μ1 s1 → TM (some (enN s1 r)) μ (qx (d + 5) qc_M_comes 239 [some (qR (24, 0, 0)), none, none, some (qI (zI (x1 : Nat))), some (qI (zI (i : Nat)))] [] μ1) := by
        intro r
        induction r with
        | zero =>
          intro i s1 μ1 hi hd ok1 f1 h1
          rw [qb_M_comes_239, if_pos (by rw [zI_le (by omega)]; omega), qb_M_comes_255, q1r]
          exact TM.yes rfl f1 h1
        | succ r ih =>
          intro i s1 μ1 hi hd ok1 f1 h1
          obtain ⟨μ2, r1, r2, r3⟩ := c_M_ends (d + 3) h1 ok1.e
          rw [qb_M_comes_239, if_neg (by rw [zI_le (by omega)]; omega), r1, qbV_some, zI_of, zI_add]
          exact ih (i + 1) (endD s1) μ2 (by omega) (by show aD s1 + 1 + r ≤ 83; omega) (aOK_endD ok1 (by omega)) (f1.tr r2) r3
      exact L x1 0 s μ (by omega) e1 ok FrS.rf h
    · rw [if_neg (by rw [zI_le (by omega)]; omega), q0r]
      rw [if_neg e1] at ho
      rw [← ho]
      exact TM.no rfl
  · obtain ⟨u0, u1⟩ := t3 e
    have a2 := f9 (a + 2) 3 (by omega) (by omega)
    rw [if_neg (by omega), if_neg (by omega), if_pos e] at ho
    rw [if_neg (by rw [zI_eq (by omega)]; omega), if_pos (by rw [e]), u0, qb_M_comes_98]
    generalize fig t (a + 1) 1 = x1 at *
    generalize fig t (a + 2) 3 = x2 at *
    rw [c_M_isOne (d + 4) (z := (x1 : Int)) ⟨by omega, by omega⟩, qbI_some]
    by_cases e1 : x1 ≤ 1
    · rw [decide_eq_true (show (x1 : Int) = 0 ∨ (x1 : Int) = 1 by omega), if_neg (by decide), qb_M_comes_107, q1, ob1, cond_false, zI_oob (n := 2) (by omega), cond_false, show qix (zI (x1 : Nat)) = x1 from zI_ixN (by omega), ix1, u1, q1r]
      rw [if_pos e1] at ho
      rw [← ho]
      exact TM.yes rfl (FrS.row (by decide)) h.sPu
    · rw [decide_eq_false (show ¬ ((x1 : Int) = 0 ∨ (x1 : Int) = 1) by omega), if_pos (by decide), q0r]
      rw [if_neg e1] at ho
      rw [← ho]
      exact TM.no rfl
  · have u0 := t4 e
    have a2 := f9 (a + 1) 2 (by omega) (by omega)
    rw [if_neg (by omega), if_neg (by omega), if_neg (by omega), if_pos e] at ho
    rw [if_neg (by rw [zI_eq (by omega)]; omega), if_neg (by rw [zI_eq (by omega)]; omega), if_pos (by rw [e]), u0, qb_M_comes_197]
    generalize fig t (a + 1) 2 = x1 at *
    rw [c_M_isCause (d + 4) (z := (x1 : Int)) h ok ⟨by omega, by omega⟩, qbI_some]
    by_cases e1 : x1 < aN s
    · rw [decide_eq_true (show 0 ≤ (x1 : Int) ∧ (x1 : Int) < aN s by omega), if_neg (by decide), c_M_canUse (d + 1) h ok e1, qbI_some]
      cases e2 : usb s x1
      · rw [show (aX s x1 && (decide (aP s (aC s x1 2) 4 = 0) && aG s x1 (aD s))) = false from e2, if_pos (show qB false = 0 from zI0), qb_M_comes_213, q0r]
        rw [if_neg (fun z => by rw [e2] at z; cases z.2)] at ho
        rw [← ho]
        exact TM.no rfl
      · obtain ⟨μ', r1, r2, r3⟩ := c_M_uses (d + 3) h ok e1
        rw [show (aX s x1 && (decide (aP s (aC s x1 2) 4 = 0) && aG s x1 (aD s))) = true from e2, if_neg (show ¬ qB true = 0 by decide), qb_M_comes_215, r1, qbI_some, q1r]
        rw [if_pos ⟨e1, e2⟩] at ho
        rw [← ho]
        exact TM.yes rfl r2 r3
    · rw [decide_eq_false (show ¬ (0 ≤ (x1 : Int) ∧ (x1 : Int) < aN s) by omega), if_pos (by decide), qb_M_comes_213, q0r]
      rw [if_neg (fun z => e1 z.1)] at ho
      rw [← ho]
      exact TM.no rfl
  · obtain ⟨u0, u1⟩ := t5 e
    have a2 := f9 (a + 2) 1 (by omega) (by omega)
    rw [if_neg (by omega), if_neg (by omega), if_neg (by omega), if_neg (by omega)] at ho
    rw [if_neg (by rw [zI_eq (by omega)]; omega), if_neg (by rw [zI_eq (by omega)]; omega), if_neg (by rw [zI_eq (by omega)]; omega), if_pos (by rw [e]), u0, qb_M_comes_60, q1, ob1, ix1]
    generalize fig t (a + 1) 1 = x1 at *
    generalize fig t (a + 2) 1 = x2 at *
    rw [c_M_isOne (d + 4) (z := (x1 : Int)) ⟨by omega, by omega⟩, qbI_some]
    by_cases e1 : x1 ≤ 1
    · rw [decide_eq_true (show (x1 : Int) = 0 ∨ (x1 : Int) = 1 by omega), if_neg (by decide), cond_false, u1, zI_of]
      by_cases e2 : x2 ≤ 6
      · rw [if_pos (by rw [zI_le (by omega)]; omega), qb_M_comes_82, q1, ob1, cond_false, zI_oob (n := 2) (by omega), cond_false, show qix (zI (x1 : Nat)) = x1 from zI_ixN (by omega), ix1, u1, q1r]
        rw [if_pos ⟨e1, e2⟩] at ho
        rw [← ho]
        exact TM.yes rfl (FrS.row (by decide)) h.sWd
      · rw [if_neg (by rw [zI_le (by omega)]; omega), qb_M_comes_80, q0r]
        rw [if_neg (fun z => e2 z.2)] at ho
        rw [← ho]
        exact TM.no rfl
    · rw [decide_eq_false (show ¬ ((x1 : Int) = 0 ∨ (x1 : Int) = 1) by omega), if_pos (by decide), qb_M_comes_80, q0r]
      rw [if_neg (fun z => e1 z.1)] at ho
      rw [← ho]
      exact TM.no rfl
/-- the starts of the statements -/
def sta (t : Nat → Int) : Nat → Nat
  | 0 => 0
  | k + 1 => nxs t (sta t k)
def PT (μ : QM) (t : Nat → Int) (k : Nat) : Prop := ∀ i, i < k → μ.1 (37, 0, 0) i = zI (t (sta t i)) ∧ μ.1 (38, 0, 0) i = zI (sta t i : Nat) ∧ TD μ t (4 * i) (sta t i)
theorem PT.congr {μ μ' : QM} {t : Nat → Int} {k : Nat} (h : PT μ t k) (e1 : μ'.1 (37, 0, 0) = μ.1 (37, 0, 0)) (e2 : μ'.1 (38, 0, 0) = μ.1 (38, 0, 0)) (e3 : μ'.1 (39, 0, 0) = μ.1 (39, 0, 0)) : PT μ' t k := fun i hi => by
  obtain ⟨a, b, c⟩ := h i hi
  exact ⟨by rw [e1]; exact a, by rw [e2]; exact b, c.congr fun x _ _ => by rw [e3]⟩
def isPa (a : QA) : Prop := a = (24, 0, 0) ∨ a = (37, 0, 0) ∨ a = (38, 0, 0) ∨ a = (39, 0, 0)
/-- while it reads -/
def FrP (μ μ' : QM) : Prop := (∀ a, ¬ isPa a → μ'.1 a = μ.1 a) ∧ (∀ j, j ≠ 18 → j ≠ 19 → μ'.1 (24, 0, 0) j = μ.1 (24, 0, 0) j) ∧ μ'.2 = μ.2
theorem FrE.p {μ μ' : QM} {k : Nat} (h : FrE μ μ' k) : FrP μ μ' := ⟨fun a ha => h.1 a (fun z => ha (Or.inl z)) (fun z => ha (Or.inr (Or.inl z))) (fun z => ha (Or.inr (Or.inr (Or.inl z)))) (fun z => ha (Or.inr (Or.inr (Or.inr z)))), fun j a _ => h.2.1 j a, h.2.2.2.2⟩
theorem FrP.tr {μ μ1 μ2 : QM} (h : FrP μ μ1) (h2 : FrP μ1 μ2) : FrP μ μ2 := ⟨fun a b => (h2.1 a b).trans (h.1 a b), fun k b c => (h2.2.1 k b c).trans (h.2.1 k b c), h2.2.2.trans h.2.2⟩
theorem FrP.fl {μ μ1 : QM} {k : Nat} {v : Int32} (h : FrP μ μ1) (hk : k = 18 ∨ k = 19) : FrP μ (qsi μ1 (24, 0, 0) k v) := ⟨fun a ha => by rw [qsi_ne (fun z => ha (Or.inl z))]; exact h.1 a ha, fun j a b => by rw [qsi_get, if_neg (by omega)]; exact h.2.1 j a b, h.2.2⟩
theorem FrP.r {μ μ' : QM} (h : FrP μ μ') : FrR μ μ' := ⟨⟨fun a ha => h.1 a fun z => ha (by
    unfold isRd
    rcases z with z | z | z | z
    · exact Or.inl z
    · rw [z]; exact Or.inr (Or.inr (Or.inl (by decide)))
    · rw [z]; exact Or.inr (Or.inr (Or.inl (by decide)))
    · rw [z]; exact Or.inr (Or.inr (Or.inl (by decide)))), fun a _ => by rw [h.2.2], fun a _ => by rw [h.2.2]⟩, fun k hk => h.2.1 k (by omega) (by omega), fun x _ => by rw [h.1 _ (by unfold isPa; simp)]⟩
theorem RM.pa {μ μ' : QM} {s : AS} (h : RM μ s) (f : FrP μ μ') : RM μ' s := h.congr (f.2.1 12 (by decide) (by decide)) (f.2.1 11 (by decide) (by decide)) (fun k hk => f.1 _ (by unfold isPa; simp; omega)) rfl rfl (fun _ _ _ _ => rfl) (fun _ _ _ _ => rfl)
theorem sta_le {t : Nat → Int} : ∀ k, 2 * k ≤ sta t k
  | 0 => Nat.le_refl 0
  | k + 1 => by
    have := sta_le (t := t) k
    show 2 * (k + 1) ≤ nxs t (sta t k)
    unfold nxs
    omega
/-- the reference reads them all, or stops where one can't go on -/
theorem m_reads (d : Nat) {μ : QM} {σ : GS} (h : MI μ σ) (ok : GOK σ) : ∀ f k (μ1 : QM), gL σ ≤ sta (tl (gT σ) (gL σ)) k + f → sta (tl (gT σ) (gL σ)) k ≤ gL σ → (k = 0 → 0 < gL σ) → FrP μ μ1 → μ1.1 (24, 0, 0) 18 = zI (sta (tl (gT σ) (gL σ)) k : Nat) → μ1.1 (24, 0, 0) 19 = zI (k : Nat) → PT μ1 (tl (gT σ) (gL σ)) k →
    ∃ μ2, FrP μ μ2 ∧ (∀ j, badF (tl (gT σ) (gL σ)) (gL σ) f (sta (tl (gT σ) (gL σ)) k) = some j → qx (d + 5) qc_M_marriage 12 [some (qR (24, 0, 0)), some (qI (zI 1)), none] [] μ1 = qx (d + 5) qc_M_marriage 60 [some (qR (24, 0, 0)), some (qI (zI 0)), none] [] μ2 ∧ μ2.1 (24, 0, 0) 18 = zI (j : Nat)) ∧ (badF (tl (gT σ) (gL σ)) (gL σ) f (sta (tl (gT σ) (gL σ)) k) = none → qx (d + 5) qc_M_marriage 12 [some (qR (24, 0, 0)), some (qI (zI 1)), none] [] μ1 = qx (d + 5) qc_M_marriage 60 [some (qR (24, 0, 0)), some (qI (zI 1)), none] [] μ2 ∧ μ2.1 (24, 0, 0) 19 = zI ((k + cnF (tl (gT σ) (gL σ)) (gL σ) f (sta (tl (gT σ) (gL σ)) k) : Nat) : Int) ∧ PT μ2 (tl (gT σ) (gL σ)) (k + cnF (tl (gT σ) (gL σ)) (gL σ) f (sta (tl (gT σ) (gL σ)) k))) := by
  have hL := ok.2.2.2.2.1
  have hT := ok.2.2.2.2.2.1
  intro f
  induction f with
  | zero =>
    intro k μ1 hf hs hk hF h18 h19 hP
    have hl := h.2.2.2.1.1
    have sl := sta_le (t := tl (gT σ) (gL σ)) k
    have k0 : k ≠ 0 := fun z => by
      have := hk z
      rw [z] at hs hf
      have : sta (tl (gT σ) (gL σ)) 0 = 0 := rfl
      omega
    refine ⟨μ1, hF, fun j hj => (by cases hj), fun _ => ⟨?_, h19, hP⟩⟩
    rw [qb_M_marriage_12, if_neg (by decide), h18, show μ1.1 (24, 0, 0) 17 = zI (gL σ : Nat) from (hF.2.1 17 (by decide) (by decide)).trans hl, if_neg (by rw [zI_lt (by omega)]; omega), h19, if_neg (by rw [zI_0, zI_eq (by omega)]; omega)]
  | succ f ih =>
    intro k μ1 hf hs hk hF h18 h19 hP
    have hl := h.2.2.2.1.1
    have sl := sta_le (t := tl (gT σ) (gL σ)) k
    by_cases q : gL σ ≤ sta (tl (gT σ) (gL σ)) k
    · have k0 : k ≠ 0 := fun z => by
        have := hk z
        rw [z] at hs q
        have : sta (tl (gT σ) (gL σ)) 0 = 0 := rfl
        omega
      rw [badF_e q, cnF_e q]
      refine ⟨μ1, hF, fun j hj => (by cases hj), fun _ => ⟨?_, h19, hP⟩⟩
      rw [qb_M_marriage_12, if_neg (by decide), h18, show μ1.1 (24, 0, 0) 17 = zI (gL σ : Nat) from (hF.2.1 17 (by decide) (by decide)).trans hl, if_neg (by rw [zI_lt (by omega)]; omega), h19, if_neg (by rw [zI_0, zI_eq (by omega)]; omega)]
    · have ml : MLet μ1 (gL σ) (gT σ) := h.2.2.2.1.c (hF.2.1 17 (by decide) (by decide)) (hF.1 _ (by unfold isPa; simp))
      obtain ⟨μ2, r1, r2, r3, r4⟩ := c_M_statement (d + 1) ml hL hT h18 h19 (by omega) (by omega)
      have e34 : qx (d + 5) qc_M_marriage 12 [some (qR (24, 0, 0)), some (qI (zI 1)), none] [] μ1 = qx (d + 5) qc_M_marriage 34 [some (qR (24, 0, 0)), none, none] [] μ1 := by
        rw [qb_M_marriage_12, if_neg (by decide), h18, show μ1.1 (24, 0, 0) 17 = zI (gL σ : Nat) from (hF.2.1 17 (by decide) (by decide)).trans hl, if_pos (by rw [zI_lt (by omega)]; omega)]
      have r19 : μ2.1 (24, 0, 0) 19 = zI (k : Nat) := (r2.2.1 19 (by decide)).trans h19
      cases hb : bad1 (tl (gT σ) (gL σ)) (sta (tl (gT σ) (gL σ)) k) with
      | some j =>
        rw [badF_b q hb]
        refine ⟨qsi μ2 (24, 0, 0) 19 (zI (k : Nat)), (hF.tr r2.p).fl (Or.inr rfl), fun j2 hj => ?_, fun z => (by cases z)⟩
        cases hj
        refine ⟨?_, by rw [qsi_get, if_neg (by simp)]; exact r3 j hb⟩
        rw [e34, qb_M_marriage_34, r1, qbI_some, hb, if_pos (show qB (Option.isNone (some j)) = 0 from zI0), r19, qb_M_marriage_52, qb_M_marriage_53, zI_of, zI_add, Int.add_zero, qb_M_marriage_12, if_pos (show qB (Option.isNone (some j)) = 0 from zI0)]
        rfl
      | none =>
        obtain ⟨x1, x2, x3, x4⟩ := r4 hb
        have nx := nxs_L (T := gT σ) (L := gL σ) hb
        have hF3 : FrP μ (qsi μ2 (24, 0, 0) 19 (zI ((k + 1 : Nat) : Int))) := (hF.tr r2.p).fl (Or.inr rfl)
        obtain ⟨μ4, y1, y2, y3⟩ := ih (k + 1) (qsi μ2 (24, 0, 0) 19 (zI ((k + 1 : Nat) : Int))) (by show gL σ ≤ nxs _ _ + f; omega) nx.1 (fun z => by omega) hF3 (by rw [qsi_get, if_neg (by simp)]; exact x1) (qsi_self _ _ _ _) (fun i hi => by
          by_cases e : i = k
          · rw [e, qsi_ne (by simp), qsi_ne (by simp)]
            exact ⟨x2, x3, x4.congr fun x _ _ => by rw [qsi_ne (by simp)]⟩
          · obtain ⟨p1, p2, p3⟩ := hP i (by omega)
            rw [qsi_ne (by simp), qsi_ne (by simp), (r2.2.2.1 i e).1, (r2.2.2.1 i e).2]
            exact ⟨p1, p2, p3.congr fun x z1 z2 => by rw [qsi_ne (by simp), r2.2.2.2.1 x (by omega)]⟩)
        have e12 : qx (d + 5) qc_M_marriage 12 [some (qR (24, 0, 0)), some (qI (zI 1)), none] [] μ1 = qx (d + 5) qc_M_marriage 12 [some (qR (24, 0, 0)), some (qI (zI 1)), none] [] (qsi μ2 (24, 0, 0) 19 (zI ((k + 1 : Nat) : Int))) := by
          rw [e34, qb_M_marriage_34, r1, qbI_some, hb, if_neg (show ¬ qB (Option.isNone (none : Option Nat)) = 0 from (by decide : ¬ qB true = 0)), r19, qb_M_marriage_53, zI_of, zI_add]
          rfl
        rw [badF_s q hb, cnF_s q]
        refine ⟨μ4, y1, fun j hj => ?_, fun hn => ?_⟩
        · obtain ⟨w1, w2⟩ := y2 j hj
          exact ⟨e12.trans w1, w2⟩
        · obtain ⟨w1, w2, w3⟩ := y3 hn
          have e : k + 1 + cnF (tl (gT σ) (gL σ)) (gL σ) f (sta (tl (gT σ) (gL σ)) (k + 1)) = k + (cnF (tl (gT σ) (gL σ)) (gL σ) f (nxs (tl (gT σ) (gL σ)) (sta (tl (gT σ) (gL σ)) k)) + 1) := by
            show k + 1 + cnF _ _ f (nxs _ _) = _
            omega
          rw [e] at w2 w3
          exact ⟨e12.trans w1, w2, w3⟩
end
