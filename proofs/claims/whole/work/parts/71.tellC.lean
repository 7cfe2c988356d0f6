section
/-! the class does what a text says -/
def TJ (o : Option AS) (μ : QM) (x : QR) : Prop := ∃ μ', x = some (some (qI (qB o.isSome)), μ') ∧ Fr (isA 1) μ μ' ∧ ∀ s', o = some s' → RA μ' 1 s'
theorem TJ.no {μ : QM} {x : QR} (h : x = some (some (qI (zI 0)), μ)) : TJ none μ x := ⟨μ, h, Fr.rf, fun _ z => by cases z⟩
theorem TJ.yes {μ μ' : QM} {s : AS} {x : QR} (h : x = some (some (qI (zI 1)), μ')) (f : Fr (isA 1) μ μ') (r : RA μ' 1 s) : TJ (some s) μ x := ⟨μ', h, f, fun _ z => by cases z; exact r⟩
theorem q0r {μ : QM} : (if Int32.ofInt 0 = 0 ∨ Int32.ofInt 0 = 1 then some (some (qI (Int32.ofInt 0)), μ) else none : QR) = some (some (qI (zI 0)), μ) := by rw [zI_of]; exact if_pos (Or.inl (by decide +kernel))
theorem q1r {μ : QM} : (if Int32.ofInt 1 = 0 ∨ Int32.ofInt 1 = 1 then some (some (qI (Int32.ofInt 1)), μ) else none : QR) = some (some (qI (zI 1)), μ) := by rw [zI_of]; exact if_pos (Or.inr (by decide +kernel))
theorem c_J_tellWeekday (d : Nat) {w v : Nat} {s : AS} {μ : QM} (h : RA μ 1 s) (hw : w ≤ 999) (hv : v ≤ 999) : TJ (if w ≤ 1 ∧ v ≤ 6 then some (setP s w 0 v) else none) μ (qcall qprogs (d + 2) 119 [qR (0, 0, 0), qI (zI (w : Nat)), qI (zI (v : Nat))] μ) := by
  generalize ho : (if w ≤ 1 ∧ v ≤ 6 then some (setP s w 0 v) else none) = o
  rw [qe_J_tellWeekday, qb_J_tellWeekday_0, c_J_isNobody d (z := (w : Int)) ⟨by omega, by omega⟩, qbI_some]
  by_cases e1 : w ≤ 1
  · rw [decide_eq_true (show (w : Int) = 0 ∨ (w : Int) = 1 by omega), if_pos (by decide), c_J_isNoWeekday d (z := (v : Int)) ⟨by omega, by omega⟩, qbI_some]
    by_cases e2 : v ≤ 6
    · rw [decide_eq_true (show 0 ≤ (v : Int) ∧ (v : Int) ≤ 6 by omega), if_pos (by decide), qb_J_tellWeekday_16, c_Affair_person d (by decide) (by omega), qbR_some (qd3 (by decide) (by omega)), q1r]
      rw [if_pos ⟨e1, e2⟩] at ho
      rw [← ho]
      exact TJ.yes rfl (Fr.si ⟨Or.inr (Or.inr rfl), rfl⟩) h.sP
    · rw [decide_eq_false (show ¬ (0 ≤ (v : Int) ∧ (v : Int) ≤ 6) by omega), if_neg (by decide), qb_J_tellWeekday_14, q0r]
      rw [if_neg (fun z => e2 z.2)] at ho
      rw [← ho]
      exact TJ.no rfl
  · rw [decide_eq_false (show ¬ ((w : Int) = 0 ∨ (w : Int) = 1) by omega), if_neg (by decide), qb_J_tellWeekday_14, q0r]
    rw [if_neg (fun z => e1 z.1)] at ho
    rw [← ho]
    exact TJ.no rfl
theorem c_J_tellPurse (d : Nat) {w v : Nat} {s : AS} {μ : QM} (h : RA μ 1 s) (hw : w ≤ 999) : TJ (if w ≤ 1 then some (setP s w 1 v) else none) μ (qcall qprogs (d + 2) 120 [qR (0, 0, 0), qI (zI (w : Nat)), qI (zI (v : Nat))] μ) := by
  generalize ho : (if w ≤ 1 then some (setP s w 1 v) else none) = o
  rw [qe_J_tellPurse, qb_J_tellPurse_0, c_J_isNobody d (z := (w : Int)) ⟨by omega, by omega⟩, qbI_some]
  by_cases e1 : w ≤ 1
  · rw [decide_eq_true (show (w : Int) = 0 ∨ (w : Int) = 1 by omega), if_pos (by decide), qb_J_tellPurse_9, c_Affair_person d (by decide) (by omega), qbR_some (qd3 (by decide) (by omega)), q1r]
    rw [if_pos e1] at ho
    rw [← ho]
    exact TJ.yes rfl (Fr.si ⟨Or.inr (Or.inr rfl), rfl⟩) h.sP
  · rw [decide_eq_false (show ¬ ((w : Int) = 0 ∨ (w : Int) = 1) by omega), if_neg (by decide), q0r]
    rw [if_neg e1] at ho
    rw [← ho]
    exact TJ.no rfl
theorem c_J_tellCause (d : Nat) {k f w x : Nat} {s : AS} {μ : QM} (h : RA μ 1 s) (ok : aOK s) (hk : k ≤ 999) (hf : f ≤ 9) (hw : w ≤ 999) (hx : x ≤ 999) : TJ (if k ≤ 5 ∧ w ≤ 1 ∧ x ≤ 83 ∧ aN s < 12 then some (addC s k f w x) else none) μ (qcall qprogs (d + 4) 121 [qR (0, 0, 0), qI (zI (k : Nat)), qI (zI (f : Nat)), qI (zI (w : Nat)), qI (zI (x : Nat))] μ) := by
  generalize ho : (if k ≤ 5 ∧ w ≤ 1 ∧ x ≤ 83 ∧ aN s < 12 then some (addC s k f w x) else none) = o
  have n12 := ok.2.1
  rw [qe_J_tellCause, qb_J_tellCause_0, c_J_isNoKind (d + 2) (z := (k : Int)) ⟨by omega, by omega⟩, qbI_some]
  by_cases e1 : k ≤ 5
  · rw [decide_eq_true (show 0 ≤ (k : Int) ∧ (k : Int) ≤ 5 by omega), if_pos (by decide), c_J_isNobody (d + 2) (z := (w : Int)) ⟨by omega, by omega⟩, qbI_some]
    by_cases e2 : w ≤ 1
    · rw [decide_eq_true (show (w : Int) = 0 ∨ (w : Int) = 1 by omega), if_pos (by decide), zI_of]
      by_cases e3 : x ≤ 83
      · rw [if_neg (by rw [zI_lt (by omega)]; omega), h.cnt, zI_of]
        by_cases e4 : aN s < 12
        · obtain ⟨μ', r1, r2, r3⟩ := c_Affair_bring d (w := w) (x := x) (show 1 < 11 by decide) h e4 e1 hf
          rw [if_pos (by rw [zI_lt (by omega)]; omega), qb_J_tellCause_35, r1, qbV_some, q1r]
          rw [if_pos ⟨e1, e2, e3, e4⟩] at ho
          rw [← ho]
          exact TJ.yes rfl r2 r3
        · rw [if_neg (by rw [zI_lt (by omega)]; omega), qb_J_tellCause_33, q0r]
          rw [if_neg (fun z => e4 z.2.2.2)] at ho
          rw [← ho]
          exact TJ.no rfl
      · rw [if_pos (by rw [zI_lt (by omega)]; omega), qb_J_tellCause_33, q0r]
        rw [if_neg (fun z => e3 z.2.2.1)] at ho
        rw [← ho]
        exact TJ.no rfl
    · rw [decide_eq_false (show ¬ ((w : Int) = 0 ∨ (w : Int) = 1) by omega), if_neg (by decide), qb_J_tellCause_33, q0r]
      rw [if_neg (fun z => e2 z.2.1)] at ho
      rw [← ho]
      exact TJ.no rfl
  · rw [decide_eq_false (show ¬ (0 ≤ (k : Int) ∧ (k : Int) ≤ 5) by omega), if_neg (by decide), qb_J_tellCause_33, q0r]
    rw [if_neg (fun z => e1 z.1)] at ho
    rw [← ho]
    exact TJ.no rfl
theorem c_J_tellUse (d : Nat) {c : Nat} {s : AS} {μ : QM} (h : RA μ 1 s) (ok : aOK s) (hc : c ≤ 999) : TJ (if c < aN s ∧ usb s c = true then some (useC s c) else none) μ (qcall qprogs (d + 4) 122 [qR (0, 0, 0), qI (zI (c : Nat))] μ) := by
  generalize ho : (if c < aN s ∧ usb s c = true then some (useC s c) else none) = o
  have n12 := ok.2.1
  rw [qe_J_tellUse, qb_J_tellUse_0]
  by_cases e1 : c < aN s
  · rw [c_Affair_causeAt (d + 2) (by decide) h ok e1, qbN_some (qd1 (by decide) (by omega)), c_Affair_isUsable d (by decide) h ok e1, qbI_some]
    cases e2 : usb s c
    · rw [show (aX s c && (decide (aP s (aC s c 2) 4 = 0) && aG s c (aD s))) = false from e2, if_pos (show qB false = 0 from zI0), qb_J_tellUse_24, q0r]
      rw [if_neg (fun z => by rw [e2] at z; cases z.2)] at ho
      rw [← ho]
      exact TJ.no rfl
    · obtain ⟨μ', r1, r2, r3⟩ := c_Affair_spend (d + 1) (show 1 < 11 by decide) h ok e1
      rw [show (aX s c && (decide (aP s (aC s c 2) 4 = 0) && aG s c (aD s))) = true from e2, if_neg (show ¬ qB true = 0 by decide), qb_J_tellUse_26, r1, qbI_some, q1r]
      rw [if_pos ⟨e1, e2⟩] at ho
      rw [← ho]
      exact TJ.yes rfl r2 r3
  · rw [c_Affair_causeAtN (d + 2) (by decide) h ok (Or.inr (by rw [zI_int (by omega) (by omega)]; omega)), qbN_none, qb_J_tellUse_24, q0r]
    rw [if_neg (fun z => e1 z.1)] at ho
    rw [← ho]
    exact TJ.no rfl
theorem c_J_tellDays (d : Nat) {n : Nat} {s : AS} {μ : QM} (h : RA μ 1 s) (ok : aOK s) (hn : n ≤ 999) : TJ (if aD s + n ≤ 83 then some (enN s n) else none) μ (qcall qprogs (d + 4) 123 [qR (0, 0, 0), qI (zI (n : Nat))] μ) := by
  generalize ho : (if aD s + n ≤ 83 then some (enN s n) else none) = o
  have bD := ok.1
  rw [qe_J_tellDays, qb_J_tellDays_0, h.day, zI_of, zI_addN]
  by_cases e1 : aD s + n ≤ 83
  · rw [if_pos (by rw [zI_le (by omega)]; omega), qb_J_tellDays_16, zI_of]
    rw [if_pos e1] at ho
    rw [← ho]
    have L : ∀ r i (s1 : AS) (μ1 : QM), i + r = n → aD s1 + r ≤ 83 → aOK s1 → Fr (isA 1) μ μ1 → RA μ1 1 s1 → TJ (some (enN s1 r)) μ (qx (d + 3) qc_J_tellDays 18 [some (qR (0, 0, 0)), some (qI (zI (n : Nat))), some (qI (zI (i : Nat)))] [] μ1) := by
      intro r
      induction r with
      | zero =>
        intro i s1 μ1 hi hd ok1 f1 h1
        rw [qb_J_tellDays_18, if_pos (by rw [zI_le (by omega)]; omega), qb_J_tellDays_36, q1r]
        exact TJ.yes rfl f1 h1
      | succ r ih =>
        intro i s1 μ1 hi hd ok1 f1 h1
        obtain ⟨μ2, r1, r2, r3⟩ := c_Affair_endDay d (show 1 < 11 by decide) h1 ok1
        rw [qb_J_tellDays_18, if_neg (by rw [zI_le (by omega)]; omega), r1, qbV_some, zI_of, zI_add]
        exact ih (i + 1) (endD s1) μ2 (by omega) (by show aD s1 + 1 + r ≤ 83; omega) (aOK_endD ok1 (by omega)) (f1.tr r2) r3
    exact L n 0 s μ (by omega) e1 ok Fr.rf h
  · rw [if_neg (by rw [zI_le (by omega)]; omega), q0r]
    rw [if_neg e1] at ho
    rw [← ho]
    exact TJ.no rfl
theorem TJ.ret {o : Option AS} {μ : QM} {x : QR} (h : TJ o μ x) : TJ o μ (qbI x fun x4 μ3 => if x4 = 0 ∨ x4 = 1 then some (some (qI x4), μ3) else none) := by
  obtain ⟨μ', r1, r2⟩ := h
  exact ⟨μ', by rw [r1, qbI_some, qB_ret], r2⟩
theorem c_J_tellStatement (d : Nat) {a L : Nat} {T : Nat → Nat} {s : AS} {μ : QM} (hl : CLet μ L T) (hL : L ≤ 96) (hT : ∀ i, i < L → T i ≤ 255) (h : RA μ 1 s) (ok : aOK s) (ha : a < L) (hb : bad1 (tl T L) a = none) : TJ (exe (tl T L) s a) μ (qcall qprogs (d + 5) 118 [qR (0, 0, 0), qI (zI (a : Nat))] μ) := by
  generalize ho : (exe (tl T L) s a) = o
  obtain ⟨g1, g2, g3⟩ := bad1_n hb
  have dc := dgs_c g1
  have tb := tl_b hT a
  have dgb : ∀ i n, a + 1 ≤ i → i + n ≤ a + 1 + dgs (tl T L a) → ∀ j, i ≤ j → j < i + n → 48 ≤ tl T L j ∧ tl T L j ≤ 57 := fun i n h1 h2 j h3 h4 => isd_b g2 (by omega) (by omega)
  have fg : ∀ i n, a + 1 ≤ i → i + n ≤ a + 1 + dgs (tl T L a) → n ≤ 3 → qcall qprogs (d + 4) 127 [qR (0, 0, 0), qI (zI (i : Nat)), qI (zI (n : Nat))] μ = some (some (qI (zI (fig (tl T L) i n : Nat))), μ) := fun i n h1 h2 h3 => c_J_figureAt (d + 2) hl hL (by have := dgs_le (tl T L a); omega) h3 (dgb i n h1 h2)
  have f9 : ∀ i n, a + 1 ≤ i → i + n ≤ a + 1 + dgs (tl T L a) → fig (tl T L) i n < 10 ^ n := fun i n h2 h3 => fig9 hb h2 h3
  have p1 : zI (a : Nat) + Int32.ofInt 1 = zI ((a + 1 : Nat) : Int) := by rw [zI_of, zI_add]; rfl
  have p2 : zI (a : Nat) + Int32.ofInt 2 = zI ((a + 2 : Nat) : Int) := by rw [zI_of, zI_add]; rfl
  have p3 : zI (a : Nat) + Int32.ofInt 3 = zI ((a + 3 : Nat) : Int) := by rw [zI_of, zI_add]; rfl
  have p4 : zI (a : Nat) + Int32.ofInt 4 = zI ((a + 4 : Nat) : Int) := by rw [zI_of, zI_add]; rfl
  have n1 : Int32.ofInt 1 = zI ((1 : Nat) : Int) := zI_of 1
  have n2 : Int32.ofInt 2 = zI ((2 : Nat) : Int) := zI_of 2
  have n3 : Int32.ofInt 3 = zI ((3 : Nat) : Int) := zI_of 3
  have a1 := f9 (a + 1) 1 (Nat.le_refl _) (by omega)
  rw [qe_J_tellStatement, qb_J_tellStatement_0, p1, n1, fg (a + 1) 1 (Nat.le_refl _) (by omega) (by decide), qbI_some, c_J_letterAt (d + 3) hl hL (by omega), qbI_some]
  simp only [zI_of]
  unfold exe at ho
  rcases dc with ⟨e, eg⟩ | ⟨e, eg⟩ | ⟨e, eg⟩ | ⟨e, eg⟩ | ⟨e, eg⟩
  · have a2 := f9 (a + 2) 1 (by omega) (by omega)
    have a3 := f9 (a + 3) 1 (by omega) (by omega)
    have a4 := f9 (a + 4) 2 (by omega) (by omega)
    rw [if_pos (by rw [e]), qb_J_tellStatement_92, p2, p3, p4, n1, n2, fg (a + 2) 1 (by omega) (by omega) (by decide), qbI_some, fg (a + 3) 1 (by omega) (by omega) (by decide), qbI_some, fg (a + 4) 2 (by omega) (by omega) (by decide), qbI_some]
    rw [if_pos e] at ho
    rw [← ho]
    exact (c_J_tellCause d h ok (by omega) (by omega) (by omega) (by omega)).ret
  · rw [if_neg (by rw [zI_eq (by omega)]; omega), if_pos (by rw [e]), qb_J_tellStatement_135]
    rw [if_neg (by omega), if_pos e] at ho
    rw [← ho]
    exact (c_J_tellDays d h ok (by omega)).ret
  · rw [if_neg (by rw [zI_eq (by omega)]; omega), if_neg (by rw [zI_eq (by omega)]; omega), if_pos (by rw [e]), qb_J_tellStatement_78, p2, n3, fg (a + 2) 3 (by omega) (by omega) (by decide), qbI_some]
    rw [if_neg (by omega), if_neg (by omega), if_pos e] at ho
    rw [← ho]
    exact (c_J_tellPurse (d + 2) h (by omega)).ret
  · have a2 := f9 (a + 1) 2 (by omega) (by omega)
    rw [if_neg (by rw [zI_eq (by omega)]; omega), if_neg (by rw [zI_eq (by omega)]; omega), if_neg (by rw [zI_eq (by omega)]; omega), if_pos (by rw [e]), qb_J_tellStatement_122, p1, n2, fg (a + 1) 2 (by omega) (by omega) (by decide), qbI_some]
    rw [if_neg (by omega), if_neg (by omega), if_neg (by omega), if_pos e] at ho
    rw [← ho]
    exact (c_J_tellUse d h ok (by omega)).ret
  · have a2 := f9 (a + 2) 1 (by omega) (by omega)
    rw [if_neg (by rw [zI_eq (by omega)]; omega), if_neg (by rw [zI_eq (by omega)]; omega), if_neg (by rw [zI_eq (by omega)]; omega), if_neg (by rw [zI_eq (by omega)]; omega), if_pos (by rw [e]), qb_J_tellStatement_64, p2, n1, fg (a + 2) 1 (by omega) (by omega) (by decide), qbI_some]
    rw [if_neg (by omega), if_neg (by omega), if_neg (by omega), if_neg (by omega)] at ho
    rw [← ho]
    exact (c_J_tellWeekday (d + 2) h (by omega) (by omega)).ret
theorem CLet.m {μ μ' : QM} {n : Nat} {T : Nat → Nat} (h : CLet μ n T) (f : Fr (isA 1) μ μ') : CLet μ' n T := h.c (by rw [f.1 _ (isA_no (Or.inl rfl))]) (f.1 _ (isA_no (Or.inr (by decide))))
/-- what tellStatements answers -/
def tsv (t : Nat → Int) (L f a m : Nat) (s : AS) : Int := match exF t L f a s with
  | .inl _ => ((m + cnF t L f a : Nat) : Int)
  | .inr x => -2000 - (x : Int)
theorem c_J_tellStatements (d : Nat) {μ : QM} {σ : GS} (h : CI μ σ) (ok : GOK σ) (hb : badF (tl (gT σ) (gL σ)) (gL σ) (gL σ) 0 = none) : ∃ μ', qcall qprogs (d + 7) 117 [qR (0, 0, 0)] μ = some (some (qI (zI (tsv (tl (gT σ) (gL σ)) (gL σ) (gL σ) 0 0 (gS σ)))), μ') ∧ CI μ' σ ∧ Fr isCl μ μ' ∧ ∀ s', exF (tl (gT σ) (gL σ)) (gL σ) (gL σ) 0 (gS σ) = .inl s' → RA μ' 1 s' := by
  have hL := ok.2.2.2.2.1
  have hT := ok.2.2.2.2.2.1
  obtain ⟨μ1, r1, r2, r3, r4⟩ := j_mind (d + 4) h ok
  have lp : ∀ f a m (s : AS) (μ2 : QM), gL σ ≤ a + f → a ≤ 300 → m + f ≤ 96 → badF (tl (gT σ) (gL σ)) (gL σ) f a = none → Fr (isA 1) μ1 μ2 → RA μ2 1 s → aOK s → ∃ μ3, qx (d + 6) qc_J_tellStatements 15 [some (qR (0, 0, 0)), some (qI (zI (m : Nat))), some (qI (zI (a : Nat)))] [] μ2 = some (some (qI (zI (tsv (tl (gT σ) (gL σ)) (gL σ) f a m s))), μ3) ∧ Fr (isA 1) μ1 μ3 ∧ ∀ s', exF (tl (gT σ) (gL σ)) (gL σ) f a s = .inl s' → RA μ3 1 s' := by
    intro f
    induction f with
    | zero =>
      intro a m s μ2 ha ha2 hm hbd hF hR oks
      have hl := r2.1.2.2.2.1.m hF
      refine ⟨μ2, ?_, hF, fun s' hs => by cases hs; exact hR⟩
      rw [qb_J_tellStatements_15, hl.1, if_pos (by rw [zI_le (by omega)]; omega), qb_J_tellStatements_56]
      rfl
    | succ f ih =>
      intro a m s μ2 ha ha2 hm hbd hF hR oks
      have hl := r2.1.2.2.2.1.m hF
      by_cases q : gL σ ≤ a
      · refine ⟨μ2, ?_, hF, fun s' hs => by rw [exF_e q] at hs; cases hs; exact hR⟩
        rw [qb_J_tellStatements_15, hl.1, if_pos (by rw [zI_le (by omega)]; omega), qb_J_tellStatements_56]
        unfold tsv
        rw [exF_e q, cnF_e q]
        rfl
      · cases hb1 : bad1 (tl (gT σ) (gL σ)) a with
        | some j => rw [badF_b q hb1] at hbd; cases hbd
        | none =>
          rw [badF_s q hb1] at hbd
          obtain ⟨μ4, x1, x2, x3⟩ := c_J_tellStatement (d + 1) hl hL hT hR oks (by omega) hb1
          have tb := tl_b hT a
          have dl := dgs_le (tl (gT σ) (gL σ) a)
          rw [qb_J_tellStatements_15, hl.1, if_neg (by rw [zI_le (by omega)]; omega), x1, qbI_some]
          cases hx : exe (tl (gT σ) (gL σ)) s a with
          | none =>
            refine ⟨μ4, ?_, hF.tr x2, fun s' hs => by rw [exF_n q hx] at hs; cases hs⟩
            rw [if_pos (show qB (Option.isSome (none : Option AS)) = 0 from zI0), zI_of, zI_sub]
            unfold tsv
            rw [exF_n q hx]
          | some s1 =>
            have hl4 := hl.m x2
            obtain ⟨μ5, y1, y2, y3⟩ := ih (nxs (tl (gT σ) (gL σ)) a) (m + 1) s1 μ4 (by unfold nxs; omega) (by unfold nxs; omega) (by omega) hbd (hF.tr x2) (x3 s1 hx) (exe_ok oks hb1 hx)
            refine ⟨μ5, ?_, y2, fun s' hs => by rw [exF_s q hx] at hs; exact y3 s' hs⟩
            rw [if_neg (show ¬ qB (Option.isSome (some s1)) = 0 from (by decide : ¬ qB true = 0)), qb_J_tellStatements_37, c_J_letterAt (d + 5) hl4 hL (by omega), qbI_some, c_J_digitsBehind (d + 5) tb, qbI_some]
            simp only [zI_of]
            rw [zI_add, zI_add, zI_add, show ((a : Int) + ((dgs (tl (gT σ) (gL σ) a) : Nat) + 2)) = ((nxs (tl (gT σ) (gL σ)) a : Nat) : Int) by unfold nxs; omega]
            refine (show _ = _ from y1).trans ?_
            unfold tsv
            rw [exF_s q hx, cnF_s q, show m + 1 + cnF (tl (gT σ) (gL σ)) (gL σ) f (nxs (tl (gT σ) (gL σ)) a) = m + (cnF (tl (gT σ) (gL σ)) (gL σ) f (nxs (tl (gT σ) (gL σ)) a) + 1) by omega]
  obtain ⟨μ3, y1, y2, y3⟩ := lp (gL σ) 0 0 (gS σ) μ1 (by omega) (by omega) (by omega) hb Fr.rf r4 ok.1
  have cm := r2.mind y2
  refine ⟨μ3, ?_, cm.1, r3.tr cm.2, y3⟩
  rw [qe_J_tellStatements, qb_J_tellStatements_0, r1, qbV_some, zI_of]
  exact y1
end
