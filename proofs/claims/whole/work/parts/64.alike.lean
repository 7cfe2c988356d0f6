section
/-! two heaps as alike as can be -/
def loB (U : Nat) : Nat := U &&& (4294967296 - U)
theorem zI_lob {U : Nat} (h : U < 4096) : zI (U : Nat) &&& -zI (U : Nat) = zI (loB U : Nat) := by
  have w : zI (-((U : Nat) : Int)) = zI ((4294967296 - U : Nat) : Int) := by
    rw [show ((4294967296 - U : Nat) : Int) = -((U : Nat) : Int) + 4294967296 by omega]
    unfold zI
    exact Int32.toInt_inj.mp (by rw [Int32.toInt_ofInt, Int32.toInt_ofInt]; exact (Int.add_bmod_right (-((U : Nat) : Int)) 4294967296).symm)
  rw [zI_neg, w, zI_and]
  rfl
def canB (U S : Nat) : Bool := decide (nd S U = 0) && decide (S &&& loB U = loB U)
theorem can_sub {U S c : Nat} (hS : S < 4096) (h : nd S U = 0) (hb : S.testBit c = true) : U.testBit c = true := by
  have e := congrArg (fun z => z.testBit c) h
  have c12 := b12 hS hb
  simp only [nd_bit, hb, Nat.zero_testBit, Bool.true_and, decide_eq_true (show c < 32 by omega)] at e
  cases hu : U.testBit c
  · rw [hu] at e; cases e
  · rfl
theorem can_le {U S : Nat} (hS : S < 4096) (h : canB U S = true) : S ≤ U ∧ loB U ≤ S := by
  unfold canB at h
  rw [Bool.and_eq_true, decide_eq_true_iff, decide_eq_true_iff] at h
  constructor
  · rw [← sub_of (S := S) (A := U) fun c hc => can_sub hS h.1 hc]
    exact Nat.and_le_right
  · rw [← h.2]
    exact Nat.and_le_left
theorem can_lo {U : Nat} (hU : U < 4096) : canB U (loB U) = true := by
  unfold canB
  rw [Nat.and_self, decide_eq_true rfl, Bool.and_true]
  apply decide_eq_true
  apply Nat.eq_of_testBit_eq
  intro c
  rw [nd_bit, Nat.zero_testBit]
  unfold loB
  rw [Nat.testBit_and]
  cases hu : U.testBit c
  · rfl
  · have := b12 hU hu
    rw [decide_eq_true (show c < 32 by omega), Bool.true_xor, Bool.not_true, Bool.and_false]
theorem wB_b {s : AS} (ok : aOK s) {B : Nat} (hB : ∀ c, B.testBit c = true → c < aN s) : ∀ n, wB s B n ≤ 29 * n
  | 0 => Nat.le_refl 0
  | n + 1 => by
    have h1 := wB_b ok hB n
    show wB s B n + (if B.testBit n = true then aW s n else 0) ≤ 29 * (n + 1)
    split
    · rename_i h
      have := ok.w (hB n h)
      omega
    · omega
theorem wB_mono {s : AS} {A B : Nat} (h : ∀ c, A.testBit c = true → B.testBit c = true) : ∀ n, wB s A n ≤ wB s B n
  | 0 => Nat.le_refl 0
  | n + 1 => by
    have h1 := wB_mono (s := s) h n
    show wB s A n + (if A.testBit n = true then aW s n else 0) ≤ wB s B n + (if B.testBit n = true then aW s n else 0)
    by_cases q : A.testBit n = true
    · rw [if_pos q, if_pos (h n q)]; omega
    · rw [if_neg q]; omega
theorem wB_cut {s : AS} {B N : Nat} (h : ∀ c, N ≤ c → B.testBit c = false) : ∀ k, wB s B (N + k) = wB s B N
  | 0 => rfl
  | k + 1 => by
    show wB s B (N + k) + (if B.testBit (N + k) = true then aW s (N + k) else 0) = _
    rw [h (N + k) (by omega), if_neg (by decide), Nat.add_zero]
    exact wB_cut h k
def apN (s : AS) (S : Nat) : Nat := if 2 * wB s S 12 ≤ wB s (unU s) 12 then wB s (unU s) 12 - 2 * wB s S 12 else 2 * wB s S 12 - wB s (unU s) 12
def apF (s : AS) (S o : Nat) : Nat := if canB (unU s) S = true then (if apN s S < apN s o then S else o) else o
theorem ap_par (s : AS) (S : Nat) : apN s S % 2 = wB s (unU s) 12 % 2 := by
  unfold apN
  split <;> omega
theorem ap_abs {s : AS} {S : Nat} (h1 : wB s S 12 ≤ 348) (h2 : wB s (unU s) 12 ≤ 348) : (if (0 : Int32) ≤ zI (((wB s (unU s) 12 : Nat) : Int) - 2 * ((wB s S 12 : Nat) : Int)) then zI (((wB s (unU s) 12 : Nat) : Int) - 2 * ((wB s S 12 : Nat) : Int)) else zI (0 - (((wB s (unU s) 12 : Nat) : Int) - 2 * ((wB s S 12 : Nat) : Int)))) = zI (apN s S : Nat) := by
  unfold apN
  by_cases q : 2 * wB s S 12 ≤ wB s (unU s) 12
  · rw [if_pos q, if_pos (by rw [zI_0, zI_le (by omega)]; omega)]
    exact zI_congr (by omega)
  · rw [if_neg q, if_neg (by rw [zI_0, zI_le (by omega)]; omega)]
    exact zI_congr (by omega)
/-- the answer's heap -/
def apR (s : AS) : Nat := fol (apF s) 0 (2 ^ aN s) (loB (unU s))
theorem apF_lo {s : AS} {S o : Nat} (hS : S < 4096) (h : S < loB (unU s)) : apF s S o = o := by
  unfold apF
  rw [if_neg (fun z => by have := (can_le hS z).2; omega)]
theorem apF_hi {s : AS} {S o : Nat} (hS : S < 4096) (h : unU s < S) : apF s S o = o := by
  unfold apF
  rw [if_neg (fun z => by have := (can_le hS z).1; omega)]
theorem apR_is {s : AS} (hn : aN s ≤ 12) : apR s = fol (apF s) (loB (unU s) + 1) (unU s - loB (unU s)) (loB (unU s)) := by
  have p12 : 2 ^ aN s ≤ 4096 := Nat.pow_le_pow_right (n := 2) (by decide) (show aN s ≤ 12 from hn)
  have Un : unU s < 2 ^ aN s := mk_lt _ _
  have lu : loB (unU s) ≤ unU s := Nat.and_le_left
  unfold apR
  generalize hF : loB (unU s) = F at *
  rw [show 2 ^ aN s = F + (1 + ((unU s - F) + (2 ^ aN s - 1 - unU s))) by omega, fol_add, fol_add, fol_add, fol_id F 0 F (fun i a b o => apF_lo (by omega) (by omega))]
  rw [fol_id (2 ^ aN s - 1 - unU s) _ _ (fun i a b o => apF_hi (by omega) (by omega))]
  rw [show 0 + F = F by omega]
  have e : fol (apF s) F 1 F = F := by
    show apF s F F = F
    unfold apF
    split
    · split <;> rfl
    · rfl
  rw [e]
theorem c_M_apartBy (d : Nat) {H : Nat} {s : AS} {μ : QM} (h : RM μ s) (ok : aOK s) (hH : ∀ c, H.testBit c = true → (unU s).testBit c = true) (h4 : H < 4096) : qcall qprogs (d + 2) 241 [qR (24, 0, 0), qI (zI (H : Nat)), qI (zI (unU s : Nat))] μ = some (some (qI (zI (apN s H : Nat))), μ) := by
  have n12 := ok.2.1
  have U12 := unU_lt n12
  have ub : ∀ c, (unU s).testBit c = true → c < aN s := fun c hc => by rw [unU_bit, Bool.and_eq_true] at hc; simpa using hc.1
  have bU : ∀ n, wB s (unU s) n ≤ 29 * n := wB_b ok ub
  have bH : ∀ n, wB s H n ≤ 29 * n := wB_b ok (fun c hc => ub c (hH c hc))
  have L : ∀ r c, c + r = aN s → qx (d + 1) qc_M_apartBy 5 [some (qR (24, 0, 0)), some (qI (zI (H : Nat))), some (qI (zI (unU s : Nat))), some (qI (zI (2 * ((wB s H c : Nat) : Int) - ((wB s (unU s) c : Nat) : Int)))), some (qI (zI (c : Nat)))] [] μ = some (some (qI (zI (apN s H : Nat))), μ) := by
    intro r
    induction r with
    | zero =>
      intro c hc
      have e1 := wB_cut (s := s) (B := H) (N := aN s) (fun x hx => by
        cases hb : H.testBit x
        · rfl
        · have := ub x (hH x hb); omega) (12 - aN s)
      have e2 := wB_cut (s := s) (B := unU s) (N := aN s) (fun x hx => by
        cases hb : (unU s).testBit x
        · rfl
        · have := ub x hb; omega) (12 - aN s)
      rw [show aN s + (12 - aN s) = 12 by omega] at e1 e2
      have b1 := bH 12
      have b2 := bU 12
      rw [qb_M_apartBy_5, h.cnt, if_pos (by rw [zI_le (by omega)]; omega), show c = aN s by omega, ← e1, ← e2, qb_M_apartBy_61]
      unfold apN
      by_cases q : 2 * wB s H 12 ≤ wB s (unU s) 12
      · by_cases q2 : 2 * wB s H 12 = wB s (unU s) 12
        · rw [if_pos (by rw [zI_0, zI_le (by omega)]; omega), if_pos q, qb_M_apartBy_70, qb_M_apartBy_71]
          exact congrArg (fun z => (some (some (qI z), μ) : QR)) (zI_congr (by omega))
        · rw [if_neg (by rw [zI_0, zI_le (by omega)]; omega), if_pos q, qb_M_apartBy_71, zI_neg]
          exact congrArg (fun z => (some (some (qI z), μ) : QR)) (zI_congr (by omega))
      · rw [if_pos (by rw [zI_0, zI_le (by omega)]; omega), if_neg q, qb_M_apartBy_70, qb_M_apartBy_71]
        exact congrArg (fun z => (some (some (qI z), μ) : QR)) (zI_congr (by omega))
    | succ r ih =>
      intro c hc
      have hcn : c < aN s := by omega
      have wc := ok.w hcn
      have i1 := ih (c + 1) (by omega)
      rw [show wB s H (c + 1) = wB s H c + (if H.testBit c = true then aW s c else 0) from rfl, show wB s (unU s) (c + 1) = wB s (unU s) c + (if (unU s).testBit c = true then aW s c else 0) from rfl] at i1
      rw [qb_M_apartBy_5, h.cnt, if_neg (by rw [zI_le (by omega)]; omega), c_M_has d (by omega) (by omega), qbI_some, qB_if]
      cases hb : H.testBit c
      · rw [hb, if_neg (show ¬ false = true by decide)] at i1
        rw [cond_false, qb_M_apartBy_33, c_M_has d (by omega) (by omega), qbI_some, qB_if]
        cases hu : (unU s).testBit c
        · rw [hu, if_neg (show ¬ false = true by decide)] at i1
          rw [cond_false, qb_M_apartBy_52, qb_M_apartBy_53]
          simp only [zI_of, zI_add]
          simp only [Nat.add_zero] at i1
          rw [Int.add_zero]
          exact i1
        · rw [hu, if_pos rfl] at i1
          rw [cond_true, c_M_weightOf d h ok hcn, qbI_some, qb_M_apartBy_53]
          simp only [zI_of, zI_add, zI_neg]
          rw [show 2 * ((wB s H c + 0 : Nat) : Int) - ((wB s (unU s) c + aW s c : Nat) : Int) = 2 * ((wB s H c : Nat) : Int) - ((wB s (unU s) c : Nat) : Int) + -((aW s c : Nat) : Int) by omega] at i1
          exact i1
      · rw [hb, if_pos rfl, hH c hb, if_pos rfl] at i1
        rw [cond_true, c_M_weightOf d h ok hcn, qbI_some, qb_M_apartBy_53]
        simp only [zI_of, zI_add]
        rw [show 2 * ((wB s H c + aW s c : Nat) : Int) - ((wB s (unU s) c + aW s c : Nat) : Int) = 2 * ((wB s H c : Nat) : Int) - ((wB s (unU s) c : Nat) : Int) + ((aW s c : Nat) : Int) by omega] at i1
        exact i1
  rw [qe_M_apartBy, qb_M_apartBy_0]
  simp only [zI_of]
  exact L (aN s) 0 (by omega)
theorem op_alike {σ : GS} (ok : GOK σ) {z1 : Int} (h1 : iB z1) : OP 93 242 [qI (zI z1)] σ := by
  have b1 := h1.1
  have b2 := h1.2
  have n12 := ok.1.2.1
  have U12 := unU_lt n12
  have p12 : 2 ^ aN (gS σ) ≤ 4096 := Nat.pow_le_pow_right (n := 2) (by decide) (show aN (gS σ) ≤ 12 from n12)
  have Un : unU (gS σ) < 2 ^ aN (gS σ) := mk_lt _ _
  have ub : ∀ c, (unU (gS σ)).testBit c = true → c < aN (gS σ) := fun c hc => by rw [unU_bit, Bool.and_eq_true] at hc; simpa using hc.1
  have bU := wB_b ok.1 ub 12
  have lu : loB (unU (gS σ)) ≤ unU (gS σ) := Nat.and_le_left
  have cw : ∀ S, S < 4096 → canB (unU (gS σ)) S = true → (∀ c, S.testBit c = true → (unU (gS σ)).testBit c = true) ∧ wB (gS σ) S 12 ≤ 348 ∧ apN (gS σ) S ≤ wB (gS σ) (unU (gS σ)) 12 := fun S hS hc => by
    have sb : ∀ c, S.testBit c = true → (unU (gS σ)).testBit c = true := fun c hb => by
      unfold canB at hc
      rw [Bool.and_eq_true, decide_eq_true_iff] at hc
      exact can_sub hS hc.1 hb
    have w1 := wB_b ok.1 (fun c hb => ub c (sb c hb)) 12
    have w2 := wB_mono (s := gS σ) sb 12
    exact ⟨sb, w1, by unfold apN; split <;> omega⟩
  have lo4 : loB (unU (gS σ)) < 4096 := by omega
  have loc := can_lo U12
  have stp1 : ∀ S o, S < 4096 → o < 4096 → canB (unU (gS σ)) o = true → apF (gS σ) S o < 4096 ∧ canB (unU (gS σ)) (apF (gS σ) S o) = true := fun S o h1 h2 h3 => by
    unfold apF
    by_cases q : canB (unU (gS σ)) S = true
    · rw [if_pos q]
      by_cases q2 : apN (gS σ) S < apN (gS σ) o
      · rw [if_pos q2]; exact ⟨h1, q⟩
      · rw [if_neg q2]; exact ⟨h2, h3⟩
    · rw [if_neg q]; exact ⟨h2, h3⟩
  by_cases hz : 0 ≤ z1 ∧ z1 ≤ 1
  · have inv : ∀ r c o, c + r ≤ 4096 → o < 4096 → canB (unU (gS σ)) o = true → fol (apF (gS σ)) c r o < 4096 ∧ canB (unU (gS σ)) (fol (apF (gS σ)) c r o) = true := by
      intro r
      induction r with
      | zero => intro c o _ h2 h3; exact ⟨h2, h3⟩
      | succ r ih =>
        intro c o h0 h2 h3
        rw [fol_s]
        exact ih (c + 1) _ (by omega) (stp1 c o (by omega) h2 h3).1 (stp1 c o (by omega) h2 h3).2
    have rb : apR (gS σ) < 4096 ∧ canB (unU (gS σ)) (apR (gS σ)) = true := inv _ _ _ (by omega) lo4 loc
    refine ⟨qI (zI (if z1 = 0 then ((apN (gS σ) (apR (gS σ)) : Nat) : Int) else ((apR (gS σ) : Nat) : Int))), σ, fun d μ h => ?_, fun d μ h => ?_, ok⟩
    · have e16 : qcall qprogs (d + 30) 93 [qR (0, 0, 0), qI (zI z1)] μ = qx (d + 29) qc_J_alike 16 [some (qR (0, 0, 0)), some (qI (zI z1)), none, none] [] μ := by
        rw [qe_J_alike, qb_J_alike_0]
        simp (disch := omega) only [zI_of, zI_0, zI_1, zI_add, zI_sub, zI_mul, zI_neg, zI_lt, zI_le, zI_eq, zI_rem, zI_oob, zI_ixN, zI_ix, zI_ite, zI10, zI01, Int.toNat_natCast, cond_false, cond_true, q01_0, q01_1, q01_0z, q01_1z, qB_if, qB_ifz, qB_ret, qB_retz, qbI_some, qbV_some, qbL_some, qbR_some, qbN_some, qbN_none, true_or, or_true, false_or, or_false, if_true, if_false, Int.reduceEq, Int.reduceLT, Int.reduceLE, Int.reduceNeg]
        by_cases e : z1 = 0
        · rw [if_pos e]
        · rw [if_neg e, if_pos (by omega)]
      obtain ⟨pn, m, D, pd⟩ := h.2 0 (by decide)
      obtain ⟨μ1, Q, r1, r2, r3, r4, r5, r6, r7⟩ := c_Plan_takeCauses (d + 26) (p := 0) (j := 0) (S := unU (gS σ)) (by decide) (by decide) h.1.1 ok.1 U12 ub pd pn
      have pp : PP μ1 0 (gS σ) m D (unU (gS σ)) Q := ⟨r3, r4, r5, r6, r7⟩
      have ci := h.pp r2 pp
      have step : ∀ c b l, c ≤ unU (gS σ) → l ≤ 400 → ¬ l ≤ wB (gS σ) (unU (gS σ)) 12 % 2 → qx (d + 28) qc_J_evenHeap 27 [some (qR (0, 0, 0)), some (qI (zI (wB (gS σ) (unU (gS σ)) 12 : Nat))), some (qI (zI (loB (unU (gS σ)) : Nat))), some (qI (zI (b : Nat))), some (qI (zI (l : Nat))), some (qI (zI (c : Nat))), none] [] μ1 = (if canB (unU (gS σ)) c = true then if apN (gS σ) c < l then qx (d + 28) qc_J_evenHeap 27 [some (qR (0, 0, 0)), some (qI (zI (wB (gS σ) (unU (gS σ)) 12 : Nat))), some (qI (zI (loB (unU (gS σ)) : Nat))), some (qI (zI (c : Nat))), some (qI (zI (apN (gS σ) c : Nat))), some (qI (zI ((c + 1 : Nat) : Int))), none] [] μ1 else qx (d + 28) qc_J_evenHeap 27 [some (qR (0, 0, 0)), some (qI (zI (wB (gS σ) (unU (gS σ)) 12 : Nat))), some (qI (zI (loB (unU (gS σ)) : Nat))), some (qI (zI (b : Nat))), some (qI (zI (l : Nat))), some (qI (zI ((c + 1 : Nat) : Int))), none] [] μ1 else qx (d + 28) qc_J_evenHeap 27 [some (qR (0, 0, 0)), some (qI (zI (wB (gS σ) (unU (gS σ)) 12 : Nat))), some (qI (zI (loB (unU (gS σ)) : Nat))), some (qI (zI (b : Nat))), some (qI (zI (l : Nat))), some (qI (zI ((c + 1 : Nat) : Int))), none] [] μ1) := by
        intro c b l hc hl hx
        have e105 : ∀ x y, qx (d + 28) qc_J_evenHeap 105 [some (qR (0, 0, 0)), some (qI (zI (wB (gS σ) (unU (gS σ)) 12 : Nat))), some (qI (zI (loB (unU (gS σ)) : Nat))), some (qI x), some (qI y), some (qI (zI (c : Nat))), none] [] μ1 = qx (d + 28) qc_J_evenHeap 27 [some (qR (0, 0, 0)), some (qI (zI (wB (gS σ) (unU (gS σ)) 12 : Nat))), some (qI (zI (loB (unU (gS σ)) : Nat))), some (qI x), some (qI y), some (qI (zI ((c + 1 : Nat) : Int))), none] [] μ1 := fun x y => by
          rw [qb_J_evenHeap_105, zI_of, zI_add]
          rfl
        have ndl := nd_le c (unU (gS σ))
        have andl : c &&& loB (unU (gS σ)) ≤ c := Nat.and_le_left
        rw [qb_J_evenHeap_27, r5.2.1, if_neg (by rw [zI_lt (by omega)]; omega), if_neg (by decide), zI_of, zI_rem (by omega), show (((wB (gS σ) (unU (gS σ)) 12 : Nat) : Int) % 2) = ((wB (gS σ) (unU (gS σ)) 12 % 2 : Nat) : Int) by omega, if_neg (by rw [zI_le (by omega)]; omega), zI_of, zI_nd, zI_and]
        by_cases c1 : nd c (unU (gS σ)) = 0
        · by_cases c2 : c &&& loB (unU (gS σ)) = loB (unU (gS σ))
          · have cc : canB (unU (gS σ)) c = true := by unfold canB; rw [decide_eq_true c1, decide_eq_true c2]; rfl
            obtain ⟨w1, w2, w3⟩ := cw c (by omega) cc
            have e := ap_abs (s := gS σ) (S := c) w2 (by omega)
            rw [if_pos (by rw [c1]; exact zI0), if_pos (by rw [c2]), if_pos cc, qb_J_evenHeap_73, c_Plan_weightOf (d + 27) (show 0 < 2 by decide) pp w1, qbI_some]
            simp only [zI_of]
            rw [zI_mul, zI_sub, show (0 : Int32) - zI (((wB (gS σ) (unU (gS σ)) 12 : Nat) : Int) - 2 * ((wB (gS σ) c 12 : Nat) : Int)) = zI (0 - (((wB (gS σ) (unU (gS σ)) 12 : Nat) : Int) - 2 * ((wB (gS σ) c 12 : Nat) : Int))) by rw [zI_0, zI_sub], e]
            by_cases c3 : apN (gS σ) c < l
            · rw [if_pos c3, if_neg (by rw [zI_le (by omega)]; omega), e105]
            · rw [if_neg c3, if_pos (by rw [zI_le (by omega)]; omega), e105]
          · rw [if_pos (by rw [c1]; exact zI0), if_neg (by rw [zI_eq (by omega)]; omega), if_neg (by unfold canB; rw [decide_eq_false c2, Bool.and_false]; decide), e105]
        · rw [if_neg (by rw [zI_0, zI_eq (by omega)]; omega), if_neg (by unfold canB; rw [decide_eq_false c1, Bool.false_and]; decide), e105]
      have L : ∀ r c o, c + r = unU (gS σ) + 1 → o < 4096 → canB (unU (gS σ)) o = true → qx (d + 28) qc_J_evenHeap 27 [some (qR (0, 0, 0)), some (qI (zI (wB (gS σ) (unU (gS σ)) 12 : Nat))), some (qI (zI (loB (unU (gS σ)) : Nat))), some (qI (zI (o : Nat))), some (qI (zI (apN (gS σ) o : Nat))), some (qI (zI (c : Nat))), none] [] μ1 = some (some (qI (zI (fol (apF (gS σ)) c r o : Nat))), μ1) := by
        intro r
        induction r with
        | zero =>
          intro c o hc h4 ho
          rw [qb_J_evenHeap_27, r5.2.1, if_pos (by rw [zI_lt (by omega)]; omega), qb_J_evenHeap_111]
          rfl
        | succ r ih =>
          intro c o hc h4 ho
          have i1 := ih (c + 1) (apF (gS σ) c o) (by omega) (stp1 c o (by omega) h4 ho).1 (stp1 c o (by omega) h4 ho).2
          obtain ⟨o1, o2, o3⟩ := cw o h4 ho
          by_cases ex : apN (gS σ) o ≤ wB (gS σ) (unU (gS σ)) 12 % 2
          · have hid : fol (apF (gS σ)) c (r + 1) o = o := by
              have : ∀ k x, fol (apF (gS σ)) x k o = o := fun k => by
                induction k with
                | zero => intro x; rfl
                | succ k ihk =>
                  intro x
                  rw [fol_s]
                  have e : apF (gS σ) x o = o := by
                    unfold apF
                    have p1 := ap_par (gS σ) x
                    have p2 := ap_par (gS σ) o
                    split
                    · rw [if_neg (by omega)]
                    · rfl
                  rw [e]
                  exact ihk (x + 1)
              exact this _ _
            rw [hid, qb_J_evenHeap_27, r5.2.1, if_neg (by rw [zI_lt (by omega)]; omega), if_neg (by decide), zI_of, zI_rem (by omega), show (((wB (gS σ) (unU (gS σ)) 12 : Nat) : Int) % 2) = ((wB (gS σ) (unU (gS σ)) 12 % 2 : Nat) : Int) by omega, if_pos (by rw [zI_le (by omega)]; omega), qb_J_evenHeap_111]
          · rw [step c o _ (by omega) (by omega) ex, fol_s]
            unfold apF at i1 ⊢
            by_cases c1 : canB (unU (gS σ)) c = true
            · rw [if_pos c1] at i1 ⊢
              rw [if_pos c1]
              by_cases c2 : apN (gS σ) c < apN (gS σ) o
              · rw [if_pos c2] at i1 ⊢
                rw [if_pos c2]
                exact i1
              · rw [if_neg c2] at i1 ⊢
                rw [if_neg c2]
                exact i1
            · rw [if_neg c1] at i1 ⊢
              rw [if_neg c1]
              exact i1
      have ev : qcall qprogs (d + 29) 139 [qR (0, 0, 0), qI (zI (wB (gS σ) (unU (gS σ)) 12 : Nat))] μ1 = some (some (qI (zI (apR (gS σ) : Nat))), μ1) := by
        have l0 := L (unU (gS σ) - loB (unU (gS σ))) (loB (unU (gS σ)) + 1) (loB (unU (gS σ))) (by omega) lo4 loc
        obtain ⟨o1, o2, o3⟩ := cw _ lo4 loc
        rw [qe_J_evenHeap, qb_J_evenHeap_0, r5.2.1, zI_lob U12]
        simp only [zI_of]
        rw [zI_add]
        refine (step (loB (unU (gS σ))) 0 (wB (gS σ) (unU (gS σ)) 12 + 1) lu (by omega) (by omega)).trans ?_
        rw [if_pos loc, if_pos (by omega), apR_is n12]
        exact l0
      refine ⟨μ1, ?_, ci.1, ci.2⟩
      have hs := (cw _ rb.1 rb.2)
      rw [e16, qb_J_alike_16, c_Affair_unused (d + 27) (show 0 < 11 by decide) h.1.1 ok.1, qbI_some, show mk (aX (gS σ)) (aN (gS σ)) = unU (gS σ) from rfl, r1, qbV_some, r5.2.1, c_Plan_weightOf (d + 28) (show 0 < 2 by decide) pp (fun c hc => hc), qbI_some, ev, qbI_some, zI_of]
      by_cases e : z1 = 0
      · have ea := ap_abs (s := gS σ) (S := apR (gS σ)) hs.2.1 (by omega)
        rw [if_neg (by rw [zI_eq (by omega)]; omega), if_pos e, qb_J_alike_64, c_Plan_weightOf (d + 28) (show 0 < 2 by decide) pp hs.1, qbI_some, qb_J_alike_79]
        simp only [zI_of]
        rw [zI_mul, zI_sub, show (0 : Int32) - zI (((wB (gS σ) (unU (gS σ)) 12 : Nat) : Int) - 2 * ((wB (gS σ) (apR (gS σ)) 12 : Nat) : Int)) = zI (0 - (((wB (gS σ) (unU (gS σ)) 12 : Nat) : Int) - 2 * ((wB (gS σ) (apR (gS σ)) 12 : Nat) : Int))) by rw [zI_0, zI_sub], ea]
      · rw [if_pos (by rw [zI_eq (by omega)]; omega), if_neg e, qb_J_alike_79]
    · have L : ∀ r c o, c + r = 2 ^ aN (gS σ) → o < 4096 → canB (unU (gS σ)) o = true → (o ≤ c ∨ o = loB (unU (gS σ))) → qx (d + 29) qc_M_alike 32 [some (qR (24, 0, 0)), some (qI (zI z1)), some (qI (zI (unU (gS σ) : Nat))), some (qI (zI (loB (unU (gS σ)) : Nat))), some (qI (zI (o : Nat))), some (qI (zI (c : Nat)))] [] μ = qx (d + 29) qc_M_alike 114 [some (qR (24, 0, 0)), some (qI (zI z1)), some (qI (zI (unU (gS σ) : Nat))), none, some (qI (zI (fol (apF (gS σ)) c r o : Nat))), none] [] μ := by
        intro r
        induction r with
        | zero =>
          intro c o hc h4 ho hle
          rw [qb_M_alike_32, h.1.cnt]
          simp only [zI_of, zI_31]
          rw [zI_bit (by omega), if_pos (by rw [zI_le (by omega)]; omega)]
          rfl
        | succ r ih =>
          intro c o hc h4 ho hle
          obtain ⟨o1, o2, o3⟩ := cw o h4 ho
          have i1 := ih (c + 1) (apF (gS σ) c o) (by omega) (stp1 c o (by omega) h4 ho).1 (stp1 c o (by omega) h4 ho).2 (by
            unfold apF
            split
            · split
              · left; omega
              · rcases hle with z | z
                · left; omega
                · right; exact z
            · rcases hle with z | z
              · left; omega
              · right; exact z)
          have e108 : ∀ x, qx (d + 29) qc_M_alike 108 [some (qR (24, 0, 0)), some (qI (zI z1)), some (qI (zI (unU (gS σ) : Nat))), some (qI (zI (loB (unU (gS σ)) : Nat))), some (qI (zI (x : Nat))), some (qI (zI (c : Nat)))] [] μ = qx (d + 29) qc_M_alike 32 [some (qR (24, 0, 0)), some (qI (zI z1)), some (qI (zI (unU (gS σ) : Nat))), some (qI (zI (loB (unU (gS σ)) : Nat))), some (qI (zI (x : Nat))), some (qI (zI ((c + 1 : Nat) : Int)))] [] μ := fun x => by
            rw [qb_M_alike_108, zI_of, zI_add]
            rfl
          have ndl := nd_le c (unU (gS σ))
          have andl : c &&& loB (unU (gS σ)) ≤ c := Nat.and_le_left
          rw [qb_M_alike_32, h.1.cnt]
          simp only [zI_of, zI_31]
          rw [zI_bit (by omega), if_neg (by rw [zI_le (by omega)]; omega), zI_nd, zI_and, fol_s]
          unfold apF at i1 ⊢
          by_cases c1 : nd c (unU (gS σ)) = 0
          · by_cases c2 : c &&& loB (unU (gS σ)) = loB (unU (gS σ))
            · have cc : canB (unU (gS σ)) c = true := by unfold canB; rw [decide_eq_true c1, decide_eq_true c2]; rfl
              obtain ⟨w1, w2, w3⟩ := cw c (by omega) cc
              have fl := (can_le (by omega) cc).2
              have a1 := c_M_apartBy (d + 27) h.1 ok.1 w1 (by omega)
              have a2 := c_M_apartBy (d + 27) h.1 ok.1 o1 h4
              rw [if_pos cc] at i1 ⊢
              rw [if_pos (by rw [c1]; exact zI0), if_pos (by rw [c2]), qb_M_alike_63, a1, qbI_some, a2, qbI_some]
              by_cases c3 : apN (gS σ) c < apN (gS σ) o
              · rw [if_pos c3] at i1 ⊢
                rw [if_pos (by rw [zI_lt (by omega)]; omega), qb_M_alike_104, e108]
                exact i1
              · rw [if_neg c3] at i1 ⊢
                rw [if_neg (by rw [zI_lt (by omega)]; omega), a1, qbI_some, a2, qbI_some]
                by_cases c4 : apN (gS σ) c = apN (gS σ) o
                · rw [if_pos (by rw [c4]), if_pos (by rw [zI_le (by omega)]; rcases hle with z | z <;> omega), e108]
                  exact i1
                · rw [if_neg (by rw [zI_eq (by omega)]; omega), e108]
                  exact i1
            · have cc : ¬ canB (unU (gS σ)) c = true := by unfold canB; rw [decide_eq_false c2, Bool.and_false]; decide
              rw [if_neg cc] at i1 ⊢
              rw [if_pos (by rw [c1]; exact zI0), if_neg (by rw [zI_eq (by omega)]; omega), e108]
              exact i1
          · have cc : ¬ canB (unU (gS σ)) c = true := by unfold canB; rw [decide_eq_false c1, Bool.false_and]; decide
            rw [if_neg cc] at i1 ⊢
            rw [if_neg (by rw [zI_0, zI_eq (by omega)]; omega), e108]
            exact i1
      have l0 := L (2 ^ aN (gS σ)) 0 (loB (unU (gS σ))) (by omega) lo4 loc (Or.inr rfl)
      refine ⟨μ, ?_, h, Fr.rf⟩
      have hs := (cw _ rb.1 rb.2)
      rw [qe_M_alike, qb_M_alike_0]
      simp only [zI_of]
      rw [c_M_isIn (d + 28) (by omega), qbI_some, show (decide ((0 : Int) ≤ z1) && decide (z1 ≤ 1)) = true by simp [hz], if_neg (by decide), qb_M_alike_16, c_M_unused (d + 28) h.1 ok.1, qbI_some, show mk (aX (gS σ)) (aN (gS σ)) = unU (gS σ) from rfl, zI_lob U12, zI_of]
      refine Eq.trans l0 ?_
      rw [show fol (apF (gS σ)) 0 (2 ^ aN (gS σ)) (loB (unU (gS σ))) = apR (gS σ) from rfl, qb_M_alike_114]
      by_cases e : z1 = 0
      · rw [if_pos (show zI z1 = 0 by rw [e]; exact zI0), if_pos e, c_M_apartBy (d + 27) h.1 ok.1 hs.1 rb.1, qbI_some, qb_M_alike_130]
      · rw [if_neg (show ¬ zI z1 = 0 by rw [zI_0, zI_eq (by omega)]; exact e), if_neg e, qb_M_alike_128, qb_M_alike_130]
  · refine ⟨qI (zI (-2)), refS σ 2, fun d μ h => ?_, fun d μ h => ?_, ok.ref⟩
    · rw [qe_J_alike, qb_J_alike_0]
      simp only [zI_of]
      rw [if_neg (by rw [zI_0, zI_eq (by omega)]; omega), if_neg (by rw [zI_eq (by omega)]; omega)]
      exact j_ref1 (d := d + 28) (f := -2) h (by decide)
    · rw [qe_M_alike, qb_M_alike_0]
      simp only [zI_of]
      rw [c_M_isIn (d + 28) (by omega), qbI_some, show (decide ((0 : Int) ≤ z1) && decide (z1 ≤ 1)) = false by rw [← Bool.decide_and]; exact decide_eq_false hz, if_pos (by decide)]
      exact m_ref1 (d := d + 28) (f := -2) h (by decide)
end
