/-! plans of one, of both -/
def isPls (a : QA) : Prop := 5 ≤ a.1 ∧ a.1 ≤ 12
theorem isPl.s {w : Nat} (a : QA) (h : isPl w a) : isPls a := ⟨h.1, h.2.1⟩
theorem RA.pls {μ μ' : QM} {j : Nat} {s : AS} (h : RA μ j s) (hF : Fr isPls μ μ') : RA μ' j s := h.fr hF fun a h1 h2 => by rcases h1.1 with e | e | e <;> have := h2.1 <;> omega
theorem PN.fr {P : QA → Prop} {p : Nat} {μ μ' : QM} (h : PN μ p) (f : Fr P μ μ') (hP : ∀ c, ¬ P (6, p, c)) : PN μ' p := h.congr fun c => by rw [f.1 _ (hP c)]
theorem PN.pl {p w : Nat} {μ μ' : QM} (h : PN μ p) (f : Fr (isPl w) μ μ') (hw : w ≠ p) : PN μ' p := h.fr f fun c z => hw z.2.2.symm
theorem c_J_planOf (d : Nat) {w : Nat} {μ : QM} (hw : w < 2) : qcall qprogs (d + 1) 128 [qR (0, 0, 0), qI (zI (w : Nat))] μ = some (some (qR (5, w, 0)), μ) := by
  rw [qe_J_planOf, qb_J_planOf_0]
  rcases (by omega : w = 0 ∨ w = 1) with rfl | rfl
  · rw [if_pos (by decide), qb_J_planOf_15]
  · rw [if_neg (by decide), qb_J_planOf_11, qb_J_planOf_15]
theorem c_J_preparedOn (d : Nat) {j w wd n : Nat} {s : AS} {μ : QM} (hj : j < 11) (h : RA μ j s) (ok : aOK s) (hw : w < 2) (hwd : wd ≤ 6) (hn : aD s ≤ n) (hn2 : n ≤ 83) (hN : PN μ w) :
    ∃ μ' Q, qcall qprogs (d + 4) 130 [qR (0, 0, 0), qR (2, j, 0), qI (zI (w : Nat)), qI (zI (wd : Nat)), qI (zI (n : Nat))] μ = some (some (qR (5, w, 0)), μ') ∧ Fr (isPl w) μ μ' ∧ PP μ' w s (nM s w wd n) (nD s w wd) (unS s w) Q := by
  obtain ⟨μ1, r1, r2, r3, r4⟩ := c_Plan_takeNeeded (d + 1) hw hj h ok hw hwd hn hn2 hN
  have h1 := h.pl r2
  obtain ⟨μ2, Q, q1, q2, q3, q4, q5, q6, q7⟩ := c_Plan_takeCauses d hw hj h1 ok (unS_lt (w := w) ok.2.1) (fun c hc => unS_n hc) r3 r4
  refine ⟨μ2, Q, ?_, r2.tr q2, q3, q4, q5, q6, q7⟩
  rw [qe_J_preparedOn (h0 := qd2 hj), qb_J_preparedOn_0, c_J_planOf (d + 2) hw, qbR_some (qd5 hw), r1, qbV_some, c_Affair_unusedFor (d + 2) hj h1 ok hw, qbI_some]
  rw [show mk (fun c => aX s c && decide (aC s c 2 = w)) (aN s) = unS s w from rfl, q1, qbV_some]
theorem c_J_prepared (d : Nat) {j w n : Nat} {s : AS} {μ : QM} (hj : j < 11) (h : RA μ j s) (ok : aOK s) (hw : w < 2) (hn : aD s ≤ n) (hn2 : n ≤ 83) (hN : PN μ w) :
    ∃ μ' Q, qcall qprogs (d + 5) 129 [qR (0, 0, 0), qR (2, j, 0), qI (zI (w : Nat)), qI (zI (n : Nat))] μ = some (some (qR (5, w, 0)), μ') ∧ Fr (isPl w) μ μ' ∧ PP μ' w s (nM s w (aP s w 0) n) (nD s w (aP s w 0)) (unS s w) Q := by
  obtain ⟨μ1, Q, r1, r2, r3⟩ := c_J_preparedOn d hj h ok hw (ok.p hw).1 hn hn2 hN
  refine ⟨μ1, Q, ?_, r2, r3⟩
  rw [qe_J_prepared (h0 := qd2 hj), qb_J_prepared_0, c_Affair_person (d + 3) hj hw, qbR_some (qd3 hj hw), h.p 0 hw, r1, qbR_some (qd5 hw)]
/-- what is laid out at most: by weekday -/
def lV (s : AS) (w wd n : Nat) : Nat := vW s (nM s w wd n) (nD s w wd) (nM s w wd n) (unS s w)
/-- the causes that the search keeps -/
def kO (s : AS) (m : Nat) (D : Nat → Nat) (S : Nat) (Q : List Nat) : Nat := (bO s m D Q S (2 ^ m - 1)).2
theorem nM_le {s : AS} (ok : aOK s) {w wd n : Nat} (hn2 : n ≤ 83) : nM s w wd n ≤ 12 := by
  unfold nM; omega
theorem lV_le {s : AS} (ok : aOK s) {w wd n : Nat} (hn2 : n ≤ 83) : lV s w wd n ≤ 12348 := vW_le ok (nM_le ok hn2)
theorem c_J_valueOfBoth (d : Nat) {j n : Nat} {s : AS} {μ : QM} (hj : j < 11) (h : RA μ j s) (ok : aOK s) (hn : aD s ≤ n) (hn2 : n ≤ 83) (hN : PN μ 0) (hN1 : PN μ 1) :
    ∃ μ' Q0 Q1, qcall qprogs (d + 17) 131 [qR (0, 0, 0), qR (2, j, 0), qI (zI (n : Nat))] μ = some (some (qI (zI ((lV s 0 (aP s 0 0) n + lV s 1 (aP s 1 0) n : Nat) : Int))), μ') ∧ Fr isPls μ μ' ∧
      PP μ' 0 s (nM s 0 (aP s 0 0) n) (nD s 0 (aP s 0 0)) (unS s 0) Q0 ∧ PP μ' 1 s (nM s 1 (aP s 1 0) n) (nD s 1 (aP s 1 0)) (unS s 1) Q1 ∧
      μ'.1 (5, 0, 0) 8 = zI (kO s (nM s 0 (aP s 0 0) n) (nD s 0 (aP s 0 0)) (unS s 0) Q0 : Nat) ∧ μ'.1 (5, 1, 0) 8 = zI (kO s (nM s 1 (aP s 1 0) n) (nD s 1 (aP s 1 0)) (unS s 1) Q1 : Nat) := by
  obtain ⟨μ1, Q0, r1, r2, r3⟩ := c_J_prepared (d + 11) hj h ok (show 0 < 2 by decide) hn hn2 hN
  obtain ⟨μ2, a1, a2, a3⟩ := c_Plan_value d (show 0 < 2 by decide) r3 (fun c hc => unS_n hc)
  have h2 := (h.pl r2).pl a2.pl
  obtain ⟨μ3, Q1, r1', r2', r3'⟩ := c_J_prepared (d + 11) hj h2 ok (show 1 < 2 by decide) hn hn2 ((hN1.pl r2 (by decide)).pl a2.pl (by decide))
  obtain ⟨μ4, a1', a2', a3'⟩ := c_Plan_value d (show 1 < 2 by decide) r3' (fun c hc => unS_n hc)
  have f34 := r2'.tr a2'.pl
  have no1 : ∀ a, isPl 0 a → ¬ isPl 1 a := fun a z1 z2 => by have := z1.2.2; have := z2.2.2; omega
  refine ⟨μ4, Q0, Q1, ?_, ((r2.tr a2.pl).mono isPl.s).tr (f34.mono isPl.s), (r3.b a2).fr f34 no1, r3'.b a2', ?_, a3'⟩
  · rw [qe_J_valueOfBoth (h0 := qd2 hj), qb_J_valueOfBoth_0, zI_of, zI_of, show zI (0 : Int) = zI ((0 : Nat) : Int) from rfl, show zI (1 : Int) = zI ((1 : Nat) : Int) from rfl, r1, qbR_some (qd5 (by decide)), a1, qbI_some, r1', qbR_some (qd5 (by decide)), a1', qbI_some, zI_add]
    rfl
  · rw [f34.1 _ (no1 _ (isPl_of (by decide))), a3]
    rfl
/-- what is settled for a weekday -/
def stl (s : AS) (w wd n : Nat) : Int := (lV s w wd n % 1000 : Nat) - 3 * ((nM s w wd n : Int) - (lV s w wd n / 1000 : Nat))
theorem stl_b {s : AS} (ok : aOK s) {w wd n : Nat} (hn2 : n ≤ 83) : -100 ≤ stl s w wd n ∧ stl s w wd n ≤ 2000 := by
  have h1 := lV_le ok (w := w) (wd := wd) hn2
  have h2 := nM_le ok (w := w) (wd := wd) hn2
  unfold stl
  omega
theorem q_ret2 {a b : Int32} {μ : QM} (h : a = b) : (some (some (qI a), μ) : QR) = some (some (qI b), μ) := by rw [h]
theorem c_J_settledOn (d : Nat) {w wd n : Nat} {s : AS} {μ : QM} (h : RA μ 0 s) (ok : aOK s) (hw : w < 2) (hwd : wd ≤ 6) (hn : aD s ≤ n) (hn2 : n ≤ 83) (hN : PN μ w) :
    ∃ μ' Q, qcall qprogs (d + 17) 132 [qR (0, 0, 0), qI (zI (w : Nat)), qI (zI (wd : Nat)), qI (zI (n : Nat))] μ = some (some (qI (zI (stl s w wd n))), μ') ∧ Fr (isPl w) μ μ' ∧ PP μ' w s (nM s w wd n) (nD s w wd) (unS s w) Q := by
  obtain ⟨μ1, Q, r1, r2, r3⟩ := c_J_preparedOn (d + 12) (show 0 < 11 by decide) h ok hw hwd hn hn2 hN
  obtain ⟨μ2, a1, a2, a3⟩ := c_Plan_value d hw r3 (fun c hc => unS_n hc)
  refine ⟨μ2, Q, ?_, r2.tr a2.pl, r3.b a2⟩
  have hv := lV_le ok (w := w) (wd := wd) hn2
  have hm := nM_le ok (w := w) (wd := wd) hn2
  rw [qe_J_settledOn, qb_J_settledOn_0, r1, qbR_some (qd5 hw), a1, qbI_some, (r3.b a2).1.2.1, if_neg (by decide), if_neg (by decide)]
  rw [show vW s (nM s w wd n) (nD s w wd) (nM s w wd n) (unS s w) = lV s w wd n from rfl]
  refine q_ret2 ?_
  simp only [zI_of]
  rw [zI_rem (by omega), zI_tdiv (by omega), zI_sub, zI_mul, zI_sub]
  refine zI_congr ?_
  unfold stl
  omega
theorem c_J_valueOfBothWithout (d : Nat) {b m0 m1 S0 S1 : Nat} {D0 D1 : Nat → Nat} {Q0 Q1 : List Nat} {s : AS} {μ : QM} (h0 : PP μ 0 s m0 D0 S0 Q0) (h1 : PP μ 1 s m1 D1 S1 Q1) (hn0 : ∀ c, S0.testBit c = true → c < aN s) (hn1 : ∀ c, S1.testBit c = true → c < aN s) :
    ∃ μ', qcall qprogs (d + 17) 136 [qR (0, 0, 0), qI (zI (b : Nat))] μ = some (some (qI (zI ((vW s m0 D0 m0 (nd S0 b) + vW s m1 D1 m1 (nd S1 b) : Nat) : Int))), μ') ∧ Fr isPls μ μ' ∧ PP μ' 0 s m0 D0 S0 Q0 ∧ PP μ' 1 s m1 D1 S1 Q1 := by
  obtain ⟨μ1, r1, r2⟩ := c_Plan_valueWithout d (b := b) (show 0 < 2 by decide) h0 hn0
  have no : ∀ a, isPl 1 a → ¬ isPl 0 a := fun a z1 z2 => by have := z1.2.2; have := z2.2.2; omega
  have no1 : ∀ a, isPl 0 a → ¬ isPl 1 a := fun a z1 z2 => by have := z1.2.2; have := z2.2.2; omega
  have h1' := h1.fr r2.pl no
  obtain ⟨μ2, q1, q2⟩ := c_Plan_valueWithout d (b := b) (show 1 < 2 by decide) h1' hn1
  refine ⟨μ2, ?_, (r2.pl.mono isPl.s).tr (q2.pl.mono isPl.s), (h0.b r2).fr q2.pl no1, h1'.b q2⟩
  rw [qe_J_valueOfBothWithout, qb_J_valueOfBothWithout_0, r1, qbI_some, q1, qbI_some, zI_add]
  rfl
