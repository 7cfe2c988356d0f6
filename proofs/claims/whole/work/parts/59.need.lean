section
/-! what is needed not to owe more -/
def Sk (s s' : AS) : Prop := aD s' = aD s ∧ aN s' = aN s ∧ aC s' = aC s ∧ ∀ w, w < 2 → aP s' w 0 = aP s w 0 ∧ aP s' w 4 = aP s w 4
theorem Sk.eT {s s' : AS} (h : Sk s s') : aT s' = aT s := by funext c; unfold aT aK; rw [h.2.2.1]
theorem Sk.eF {s s' : AS} (h : Sk s s') (c d : Nat) : aF s' c d = aF s c d := by unfold aF; rw [h.eT, h.2.2.1]
theorem Sk.eW {s s' : AS} (h : Sk s s') (c : Nat) : aW s' c = aW s c := by unfold aW; rw [h.2.2.1]
theorem Sk.eDue {s s' : AS} (h : Sk s s') {w : Nat} (hw : w < 2) : due s' w = due s w := by
  unfold due
  rw [h.1, (h.2.2.2 w hw).1, (h.2.2.2 w hw).2]
theorem Sk.hnd {s s' : AS} (h : Sk s s') (w d : Nat) (tk : Nat → Bool) : ∀ n, hndF s' w d tk n = hndF s w d tk n
  | 0 => rfl
  | n + 1 => by
    unfold hndF
    rw [h.hnd w d tk n, h.eT, h.eF]
    unfold aX
    rw [h.2.2.1]
theorem Sk.eAt {s s' : AS} (h : Sk s s') {w : Nat} (hw : w < 2) : atH s' w = atH s w := by
  unfold atH
  rw [h.eDue hw, h.hnd, h.1, h.2.1]
theorem useC_p (s : AS) (c w k : Nat) (h2 : aC s c 2 < 2) : aP (useC s c) w k = if w = aC s c 2 ∧ k = 4 then 1 else if w = aC s c 2 ∧ k = 1 then aP s w 1 + paidS s c else if w = 1 - aC s c 2 ∧ k = 3 then aP s w 3 + (aW s c - paidS s c) else if w = 1 - aC s c 2 ∧ k = 1 then aP s w 1 - paidS s c else aP s w k := by
  unfold useC
  rw [aP_setC, aP_setP, aP_setP, aP_setP, aP_setP]
  by_cases e1 : w = aC s c 2 ∧ k = 4
  · rw [if_pos e1, if_pos e1]
  · rw [if_neg e1, if_neg e1]
    by_cases e2 : w = aC s c 2 ∧ k = 1
    · rw [if_pos e2, if_pos e2, e2.1]
    · rw [if_neg e2, if_neg e2]
      by_cases e3 : w = 1 - aC s c 2 ∧ k = 3
      · rw [if_pos e3, if_pos e3, e3.1]
      · rw [if_neg e3, if_neg e3]
        by_cases e4 : w = 1 - aC s c 2 ∧ k = 1
        · rw [if_pos e4, if_pos e4, e4.1]
        · rw [if_neg e4, if_neg e4]
theorem Sk.use {s s' : AS} (h : Sk s s') {c : Nat} (h2 : aC s c 2 < 2) : Sk (useC s c) (useC s' c) := by
  refine ⟨h.1, h.2.1, ?_, fun w hw => ?_⟩
  · show (fun c' k' => if c' = c ∧ k' = 4 then 1 else aC s' c' k') = fun c' k' => if c' = c ∧ k' = 4 then 1 else aC s c' k'
    rw [h.2.2.1]
  · have e2 : aC s' c 2 = aC s c 2 := by rw [h.2.2.1]
    rw [useC_p s' c w 0 (by rw [e2]; exact h2), useC_p s' c w 4 (by rw [e2]; exact h2), useC_p s c w 0 h2, useC_p s c w 4 h2, e2]
    simp only [(h.2.2.2 w hw).1, (h.2.2.2 w hw).2, show ¬ (0 = 4) by decide, show ¬ (0 = 1) by decide, show ¬ (0 = 3) by decide, show ¬ (4 = 1) by decide, show ¬ (4 = 3) by decide, and_false, if_false]
    exact ⟨trivial, trivial⟩
theorem Sk.liv {s s' : AS} (h : Sk s s') (ok : aOK s) {w : Nat} (hw : w < 2) : Sk (livS s w) (livS s' w) := by
  unfold livS
  rw [h.eAt hw]
  cases hq : atH s w with
  | none => exact h
  | some c =>
    have := (ok.c (atH_lt hq).1).2.2.1
    exact h.use (by omega)
theorem Sk.enD {s s' : AS} (h : Sk s s') : Sk (endD s) (endD s') := by
  refine ⟨by rw [aD_endD, aD_endD, h.1], by rw [aN_endD, aN_endD, h.2.1], by rw [aC_endD, aC_endD, h.2.2.1], fun w hw => ?_⟩
  rw [endD_p s' w 0 hw, endD_p s' w 4 hw, endD_p s w 0 hw, endD_p s w 4 hw, h.eDue hw]
  simp only [(h.2.2.2 w hw).1, show ¬ (0 = 4) by decide, show ¬ (0 = 1) by decide, show ¬ (0 = 2) by decide, if_false, if_true]
  exact ⟨trivial, trivial⟩
theorem Sk.day {s s' : AS} (h : Sk s s') (ok : aOK s) : Sk (dayS s) (dayS s') := ((h.liv ok (by decide)).liv (livS_ok ok 0) (by decide)).enD
abbrev ST : Type := Nat × Nat × Bool
def useL (s : AS) (w : Nat) : List ST := match atH s w with
  | none => []
  | some c => [(1 - w, aW s c, false)]
def finL (s : AS) (w : Nat) : List ST := if due s w = true then [(w, 3, true)] else []
def dayL (s : AS) : List ST := useL s 0 ++ (useL (livS s 0) 1 ++ (finL (livS (livS s 0) 1) 0 ++ finL (livS (livS s 0) 1) 1))
def runL (s : AS) : Nat → List ST
  | 0 => []
  | k + 1 => dayL s ++ runL (dayS s) k
def cov (w : Nat) : List ST → Nat → Nat → Bool
  | [], _, _ => true
  | (p, v, true) :: r, m, t => if p = w then cov w r (m - min v m) t else cov w r m (t - min v t)
  | (p, v, false) :: r, m, t => if p = w then (if min v (min m (999 - t)) < v then false else cov w r (m - min v (min m (999 - t))) (t + min v (min m (999 - t)))) else cov w r (m + min v (min t (999 - m))) (t - min v (min t (999 - m)))
/-- covered, for what is owed at last -/
def HC (w T : Nat) (s' : AS) (R : List ST) : Prop := cov w R (aP s' w 1) (aP s' (1 - w) 1) = decide (T = aP s' w 3) ∧ aP s' w 3 ≤ T
theorem HC.use {w T v : Nat} {s s' : AS} {R : List ST} (h : HC w T (livS s' v) R) (hS : Sk s s') (ok : aOK s') (hw : w < 2) (hv : v < 2) : HC w T s' (useL s v ++ R) := by
  have hq' := hS.eAt hv
  unfold useL
  cases hq : atH s v with
  | none =>
    rw [hq] at hq'
    unfold livS at h
    rw [hq'] at h
    exact h
  | some c =>
    rw [hq] at hq'
    unfold livS at h
    rw [hq'] at h
    obtain ⟨hc, h2, -⟩ := atH_lt hq'
    obtain ⟨h3, h4⟩ := h
    dsimp only at h3 h4
    have eW : aW s c = aW s' c := (hS.eW c).symm
    have pS : paidS s' c = min (aW s' c) (min (aP s' (1 - v) 1) (999 - aP s' v 1)) := by unfold paidS; rw [h2]
    have up : ∀ x k, aP (useC s' c) x k = _ := fun x k => useC_p s' c x k (by rw [h2]; exact hv)
    rw [h2] at up
    show HC w T s' ((1 - v, aW s c, false) :: R)
    rw [eW]
    have e3 := up w 3
    have e1 := up w 1
    have e1' := up (1 - w) 1
    have pl : paidS s' c ≤ aW s' c := by rw [pS]; omega
    have pl2 : paidS s' c ≤ aP s' (1 - v) 1 := by rw [pS]; omega
    by_cases q : w = 1 - v
    · have q2 : 1 - w = v := by omega
      have q3 : ¬ w = v := by omega
      rw [if_neg (by omega), if_neg (by omega), if_pos ⟨q, rfl⟩] at e3
      rw [if_neg (by omega), if_neg (by omega), if_neg (by omega), if_pos ⟨q, rfl⟩] at e1
      rw [q2, if_neg (by omega), if_pos ⟨rfl, rfl⟩] at e1'
      rw [e3] at h3 h4
      rw [e1, q2, e1'] at h3
      unfold HC
      show (if 1 - v = w then (if min (aW s' c) (min (aP s' w 1) (999 - aP s' (1 - w) 1)) < aW s' c then false else cov w R (aP s' w 1 - min (aW s' c) (min (aP s' w 1) (999 - aP s' (1 - w) 1))) (aP s' (1 - w) 1 + min (aW s' c) (min (aP s' w 1) (999 - aP s' (1 - w) 1)))) else _) = _ ∧ _
      rw [if_pos q.symm, q2]
      have pS2 : paidS s' c = min (aW s' c) (min (aP s' w 1) (999 - aP s' v 1)) := by rw [pS, ← q]
      rw [← pS2]
      by_cases lt : paidS s' c < aW s' c
      · rw [if_pos lt]
        exact ⟨(decide_eq_false (by omega)).symm, by omega⟩
      · rw [if_neg lt, h3]
        have : aW s' c - paidS s' c = 0 := by omega
        rw [this, Nat.add_zero] at h4 ⊢
        exact ⟨rfl, h4⟩
    · have q1 : w = v := by omega
      subst q1
      rw [if_neg (by omega), if_neg (by omega), if_neg (by omega), if_neg (by omega)] at e3
      rw [if_neg (by omega), if_pos ⟨rfl, rfl⟩] at e1
      rw [if_neg (by omega), if_neg (by omega), if_neg (by omega), if_pos ⟨rfl, rfl⟩] at e1'
      rw [e3] at h3 h4
      rw [e1, e1'] at h3
      unfold HC
      show (if 1 - w = w then _ else cov w R (aP s' w 1 + min (aW s' c) (min (aP s' (1 - w) 1) (999 - aP s' w 1))) (aP s' (1 - w) 1 - min (aW s' c) (min (aP s' (1 - w) 1) (999 - aP s' w 1)))) = _ ∧ _
      rw [if_neg (by omega), ← pS]
      exact ⟨h3, h4⟩
theorem HC.fin {w T v : Nat} {s' : AS} {R : List ST} (b : Bool) (h : HC w T (endP s' v) R) (hb : due s' v = b) (hw : w < 2) (hv : v < 2) : HC w T s' ((if b = true then [(v, 3, true)] else []) ++ R) := by
  have e : ∀ x k, aP (endP s' v) x k = _ := fun x k => endP_p s' v x k
  obtain ⟨h3, h4⟩ := h
  have o3 : aP (endP s' v) w 3 = aP s' w 3 := by
    rw [e]
    by_cases q : w = v
    · subst q; rw [if_pos rfl, if_neg (by decide)]; split <;> rfl
    · rw [if_neg q]
  rw [o3] at h3 h4
  refine ⟨?_, h4⟩
  rw [← h3, e w 1, e (1 - w) 1, hb]
  cases b
  · show cov w R _ _ = _
    by_cases q : w = v
    · subst q; rw [if_pos rfl, if_neg (show ¬ 1 = 4 by decide), if_neg (show ¬ false = true by decide), if_neg (show ¬ 1 - w = w by omega)]
    · rw [if_neg q]
      by_cases q2 : 1 - w = v
      · rw [if_pos q2, if_neg (show ¬ 1 = 4 by decide), if_neg (show ¬ false = true by decide), q2]
      · rw [if_neg q2]
  · show (if v = w then cov w R (aP s' w 1 - min 3 (aP s' w 1)) (aP s' (1 - w) 1) else cov w R (aP s' w 1) (aP s' (1 - w) 1 - min 3 (aP s' (1 - w) 1))) = _
    by_cases q : w = v
    · subst q
      rw [if_pos rfl, if_pos rfl, if_neg (show ¬ 1 = 4 by decide), if_pos rfl, if_pos rfl, if_neg (show ¬ 1 - w = w by omega)]
    · rw [if_neg (fun z => q z.symm), if_neg q]
      have q2 : 1 - w = v := by omega
      rw [if_pos q2, if_neg (show ¬ 1 = 4 by decide), if_pos rfl, if_pos rfl, q2]
theorem HC.run {w T : Nat} (hw : w < 2) : ∀ (k : Nat) {s s' : AS}, Sk s s' → aOK s → aOK s' → aD s + k ≤ 83 → T = aP (toS s' k) w 3 → HC w T s' (runL s k)
  | 0, s, s', _, _, _, _, hT => by
    have e : T = aP s' w 3 := hT
    exact ⟨(decide_eq_true e).symm, by rw [e]; exact Nat.le_refl _⟩
  | k + 1, s, s', hS, ok, ok', hd, hT => by
    have i1 : HC w T (dayS s') (runL (dayS s) k) := HC.run hw k (hS.day ok) (dayS_ok ok (by omega)) (dayS_ok ok' (by rw [hS.1]; omega)) (by rw [dayS_D]; omega) hT
    have S1 := hS.liv ok (w := 0) (by decide)
    have o1 := livS_ok ok' 0
    have S2 := S1.liv (livS_ok ok 0) (w := 1) (by decide)
    have i2 : HC w T (endP (endP (livS (livS s' 0) 1) 0) 1) (runL (dayS s) k) := i1
    have i3 := i2.fin (due (livS (livS s 0) 1) 1) (by rw [due_endP, S2.eDue (by decide)]) hw (by decide)
    have i4 := i3.fin (due (livS (livS s 0) 1) 0) (S2.eDue (by decide)) hw (by decide)
    have i5 := i4.use (v := 1) S1 o1 hw (by decide)
    have i6 := i5.use (v := 0) hS ok' hw (by decide)
    show HC w T s' (dayL s ++ runL (dayS s) k)
    unfold dayL finL
    rw [List.append_assoc, List.append_assoc, List.append_assoc]
    exact i6
/-- what the class notes of a course -/
def gST (L : List ST) (i : Nat) : ST := L.getD i (0, 0, false)
def PS (μ : QM) (L : List ST) : Prop := μ.1 (13, 0, 0) 3 = zI (L.length : Nat) ∧ ∀ i, i < L.length → μ.1 (14, 0, 0) i = zI ((gST L i).1 : Nat) ∧ μ.1 (15, 0, 0) i = zI ((gST L i).2.1 : Nat) ∧ μ.1 (16, 0, 0) i = qB (gST L i).2.2
def isCo (a : QA) : Prop := 13 ≤ a.1 ∧ a.1 ≤ 16
theorem gST_l {A : List ST} {x : ST} {i : Nat} (h : i < A.length) : gST (A ++ [x]) i = gST A i := by
  unfold gST
  rw [List.getD_eq_getElem?_getD, List.getD_eq_getElem?_getD, List.getElem?_append_left h]
theorem gST_m {A B : List ST} {x : ST} : gST (A ++ x :: B) A.length = x := by
  unfold gST
  rw [List.getD_eq_getElem?_getD, List.getElem?_append_right (Nat.le_refl _), Nat.sub_self]
  rfl
theorem c_Course_note (d : Nat) {L : List ST} {p v : Nat} {b : Bool} {μ : QM} (h : PS μ L) (hL : L.length < 26) :
    ∃ μ', qcall qprogs (d + 1) 55 [qR (13, 0, 0), qI (zI (p : Nat)), qI (zI (v : Nat)), qI (qB b)] μ = some (none, μ') ∧ PS μ' (L ++ [(p, v, b)]) ∧ Fr isCo μ μ' := by
  obtain ⟨h1, h2⟩ := h
  refine ⟨qsi (qsi (qsi (qsi μ (14, 0, 0) L.length (zI (p : Nat))) (15, 0, 0) L.length (zI (v : Nat))) (16, 0, 0) L.length (qB b)) (13, 0, 0) 3 (zI ((L.length + 1 : Nat) : Int)), ?_, ⟨?_, fun i hi => ?_⟩, ?_⟩
  · rw [qe_Course_note, qb_Course_note_0]
    simp only [qsi_ne (show ((13, 0, 0) : QA) ≠ (14, 0, 0) by decide), qsi_ne (show ((13, 0, 0) : QA) ≠ (15, 0, 0) by decide), qsi_ne (show ((13, 0, 0) : QA) ≠ (16, 0, 0) by decide), h1, zI_of, zI_add]
    rw [if_neg (by rw [zI_0, zI_lt (by omega)]; omega), if_neg (by rw [zI_le (by omega)]; omega), zI_oob (n := 26) (by omega), cond_false, cond_false, if_pos ⟨by decide, qB_01 b⟩, cond_false, show qix (zI (L.length : Nat)) = L.length from zI_ixN (by omega), qb_Course_note_56]
    rfl
  · rw [List.length_append]
    exact qsi_self _ _ _ _
  · rw [List.length_append] at hi
    have hi : i < L.length + 1 := hi
    by_cases e : i = L.length
    · subst e
      rw [gST_m]
      exact ⟨by rw [qsi_ne (by simp), qsi_ne (by simp), qsi_ne (by simp), qsi_self], by rw [qsi_ne (by simp), qsi_ne (by simp), qsi_self], by rw [qsi_ne (by simp), qsi_self]⟩
    · rw [gST_l (by omega)]
      obtain ⟨g1, g2, g3⟩ := h2 i (by omega)
      refine ⟨?_, ?_, ?_⟩
      · rw [qsi_ne (by simp), qsi_ne (by simp), qsi_ne (by simp), qsi_get, if_neg (fun z => e z.2)]; exact g1
      · rw [qsi_ne (by simp), qsi_ne (by simp), qsi_get, if_neg (fun z => e z.2), qsi_ne (by simp)]; exact g2
      · rw [qsi_ne (by simp), qsi_get, if_neg (fun z => e z.2), qsi_ne (by simp), qsi_ne (by simp)]; exact g3
  · exact (((Fr.si (show isCo (14, 0, 0) by unfold isCo; decide)).si' (show isCo (15, 0, 0) by unfold isCo; decide)).si' (show isCo (16, 0, 0) by unfold isCo; decide)).si' (show isCo (13, 0, 0) by unfold isCo; decide)
theorem isCo_A {j : Nat} (a : QA) (h : isA j a) : ¬ isCo a := fun z => by have := z.1; rcases h.1 with e | e | e <;> omega
theorem PS.fr {μ μ' : QM} {j : Nat} {L : List ST} (h : PS μ L) (f : Fr (isA j) μ μ') : PS μ' L := by
  unfold PS
  rw [f.1 _ (isA_no (t := 13) (Or.inr (by decide))), f.1 _ (isA_no (t := 14) (Or.inr (by decide))), f.1 _ (isA_no (t := 15) (Or.inr (by decide))), f.1 _ (isA_no (t := 16) (Or.inr (by decide)))]
  exact h
def isCn (a : QA) : Prop := isA 1 a ∨ isCo a
theorem CI.cn {μ μ' : QM} {σ : GS} (h : CI μ σ) (f : Fr isCn μ μ') : CI μ' σ ∧ Fr isCl μ μ' := by
  have fx : Fr isX μ μ' := f.mono fun a ha => by
    rcases ha with q | q
    · exact Or.inr (Or.inl q)
    · exact Or.inr (Or.inr (Or.inl q))
  refine ⟨⟨h.1.x fx, h.2.fr f fun t p c h1 h2 z => ?_⟩, fx.mono isX.cl⟩
  rcases z with z | z
  · exact isA_no (Or.inr (by omega)) z
  · have := z.1; dsimp only at this; omega
theorem c_Course_followUse (d : Nat) {w : Nat} {L : List ST} {s : AS} {μ : QM} (hA : RA μ 1 s) (ok : aOK s) (hP : PS μ L) (hw : w < 2) (hL : L.length + (useL s w).length ≤ 26) :
    ∃ μ', qcall qprogs (d + 4) 53 [qR (13, 0, 0), qR (2, 1, 0), qI (zI (w : Nat))] μ = some (none, μ') ∧ Fr isCn μ μ' ∧ RA μ' 1 (livS s w) ∧ PS μ' (L ++ useL s w) := by
  have n12 := ok.2.1
  rw [qe_Course_followUse (h0 := qd2 (by decide)), qb_Course_followUse_0, c_Affair_atHand (d + 1) (show 1 < 11 by decide) hA ok hw, qbI_some]
  unfold useL at hL ⊢
  unfold livS
  cases hq : atH s w with
  | none =>
    rw [c_Affair_causeAtN (d + 2) (show 1 < 11 by decide) hA ok (Or.inl (by decide +kernel)), qbN_none, qb_Course_followUse_33]
    exact ⟨μ, rfl, Fr.rf, hA, by rw [List.append_nil]; exact hP⟩
  | some c =>
    rw [hq] at hL
    obtain ⟨hc, h2, -⟩ := atH_lt hq
    obtain ⟨μ1, r1, r2, r3⟩ := c_Course_note (d + 2) (p := 1 - w) (v := aW s c) (b := false) hP (by simp at hL; omega)
    have hA1 : RA μ1 1 s := hA.fr r3 isCo_A
    obtain ⟨μ2, q1, q2, q3⟩ := c_Affair_spend (d + 1) (show 1 < 11 by decide) hA1 ok hc
    refine ⟨μ2, ?_, (r3.mono fun a ha => Or.inr ha).tr (q2.mono fun a ha => Or.inl ha), q3, r2.fr q2⟩
    rw [show onI (some c) = (c : Nat) from rfl, c_Affair_causeAt (d + 2) (show 1 < 11 by decide) hA ok hc, qbN_some (qd1 (by decide) (by omega)), c_J_otherThan (d + 2) hw, qbI_some, hA.w hc, zI_of]
    rw [show qcall qprogs (d + 3) 55 [qR (13, 0, 0), qI (zI ((1 - w : Nat) : Int)), qI (zI (aW s c : Nat)), qI (zI 0)] μ = some (none, μ1) from r1, qbV_some, q1, qbI_some, qb_Course_followUse_33]
theorem c_Course_followEnd (d : Nat) {w : Nat} {L : List ST} {s : AS} {μ : QM} (hA : RA μ 1 s) (ok : aOK s) (hP : PS μ L) (hw : w < 2) (hL : L.length + (finL s w).length ≤ 26) :
    ∃ μ', qcall qprogs (d + 3) 54 [qR (13, 0, 0), qR (2, 1, 0), qI (zI (w : Nat))] μ = some (none, μ') ∧ Fr isCn μ μ' ∧ RA μ' 1 s ∧ PS μ' (L ++ finL s w) := by
  rw [qe_Course_followEnd (h0 := qd2 (by decide)), qb_Course_followEnd_0, c_Affair_person (d + 1) (show 1 < 11 by decide) hw, qbR_some (qd3 (by decide) hw), hA.day, c_Person_isDueOn (d + 1) (show 1 < 11 by decide) hA ok hw, qbI_some, qB_if]
  unfold finL at hL ⊢
  cases hq : due s w
  · rw [cond_false, qb_Course_followEnd_22]
    exact ⟨μ, rfl, Fr.rf, hA, by rw [if_neg (by decide), List.append_nil]; exact hP⟩
  · rw [hq] at hL
    obtain ⟨μ1, r1, r2, r3⟩ := c_Course_note (d + 1) (p := w) (v := 3) (b := true) hP (by simp at hL; omega)
    refine ⟨μ1, ?_, r3.mono fun a ha => Or.inr ha, hA.fr r3 isCo_A, r2⟩
    rw [cond_true]
    simp only [zI_of]
    rw [show qcall qprogs (d + 2) 55 [qR (13, 0, 0), qI (zI (w : Nat)), qI (zI 3), qI (zI 1)] μ = some (none, μ1) from r1, qbV_some, qb_Course_followEnd_22]
/-- at most one step a day of his weekday -/
theorem dayL_len {s : AS} (ok : aOK s) : (dayL s).length ≤ (if aD s % 7 = aP s 0 0 then 1 else 0) + (if aD s % 7 = aP s 1 0 then 1 else 0) := by
  have wd : ∀ s : AS, aOK s → ∀ v x, x < 2 → aP (livS s v) x 0 = aP s x 0 := fun s ok v x hx => by
    unfold livS
    cases hq : atH s v with
    | none => rfl
    | some c =>
      have := (ok.c (atH_lt hq).1).2.2.1
      show aP (useC s c) x 0 = _
      rw [useC_p s c x 0 (by omega), if_neg (by omega), if_neg (by omega), if_neg (by omega), if_neg (by omega)]
  have je : ∀ s : AS, aOK s → ∀ v c, atH s v = some c → aP (livS s v) v 4 = 1 := fun s ok v c hq => by
    unfold livS
    rw [hq]
    have h2 := (atH_lt hq).2.1
    have := (ok.c (atH_lt hq).1).2.2.1
    show aP (useC s c) v 4 = _
    rw [useC_p s c v 4 (by omega), if_pos ⟨h2.symm, rfl⟩]
  have keep : ∀ s : AS, aOK s → ∀ v x, v ≠ x → aP (livS s v) x 4 = aP s x 4 := fun s ok v x hx => by
    unfold livS
    cases hq : atH s v with
    | none => rfl
    | some c =>
      have h2 := (atH_lt hq).2.1
      have := (ok.c (atH_lt hq).1).2.2.1
      show aP (useC s c) x 4 = _
      rw [useC_p s c x 4 (by omega), if_neg (by omega), if_neg (by omega), if_neg (by omega), if_neg (by omega)]
  have ok1 := livS_ok ok 0
  have key : ∀ (s1 s2 : AS) (x : Nat), aD s1 = aD s → aP s1 x 0 = aP s x 0 → aD s2 = aD s → aP s2 x 0 = aP s x 0 → (∀ c, atH s1 x = some c → aP s2 x 4 = 1) → (useL s1 x).length + (finL s2 x).length ≤ if aD s % 7 = aP s x 0 then 1 else 0 := fun s1 s2 x a1 a2 a3 a4 a5 => by
    unfold useL finL
    cases hq : atH s1 x with
    | none =>
      unfold due
      rw [a3, a4]
      by_cases e : aD s % 7 = aP s x 0
      · rw [if_pos e, decide_eq_true e]
        show ([] : List ST).length + (if (true && decide (aP s2 x 4 = 0)) = true then [(x, 3, true)] else [] : List ST).length ≤ 1
        split <;> simp
      · rw [if_neg e, decide_eq_false e]
        simp
    | some c =>
      have j := a5 c hq
      have : due s1 x = true := by
        unfold atH at hq
        by_cases z : due s1 x = true
        · exact z
        · rw [if_neg z] at hq; cases hq
      unfold due at this
      rw [Bool.and_eq_true, decide_eq_true_eq] at this
      rw [a1, a2] at this
      rw [if_pos this.1]
      unfold due
      rw [j]
      simp
  have k0 := key s (livS (livS s 0) 1) 0 rfl rfl (by rw [livS_D, livS_D]) (by rw [wd _ ok1 1 0 (by decide), wd s ok 0 0 (by decide)]) (fun c hq => by rw [keep _ ok1 1 0 (by decide)]; exact je s ok 0 c hq)
  have k1 := key (livS s 0) (livS (livS s 0) 1) 1 (livS_D s 0) (wd s ok 0 1 (by decide)) (by rw [livS_D, livS_D]) (by rw [wd _ ok1 1 1 (by decide), wd s ok 0 1 (by decide)]) (fun c hq => je _ ok1 1 c hq)
  unfold dayL
  rw [List.length_append, List.length_append, List.length_append]
  omega
theorem dayS_wd {s : AS} (ok : aOK s) {w : Nat} (hw : w < 2) : aP (dayS s) w 0 = aP s w 0 := by
  have wd : ∀ s : AS, aOK s → ∀ v x, x < 2 → aP (livS s v) x 0 = aP s x 0 := fun s ok v x hx => by
    unfold livS
    cases hq : atH s v with
    | none => rfl
    | some c =>
      have := (ok.c (atH_lt hq).1).2.2.1
      show aP (useC s c) x 0 = _
      rw [useC_p s c x 0 (by omega), if_neg (by omega), if_neg (by omega), if_neg (by omega), if_neg (by omega)]
  unfold dayS
  rw [endD_p _ w 0 hw]
  simp only [show ¬ (0 = 4) by decide, show ¬ (0 = 1) by decide, show ¬ (0 = 2) by decide, if_false]
  rw [show (if due (livS (livS s 0) 1) w = true then aP (livS (livS s 0) 1) w 0 else aP (livS (livS s 0) 1) w 0) = aP (livS (livS s 0) 1) w 0 by split <;> rfl, wd _ (livS_ok ok 0) 1 w hw, wd s ok 0 w hw]
def sOK (L : List ST) : Prop := ∀ x, x ∈ L → x.1 < 2 ∧ x.2.1 ≤ 29
theorem sOK_app {A B : List ST} (h : sOK A) (h2 : sOK B) : sOK (A ++ B) := fun x hx => by
  rcases List.mem_append.mp hx with q | q
  · exact h x q
  · exact h2 x q
theorem useL_ok {s : AS} (ok : aOK s) {w : Nat} (hw : w < 2) : sOK (useL s w) := by
  unfold useL
  cases hq : atH s w with
  | none => intro x hx; cases hx
  | some c =>
    intro x hx
    rw [List.mem_singleton] at hx
    subst hx
    exact ⟨show 1 - w < 2 by omega, ok.w (atH_lt hq).1⟩
theorem finL_ok (s : AS) {w : Nat} (hw : w < 2) : sOK (finL s w) := by
  unfold finL
  split
  · intro x hx
    rw [List.mem_singleton] at hx
    subst hx
    exact ⟨hw, show 3 ≤ 29 by decide⟩
  · intro x hx; cases hx
theorem runL_ok : ∀ (k : Nat) {s : AS}, aOK s → aD s + k ≤ 83 → sOK (runL s k)
  | 0, _, _, _ => fun x hx => by cases hx
  | k + 1, s, ok, h => by
    show sOK (dayL s ++ runL (dayS s) k)
    refine sOK_app ?_ (runL_ok k (dayS_ok ok (by omega)) (by rw [dayS_D]; omega))
    unfold dayL
    exact sOK_app (useL_ok ok (by decide)) (sOK_app (useL_ok (livS_ok ok 0) (by decide)) (sOK_app (finL_ok _ (by decide)) (finL_ok _ (by decide))))
theorem runL_len : ∀ (k : Nat) {s : AS}, aOK s → aD s + k ≤ 83 → (runL s k).length + ((aD s + 6 - aP s 0 0) / 7 + (aD s + 6 - aP s 1 0) / 7) ≤ (aD s + k + 6 - aP s 0 0) / 7 + (aD s + k + 6 - aP s 1 0) / 7
  | 0, s, _, _ => by show 0 + _ ≤ _; omega
  | k + 1, s, ok, h => by
    have i1 := runL_len k (dayS_ok ok (by omega)) (by rw [dayS_D]; omega)
    have l := dayL_len ok
    have w0 := (ok.p (show 0 < 2 by decide)).1
    have w1 := (ok.p (show 1 < 2 by decide)).1
    rw [dayS_D, dayS_wd ok (by decide), dayS_wd ok (by decide)] at i1
    show (dayL s ++ runL (dayS s) k).length + _ ≤ _
    rw [List.length_append]
    have a0 : (aD s + 1 + 6 - aP s 0 0) / 7 = (aD s + 6 - aP s 0 0) / 7 + (if aD s % 7 = aP s 0 0 then 1 else 0) := by split <;> omega
    have a1 : (aD s + 1 + 6 - aP s 1 0) / 7 = (aD s + 6 - aP s 1 0) / 7 + (if aD s % 7 = aP s 1 0 then 1 else 0) := by split <;> omega
    rw [a0, a1] at i1
    rw [show aD s + (k + 1) = aD s + 1 + k by omega]
    omega
theorem c_Course_follow (d : Nat) {n : Nat} {s : AS} {μ : QM} (hA : RA μ 1 s) (ok : aOK s) (hn : aD s ≤ n) (hn2 : n ≤ 83) :
    ∃ μ', qcall qprogs (d + 5) 52 [qR (13, 0, 0), qR (2, 1, 0), qI (zI (n : Nat))] μ = some (none, μ') ∧ Fr isCn μ μ' ∧ PS μ' (runL s (n - aD s)) := by
  have L : ∀ k (s : AS) (A : List ST) (μ : QM), n - aD s = k → aD s ≤ n → aOK s → RA μ 1 s → PS μ A → A.length + (runL s k).length ≤ 26 → ∃ μ', qx (d + 4) qc_Course_follow 10 [some (qR (13, 0, 0)), some (qR (2, 1, 0)), some (qI (zI (n : Nat))), some (qI (zI (aD s : Nat)))] [] μ = some (none, μ') ∧ Fr isCn μ μ' ∧ PS μ' (A ++ runL s k) := by
    intro k
    induction k with
    | zero =>
      intro s A μ hk hD ok hA hP hl
      rw [qb_Course_follow_10, if_pos (by rw [zI_le (by omega)]; omega), qb_Course_follow_49]
      exact ⟨μ, rfl, Fr.rf, by rw [show runL s 0 = [] from rfl, List.append_nil]; exact hP⟩
    | succ k ih =>
      intro s A μ hk hD ok hA hP hl
      have hl : A.length + (dayL s ++ runL (dayS s) k).length ≤ 26 := hl
      unfold dayL at hl
      simp only [List.length_append] at hl
      obtain ⟨μ1, a1, a2, a3, a4⟩ := c_Course_followUse d (w := 0) hA ok hP (by decide) (by omega)
      obtain ⟨μ2, b1, b2, b3, b4⟩ := c_Course_followUse d (w := 1) a3 (livS_ok ok 0) a4 (by decide) (by simp only [List.length_append]; omega)
      obtain ⟨μ3, c1, c2, c3, c4⟩ := c_Course_followEnd (d + 1) (w := 0) b3 (livS_ok (livS_ok ok 0) 1) b4 (by decide) (by simp only [List.length_append]; omega)
      obtain ⟨μ4, e1, e2, e3, e4⟩ := c_Course_followEnd (d + 1) (w := 1) c3 (livS_ok (livS_ok ok 0) 1) c4 (by decide) (by simp only [List.length_append]; omega)
      obtain ⟨μ5, f1, f2, f3⟩ := c_Affair_endDay (d + 1) (show 1 < 11 by decide) e3 (livS_ok (livS_ok ok 0) 1)
      have p5 := e4.fr f2
      obtain ⟨μ6, x1, x2, x3⟩ := ih (dayS s) _ μ5 (by rw [dayS_D]; omega) (by rw [dayS_D]; omega) (dayS_ok ok (by omega)) f3 p5 (by simp only [List.length_append]; omega)
      refine ⟨μ6, ?_, ((((a2.tr b2).tr c2).tr e2).tr (f2.mono fun a ha => Or.inl ha)).tr x2, ?_⟩
      · rw [qb_Course_follow_10, if_neg (by rw [zI_le (by omega)]; omega)]
        simp only [zI_of]
        rw [show zI (0 : Int) = zI ((0 : Nat) : Int) from rfl, show zI (1 : Int) = zI ((1 : Nat) : Int) from rfl, a1, qbV_some, b1, qbV_some, c1, qbV_some, e1, qbV_some, f1, qbV_some, zI_add]
        rw [dayS_D] at x1
        exact x1
      · show PS μ6 (A ++ (dayL s ++ runL (dayS s) k))
        unfold dayL
        simp only [List.append_assoc] at x3 ⊢
        exact x3
  have l := runL_len (n - aD s) ok (by omega)
  have f0 : Fr isCo μ (qsi μ (13, 0, 0) 3 (zI 0)) := Fr.si (by unfold isCo; decide)
  obtain ⟨μ', x1, x2, x3⟩ := L (n - aD s) s [] (qsi μ (13, 0, 0) 3 (zI 0)) rfl hn ok (hA.fr f0 isCo_A) ⟨qsi_self _ _ _ _, fun i hi => absurd hi (by simp)⟩ (by simp only [List.length_nil]; omega)
  refine ⟨μ', ?_, (f0.mono fun a ha => Or.inr ha).tr x2, x3⟩
  rw [qe_Course_follow (h0 := qd2 (by decide)), qb_Course_follow_0, zI_of, qsi_ne (by simp), hA.day]
  exact x1
theorem c_Course_isCoveredBy (d : Nat) {w v t : Nat} {L : List ST} {μ : QM} (h : PS μ L) (hL : L.length ≤ 26) (ok : sOK L) (hw : w < 2) (hv : v ≤ 999) (ht : t ≤ 999) :
    qcall qprogs (d + 2) 56 [qR (13, 0, 0), qI (zI (w : Nat)), qI (zI (v : Nat)), qI (zI (t : Nat))] μ = some (some (qI (qB (cov w L v t))), μ) := by
  obtain ⟨h1, h2⟩ := h
  have Lp : ∀ (B A : List ST) (m t : Nat), L = A ++ B → m ≤ 999 → t ≤ 999 → qx (d + 1) qc_Course_isCoveredBy 9 [some (qR (13, 0, 0)), some (qI (zI (w : Nat))), none, none, some (qI (zI (m : Nat))), some (qI (zI (t : Nat))), some (qI (zI (A.length : Nat))), none, none] [] μ = some (some (qI (qB (cov w B m t))), μ) := by
    intro B
    induction B with
    | nil =>
      intro A m t hAB hm ht
      have e : L.length = A.length := by rw [hAB, List.append_nil]
      rw [qb_Course_isCoveredBy_9, h1, if_pos (by rw [zI_le (by omega)]; omega), qb_Course_isCoveredBy_211, zI_of, if_pos (Or.inr (by decide +kernel))]
      rfl
    | cons x B ih =>
      intro A m t hAB hm ht
      have e : L.length = A.length + (B.length + 1) := by rw [hAB, List.length_append, List.length_cons]
      have hx : gST L A.length = x := by rw [hAB]; exact gST_m
      obtain ⟨p1, p2, p3⟩ := h2 A.length (by omega)
      rw [hx] at p1 p2 p3
      obtain ⟨x1, x2⟩ := ok x (by rw [hAB]; exact List.mem_append.mpr (Or.inr (List.mem_cons_self ..)))
      obtain ⟨p, wt, b⟩ := x
      dsimp only at p1 p2 p3 x1 x2
      have i1 := fun m' t' h1 h2 => ih (A ++ [(p, wt, b)]) m' t' (by rw [hAB, List.append_assoc]; rfl) h1 h2
      have el : (A ++ [(p, wt, b)]).length = A.length + 1 := by rw [List.length_append]; rfl
      rw [el] at i1
      have g205 : ∀ m' t' : Nat, m' ≤ 999 → t' ≤ 999 → qx (d + 1) qc_Course_isCoveredBy 205 [some (qR (13, 0, 0)), some (qI (zI (w : Nat))), none, none, some (qI (zI (m' : Nat))), some (qI (zI (t' : Nat))), some (qI (zI (A.length : Nat))), none, none] [] μ = some (some (qI (qB (cov w B m' t'))), μ) := fun m' t' q1 q2 => by
        rw [qb_Course_isCoveredBy_205, zI_of, zI_add]
        exact i1 m' t' q1 q2
      have g41 : qx (d + 1) qc_Course_isCoveredBy 9 [some (qR (13, 0, 0)), some (qI (zI (w : Nat))), none, none, some (qI (zI (m : Nat))), some (qI (zI (t : Nat))), some (qI (zI (A.length : Nat))), none, none] [] μ = qx (d + 1) qc_Course_isCoveredBy 41 [some (qR (13, 0, 0)), some (qI (zI (w : Nat))), none, none, some (qI (zI (m : Nat))), some (qI (zI (t : Nat))), some (qI (zI (A.length : Nat))), none, none] [qI (qB (decide (p = w)))] μ := by
        rw [qb_Course_isCoveredBy_9, h1]
        simp only [zI_of]
        rw [if_neg (by rw [zI_le (by omega)]; omega), if_neg (by rw [zI_le (by omega)]; omega), zI_oob (n := 26) (by omega), cond_false, show qix (zI (A.length : Nat)) = A.length from zI_ixN (by omega), p1]
        by_cases q : p = w
        · rw [if_pos (by rw [q]), decide_eq_true q]; rfl
        · rw [if_neg (by rw [zI_eq (by omega)]; omega), decide_eq_false q, qb_Course_isCoveredBy_40, zI_of]; rfl
      have ix : qix (zI (A.length : Nat)) = A.length := zI_ixN (by omega)
      rw [g41, qb_Course_isCoveredBy_41, zI_oob (n := 26) (by omega), cond_false, ix, p3, p2, qB_if]
      cases b
      · rw [cond_false, qb_Course_isCoveredBy_112, qB_if]
        by_cases q : p = w
        · have pd := c_J_paidOf d (a := wt) (b := m) (c := t) (μ := μ) (by omega) hm ht
          rw [decide_eq_true q, cond_true, zI_oob (n := 26) (by omega), cond_false, ix, p2, pd, qbI_some, qb_Course_isCoveredBy_148, show qB true = zI 1 from rfl, if_neg (by decide +kernel), zI_oob (n := 26) (by omega), cond_false, ix, p2]
          show _ = some (some (qI (qB (if p = w then (if min wt (min m (999 - t)) < wt then false else cov w B (m - min wt (min m (999 - t))) (t + min wt (min m (999 - t)))) else _))), μ)
          rw [if_pos q]
          have pl : min wt (min m (999 - t)) ≤ wt ∧ min wt (min m (999 - t)) ≤ m ∧ min wt (min m (999 - t)) ≤ 999 - t := by omega
          generalize min wt (min m (999 - t)) = pa at *
          by_cases lt : pa < wt
          · rw [if_neg (by rw [zI_le (by omega)]; omega), if_pos lt, zI_of, if_pos (Or.inl (by decide +kernel))]
            rfl
          · rw [if_pos (by rw [zI_le (by omega)]; omega), if_neg lt, qb_Course_isCoveredBy_169, if_neg (by decide +kernel), qb_Course_isCoveredBy_184, if_neg (by decide +kernel), qb_Course_isCoveredBy_202, zI_neg, zI_add, zI_addN, show ((m : Nat) : Int) + -((pa : Nat) : Int) = ((m - pa : Nat) : Int) by omega]
            exact g205 _ _ (by omega) (by omega)
        · have pd := c_J_paidOf d (a := wt) (b := t) (c := m) (μ := μ) (by omega) ht hm
          rw [decide_eq_false q, cond_false, qb_Course_isCoveredBy_134, zI_oob (n := 26) (by omega), cond_false, ix, p2, pd, qbI_some, qb_Course_isCoveredBy_148, show qB false = zI 0 from rfl, if_pos zI0]
          show _ = some (some (qI (qB (if p = w then _ else cov w B (m + min wt (min t (999 - m))) (t - min wt (min t (999 - m)))))), μ)
          rw [if_neg q]
          have pl : min wt (min t (999 - m)) ≤ wt ∧ min wt (min t (999 - m)) ≤ t ∧ min wt (min t (999 - m)) ≤ 999 - m := by omega
          generalize min wt (min t (999 - m)) = pa at *
          rw [qb_Course_isCoveredBy_169, if_pos zI0, qb_Course_isCoveredBy_182, qb_Course_isCoveredBy_184, if_pos zI0, qb_Course_isCoveredBy_199, qb_Course_isCoveredBy_202, zI_neg, zI_addN, zI_add, show ((t : Nat) : Int) + -((pa : Nat) : Int) = ((t - pa : Nat) : Int) by omega]
          exact g205 _ _ (by omega) (by omega)
      · rw [cond_true, cond_false, qB_if]
        by_cases q : p = w
        · rw [decide_eq_true q, cond_true, qb_Course_isCoveredBy_72, show qB true = zI 1 from rfl, if_neg (by decide +kernel)]
          show _ = some (some (qI (qB (if p = w then cov w B (m - min wt m) t else _))), μ)
          have em : (if zI (m : Nat) < zI (wt : Nat) then zI (m : Nat) else zI (wt : Nat)) = zI (min wt m : Nat) := by
            by_cases lt : m < wt
            · rw [if_pos (by rw [zI_lt (by omega)]; omega)]; exact zI_congr (by omega)
            · rw [if_neg (by rw [zI_lt (by omega)]; omega)]; exact zI_congr (by omega)
          rw [if_pos q, em, qb_Course_isCoveredBy_90, if_neg (by decide +kernel), qb_Course_isCoveredBy_106, zI_of, zI_subN (a := m) (b := min wt m) (by omega), zI_sub, Int.sub_zero]
          exact g205 _ _ (by omega) ht
        · rw [decide_eq_false q, cond_false, qb_Course_isCoveredBy_70, qb_Course_isCoveredBy_72, show qB false = zI 0 from rfl, if_pos zI0]
          show _ = some (some (qI (qB (if p = w then _ else cov w B m (t - min wt t)))), μ)
          have em : (if zI (t : Nat) < zI (wt : Nat) then zI (t : Nat) else zI (wt : Nat)) = zI (min wt t : Nat) := by
            by_cases lt : t < wt
            · rw [if_pos (by rw [zI_lt (by omega)]; omega)]; exact zI_congr (by omega)
            · rw [if_neg (by rw [zI_lt (by omega)]; omega)]; exact zI_congr (by omega)
          rw [if_neg q, em, qb_Course_isCoveredBy_89, zI_of, qb_Course_isCoveredBy_90, if_pos zI0, qb_Course_isCoveredBy_104, qb_Course_isCoveredBy_106, zI_sub, Int.sub_zero, zI_subN (by omega)]
          exact g205 _ _ hm (by omega)
  rw [qe_Course_isCoveredBy, qb_Course_isCoveredBy_0, zI_of]
  exact Lp L [] v t rfl hv ht
def ndP (s : AS) (w n v : Nat) : Bool := cov w (runL s (n - aD s)) v (aP s (1 - w) 1)
theorem ndP_ok {s : AS} (ok : aOK s) {w n v : Nat} (hw : w < 2) (hn : aD s ≤ n) (hn2 : n ≤ 83) (hv : v ≤ 999) : ndP s w n v = decide (aP (toS (setP s w 1 v) (n - aD s)) w 3 ≤ aP s w 3) := by
  have hS : Sk s (setP s w 1 v) := ⟨rfl, rfl, rfl, fun w' _ => ⟨by rw [aP_setP, if_neg (by omega)], by rw [aP_setP, if_neg (by omega)]⟩⟩
  obtain ⟨h1, h2⟩ := HC.run hw (n - aD s) hS ok (ok.pu hv) (by omega) rfl
  rw [aP_setP, if_pos ⟨rfl, rfl⟩, aP_setP, if_neg (by omega), aP_setP, if_neg (by omega)] at h1
  rw [aP_setP, if_neg (by omega)] at h2
  unfold ndP
  rw [h1]
  by_cases e : aP (toS (setP s w 1 v) (n - aD s)) w 3 = aP s w 3
  · rw [decide_eq_true e, decide_eq_true (by omega)]
  · rw [decide_eq_false e, decide_eq_false (by omega)]
theorem c_M_owedWith (d : Nat) {w v n : Nat} {μ : QM} {σ : GS} (h : MI μ σ) (ok : GOK σ) (hw : w < 2) (hv : v ≤ 999) (hn2 : n ≤ 83) :
    ∃ μ', qcall qprogs (d + 7) 255 [qR (24, 0, 0), qI (zI (w : Nat)), qI (zI (v : Nat)), qI (zI (n : Nat))] μ = some (some (qI (zI (aP (toS (setP (gS σ) w 1 v) (n - aD (gS σ))) w 3 : Nat))), μ') ∧ MI μ' σ ∧ Fr isMd μ μ' := by
  obtain ⟨μ1, r1, r2, r3, r4⟩ := m_keep1 (d + 4) h ok
  have hR : RM (qsi μ1 (27, 0, 0) w (zI (v : Nat))) (setP (gS σ) w 1 v) := r2.sPu
  have fs : FrS μ1 (qsi μ1 (27, 0, 0) w (zI (v : Nat))) := FrS.row (by decide)
  obtain ⟨μ2, q1, q2, q3⟩ := c_M_goesTo d hn2 (n - aD (gS σ)) hR (ok.1.pu hv) rfl
  obtain ⟨μ3, t1, t2, t3, -⟩ := m_putb1 (d + 4) h ok ((r4.tr fs.r).tr q2.r) ((r3.s fs).s q2)
  refine ⟨μ3, ?_, t2, t3⟩
  rw [qe_M_owedWith, qb_M_owedWith_0]
  simp only [zI_of]
  rw [r1, qbV_some, zI_oob (n := 2) (by omega), cond_false, show qix (zI (w : Nat)) = w from zI_ixN (by omega), q1, qbV_some, cond_false, t1, qbV_some, q3.ow hw]
theorem op_need {σ : GS} (ok : GOK σ) {z1 z2 : Int} (h1 : iB z1) (h2 : iB z2) : OP 101 256 [qI (zI z1), qI (zI z2)] σ := by
  have hr := fOne_r (z := z1) (fDay_r (gS σ) z2)
  have bD := ok.1.1
  by_cases hf : fOne z1 (fDay (gS σ) z2) = 0
  · have hf0 := hf
    obtain ⟨⟨w, rfl, hw⟩, hd⟩ := fOne_0 hf
    obtain ⟨n, rfl, hn, hn2⟩ := fDay_0 hd
    have tb := (ok.1.p (show 1 - w < 2 by omega)).2.1
    have ob := ok.1.owed hw
    refine ⟨qI (zI (onM (ffr (ndP (gS σ) w n) 1000 0))), σ, fun d μ h => ?_, fun d μ h => ?_, ok⟩
    · obtain ⟨μ1, r1, r2, r3, r4⟩ := j_mind (d + 27) h ok
      obtain ⟨μ2, q1, q2, q3⟩ := c_Course_follow (d + 24) r4 ok.1 hn hn2
      have ci := r2.cn q2
      have len := runL_len (n - aD (gS σ)) ok.1 (by omega)
      have sok := runL_ok (n - aD (gS σ)) ok.1 (by omega)
      have L : ∀ k c, c + k = 1000 → qx (d + 29) qc_J_need 59 [some (qR (0, 0, 0)), some (qI (zI (w : Nat))), none, none, some (qI (zI (aP (gS σ) (1 - w) 1 : Nat))), some (qI (zI (c : Nat)))] [] μ2 = some (some (qI (zI (onM (ffr (ndP (gS σ) w n) k c)))), μ2) := by
        intro k
        induction k with
        | zero =>
          intro c hc
          rw [qb_J_need_59]
          simp only [zI_of]
          rw [if_pos (by rw [zI_lt (by omega)]; omega), qb_J_need_91, zI_of]
          rfl
        | succ k ih =>
          intro c hc
          have i1 := ih (c + 1) (by omega)
          rw [qb_J_need_59, zI_of, if_neg (by rw [zI_lt (by omega)]; omega), c_Course_isCoveredBy (d + 27) (w := w) (v := c) (t := aP (gS σ) (1 - w) 1) q3 (by omega) sok hw (by omega) tb, qbI_some, qB_if, ffr_s]
          unfold ndP at i1 ⊢
          cases hb : cov w (runL (gS σ) (n - aD (gS σ))) c (aP (gS σ) (1 - w) 1)
          · rw [cond_false, if_neg (show ¬ false = true by decide), qb_J_need_85, zI_of, zI_add]
            exact i1
          · rw [cond_true, if_pos rfl]
            rfl
      refine ⟨μ2, ?_, ci.1, r3.tr ci.2⟩
      rw [qe_J_need, qb_J_need_0, c_J_faultOfOneAndDay (d + 27) h.1.1 ok.1 h1 h2, qbI_some, hf, if_pos zI0, qb_J_need_17, r1, qbV_some, q1, qbV_some, c_J_otherThan (d + 28) hw, qbI_some, c_Affair_person (d + 28) (show 0 < 11 by decide) (show 1 - w < 2 by omega), qbR_some (qd3 (by decide) (by omega)), ci.1.1.1.p 1 (show 1 - w < 2 by omega), zI_of]
      exact L 1000 0 (by decide)
    · have L : ∀ k c (μ1 : QM), c + k = 1000 → MI μ1 σ → ∃ μ2, qx (d + 29) qc_M_need 20 [some (qR (24, 0, 0)), some (qI (zI (w : Nat))), some (qI (zI (n : Nat))), none, some (qI (zI (c : Nat)))] [] μ1 = some (some (qI (zI (onM (ffr (ndP (gS σ) w n) k c)))), μ2) ∧ MI μ2 σ ∧ Fr isMd μ1 μ2 := by
        intro k
        induction k with
        | zero =>
          intro c μ1 hc h
          rw [qb_M_need_20]
          simp only [zI_of]
          rw [if_pos (by rw [zI_lt (by omega)]; omega), qb_M_need_54, zI_of]
          exact ⟨μ1, rfl, h, Fr.rf⟩
        | succ k ih =>
          intro c μ1 hc h
          obtain ⟨μ2, r1, r2, r3⟩ := c_M_owedWith (d + 22) (w := w) (v := c) (n := n) h ok hw (by omega) hn2
          have okT := toS_ok (n - aD (gS σ)) (ok.1.pu (w := w) (v := c) (by omega)) (by show aD (gS σ) + _ ≤ 83; omega)
          have ob2 := okT.owed hw
          rw [qb_M_need_20, zI_of, if_neg (by rw [zI_lt (by omega)]; omega), r1, qbI_some, zI_oob (n := 2) (by omega), cond_false, show qix (zI (w : Nat)) = w from zI_ixN (by omega), r2.1.ow hw, ffr_s, ndP_ok ok.1 hw hn hn2 (by omega)]
          by_cases e : aP (toS (setP (gS σ) w 1 c) (n - aD (gS σ))) w 3 ≤ aP (gS σ) w 3
          · rw [if_neg (by rw [zI_lt (by omega)]; omega), decide_eq_true e, if_pos rfl]
            exact ⟨μ2, rfl, r2, r3⟩
          · obtain ⟨μ3, x1, x2, x3⟩ := ih (c + 1) μ2 (by omega) r2
            refine ⟨μ3, ?_, x2, r3.tr x3⟩
            rw [if_pos (by rw [zI_lt (by omega)]; omega), decide_eq_false e, if_neg (show ¬ false = true by decide), qb_M_need_48, zI_of, zI_add]
            exact x1
      obtain ⟨μ2, x1, x2, x3⟩ := L 1000 0 μ (by decide) h
      refine ⟨μ2, ?_, x2, x3⟩
      rw [qe_M_need, qb_M_need_0, c_M_notWho (d + 27) h.1 ok.1 h1 h2, qbI_some, hf, if_pos zI0, qb_M_need_17, zI_of]
      exact x1
  ·
    have hr2 : -6 ≤ fOne z1 (fDay (gS σ) z2) ∧ fOne z1 (fDay (gS σ) z2) ≤ -1 := by omega
    refine ⟨qI (zI (fOne z1 (fDay (gS σ) z2))), refS σ (-(fOne z1 (fDay (gS σ) z2))).toNat, fun d μ h => ?_, fun d μ h => ?_, ok.ref⟩
    · rw [qe_J_need, qb_J_need_0, c_J_faultOfOneAndDay (d + 27) h.1.1 ok.1 h1 h2, qbI_some, if_neg (zI_n0 hr2)]
      obtain ⟨μ9, r1, r2, r3⟩ := c_J_refuse (d + 28) h hr2
      exact ⟨μ9, by simp only [r1, qbI_some], r2, r3⟩
    · rw [qe_M_need, qb_M_need_0, c_M_notWho (d + 27) h.1 ok.1 h1 h2, qbI_some, if_neg (zI_n0 hr2)]
      obtain ⟨μ9, r1, r2, r3⟩ := c_M_no (d + 28) h hr2
      exact ⟨μ9, by simp only [r1, qbI_some], r2, r3⟩
end
