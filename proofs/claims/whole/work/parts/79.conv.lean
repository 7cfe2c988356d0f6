section
/-! the two objects as the pure memory at its start -/
def adl (hJ hM : Nat) (f : Nat → Nat) (U : Nat → Nat → Nat) : List (Nat → Nat → Nat) := [fun _ _ => hJ, fun j c => U j (3 + c), fun j _ => f j, fun j c => U j c, fun j _ => U j 2, fun p _ => f (11 + p), fun p c => U (11 + p) (6 + c), fun p _ => U (11 + p) 0, fun p _ => U (11 + p) 1, fun p _ => U (11 + p) 2, fun p _ => U (11 + p) 3, fun p _ => U (11 + p) 4, fun p _ => U (11 + p) 5, fun _ _ => f 13, fun _ _ => U 13 0, fun _ _ => U 13 1, fun _ _ => U 13 2, fun _ _ => f 14, fun _ _ => f 15, fun _ _ => f 16, fun _ _ => f 17, fun _ _ => f 18, fun _ _ => f 19, fun _ _ => f 20, fun _ _ => hM]
def adr (hJ hM b : Nat) (f : Nat → Nat) (U : Nat → Nat → Nat) (v : Nat → Nat) (a : QA) : Nat := if a.1 = 99 then b else if a.1 < 25 then (adl hJ hM f U).getD a.1 (fun _ _ => 0) a.2.1 a.2.2 else v (a.1 - 25)
def mu0 : QM := (fun a k => if a.1 = 3 then (if k = 0 then (if a.2.2 = 1 then 3 else 0) else if k = 1 then 50 else 0) else if a.1 = 6 then (if k = 0 then zI (a.2.2 : Nat) else 0) else if a.1 = 26 then upd (fun _ => 0) 1 3 k else if a.1 = 27 then upd (upd (fun _ => 0) 0 50) 1 50 k else 0, fun _ _ => 0, fun a i => if a.1 = 17 then (if i < 8 then some (2, 3 + i, 0) else none) else if a.1 = 9 then some (6, a.2.1, i) else none)
abbrev gE (hJ hM b : Nat) (f : Nat → Nat) (U : Nat → Nat → Nat) (v : Nat → Nat) (cA : Nat → ClassId) (a : QA) : Nat × va_E := (adr hJ hM b f U v a, qcell (adr hJ hM b f U v) cA mu0 a)
def pA (j : Nat) : List QA := (2, j, 0) :: (3, j, 0) :: (3, j, 1) :: (4, j, 0) :: (List.range 12).map fun c => (1, j, c)
def pP (p : Nat) : List QA := (5, p, 0) :: (7, p, 0) :: (8, p, 0) :: (9, p, 0) :: (10, p, 0) :: (11, p, 0) :: (12, p, 0) :: (List.range 12).map fun c => (6, p, c)
def pB : List QA := ((((((((((pA 0 ++ pA 1) ++ pA 2) ++ [(18, 0, 0)]) ++ [(19, 0, 0)]) ++ [(20, 0, 0)]) ++ pP 0) ++ pP 1) ++ [(21, 0, 0)]) ++ [(22, 0, 0)]) ++ [(23, 0, 0)]) ++ [(13, 0, 0), (14, 0, 0), (15, 0, 0), (16, 0, 0)]
def pJt : Nat → List QA
  | 0 => pB
  | n + 1 => pJt n ++ pA (3 + n)
def pJ : List QA := (0, 0, 0) :: (17, 0, 0) :: pJt 8
def pM : List QA := (24, 0, 0) :: (List.range 25).map fun i => (25 + i, 0, 0)
section
variable {hJ hM b : Nat} {f : Nat → Nat} {U : Nat → Nat → Nat} {v : Nat → Nat} {cA : Nat → ClassId}
theorem gE_a (j : Nat) : gE hJ hM b f U v cA (2, j, 0) = (f j, .inr (2, [.int 0, .ref (U j 0), .ref (U j 1), .ref (U j 2), .int 0])) := rfl
theorem gE_c (j c : Nat) : gE hJ hM b f U v cA (1, j, c) = (U j (3 + c), .inr (1, k0 1)) := rfl
theorem gE_p0 (j : Nat) : gE hJ hM b f U v cA (3, j, 0) = (U j 0, .inr (3, [.int 0, .int 50, .int 0, .int 0, .int 0])) := rfl
theorem gE_p1 (j : Nat) : gE hJ hM b f U v cA (3, j, 1) = (U j 1, .inr (3, [.int 3, .int 50, .int 0, .int 0, .int 0])) := rfl
theorem gE_r (j : Nat) : gE hJ hM b f U v cA (4, j, 0) = (U j 2, .inl (cA 3, 12, .inr (.inr (.inr (.inr (fun i => some (U j (3 + i)))))))) := rfl
theorem pA_ok (j : Nat) : (pA j).map (gE hJ hM b f U v cA) = wAf cA (f j) (U j) (fun i => some (U j (3 + i))) 12 := by
  unfold pA wAf
  rw [List.map_cons, List.map_cons, List.map_cons, List.map_cons, List.map_map, gE_a, gE_p0, gE_p1, gE_r]
  rfl
theorem gE_q (p c : Nat) : gE hJ hM b f U v cA (6, p, c) = (U (11 + p) (6 + c), .inr (5, [.int (zI (c : Nat)), .int 0, .int 0, .int 0])) := rfl
theorem gE_l (p : Nat) : gE hJ hM b f U v cA (5, p, 0) = (f (11 + p), .inr (4, [.ref (U (11 + p) 0), .int 0, .ref (U (11 + p) 1), .ref (U (11 + p) 2), .int 0, .int 0, .ref (U (11 + p) 3), .int 0, .int 0, .ref (U (11 + p) 4), .ref (U (11 + p) 5)])) := rfl
theorem pP_ok (p : Nat) : (pP p).map (gE hJ hM b f U v cA) = wPl cA (f (11 + p)) (U (11 + p)) (fun i => some (U (11 + p) (6 + i))) 12 := by
  unfold pP wPl wPq
  rw [List.map_cons, List.map_cons, List.map_cons, List.map_cons, List.map_cons, List.map_cons, List.map_cons, List.map_map, gE_l]
  rfl
theorem pB_ok : pB.map (gE hJ hM b f U v cA) = wJt cA f U 0 := by
  unfold pB
  rw [List.map_append, List.map_append, List.map_append, List.map_append, List.map_append, List.map_append, List.map_append, List.map_append, List.map_append, List.map_append, List.map_append, pA_ok 0, pA_ok 1, pA_ok 2, pP_ok 0, pP_ok 1]
  rfl
theorem pJt_ok : ∀ n, (pJt n).map (gE hJ hM b f U v cA) = wJt cA f U n
  | 0 => pB_ok
  | n + 1 => by
    show (pJt n ++ pA (3 + n)).map _ = wJt cA f U n ++ wAf cA (f (3 + n)) (U (3 + n)) (fun i => some (U (3 + n) (3 + i))) 12
    rw [List.map_append, pJt_ok n, pA_ok]
theorem gE_past : gE hJ hM b f U v cA (17, 0, 0) = (f 14, .inl (cA 5, 8, .inr (.inr (.inr (.inr (gAf 3 f 8)))))) := by
  have e : (fun i => (mu0.2.2 (17, 0, 0) i).map (adr hJ hM b f U v)) = gAf 3 f 8 := by
    funext i
    show ((if (17 : Nat) = 17 then (if i < 8 then some (2, 3 + i, 0) else none) else if (17 : Nat) = 9 then some (6, 0, i) else none : Option QA)).map (adr hJ hM b f U v) = if i < 8 then some (f (3 + i)) else none
    rw [if_pos rfl]
    by_cases h : i < 8
    · rw [if_pos h, if_pos h]
      rfl
    · rw [if_neg h, if_neg h]
      rfl
  rw [← e]
  rfl
theorem gE_J : gE hJ hM b f U v cA (0, 0, 0) = (hJ, .inr (0, [.ref (f 0), .ref (f 1), .ref (f 2), .int 0, .ref (f 14), .int 0, .ref (f 15), .int 0, .ref (f 16), .int 0, .ref (f 17), .ref (f 11), .ref (f 12), .ref (f 18), .ref (f 19), .ref (f 20), .ref (f 13)])) := rfl
theorem pJ_ok : pJ.map (gE hJ hM b f U v cA) = wJ cA hJ f U (gAf 3 f 8) 8 := by
  unfold pJ wJ
  rw [List.map_cons, List.map_cons, gE_past, gE_J, pJt_ok]
set_option maxRecDepth 100000 in
theorem pM_ok : pM.map (gE hJ hM b f U v cA) = wM cA hM v := by
  unfold pM wM
  rw [List.map_cons, List.map_map]
  rfl
set_option maxRecDepth 100000 in
theorem pAll_perm : (pJ ++ pM).Perm qdoml := List.isPerm_iff.mp (by decide +kernel)
theorem kC.conv {D : va_G} {A : Nat → Prop} {H0 H : Heap} {locs : List Loc} (b : Nat) (h : kC D A H0 (wJ cA hJ f U (gAf 3 f 8) 8 ++ wM cA hM v) H locs) : kC D A H0 (qwld (adr hJ hM b f U v) cA mu0) H locs := by
  rw [← pJ_ok (hM := hM) (b := b) (v := v), ← pM_ok (hJ := hJ) (b := b) (f := f) (U := U), ← List.map_append] at h
  exact h.perm (pAll_perm.symm.map _)
end
/-! the state at its start -/
def sg0 : AS := (0, 0, fun w k => if k = 0 then (if w = 1 then 3 else 0) else if k = 1 then 50 else 0, fun _ _ => 0)
def gs0 : GS := (sg0, none, (0, fun _ => sg0), (0, fun _ => 0), (0, fun _ => 0), fun _ => 0)
theorem zI0n : (0 : Int32) = zI ((0 : Nat) : Int) := by decide +kernel
theorem CI_0 : CI mu0 gs0 := by
  refine ⟨⟨⟨by decide +kernel, by decide +kernel, ?_, fun c k hc _ => absurd hc (Nat.not_lt_zero c), fun c hc => absurd hc (Nat.not_lt_zero c)⟩, ?_, ⟨Nat.zero_le _, by decide +kernel, fun i => 3 + i, fun i hi => ⟨?_, by show 3 ≤ 3 + i; omega, by show 3 + i < 11; omega⟩, fun i j _ _ e => Nat.add_left_cancel e, fun i hi => absurd hi (Nat.not_lt_zero i)⟩, ⟨by decide +kernel, fun i hi => absurd hi (Nat.not_lt_zero i)⟩, ⟨by decide +kernel, fun i hi => absurd hi (Nat.not_lt_zero i)⟩, fun k _ _ => ?_⟩, fun p _ => ⟨fun c _ => rfl, 0, fun _ => 0, Nat.zero_le _, ?_, fun i hi => absurd hi (Nat.not_lt_zero i)⟩⟩
  · have key : ∀ w, w < 2 → ∀ k, k < 5 → mu0.1 (3, 0, w) k = zI (aP sg0 w k : Nat) := by decide +kernel
    exact fun w k hw hk => key w hw k hk
  · show mu0.1 (0, 0, 0) 3 = zI 0
    decide +kernel
  · show (if (17 : Nat) = 17 then (if i < 8 then some (2, 3 + i, 0) else none) else if (17 : Nat) = 9 then some (6, 0, i) else none : Option QA) = _
    rw [if_pos rfl, if_pos hi]
  · exact zI0n
  · exact zI0n
theorem MI_0 : MI mu0 gs0 := by
  refine ⟨⟨by decide +kernel, by decide +kernel, ?_, fun c k hc _ => absurd hc (Nat.not_lt_zero c)⟩, ?_, ⟨Nat.zero_le _, by decide +kernel, fun i hi => absurd hi (Nat.not_lt_zero i)⟩, ⟨by decide +kernel, fun i hi => absurd hi (Nat.not_lt_zero i)⟩, ⟨by decide +kernel, fun i hi => absurd hi (Nat.not_lt_zero i)⟩, fun k _ _ => zI0n⟩
  · have key : ∀ w, w < 2 → ∀ k, k < 5 → mu0.1 (26 + k, 0, 0) w = zI (aP sg0 w k : Nat) := by decide +kernel
    exact fun w k hw hk => key w hw k hk
  · show mu0.1 (24, 0, 0) 21 = zI 0
    decide +kernel
theorem sg0_ok : aOK sg0 := ⟨by decide, by decide, ⟨by decide, by decide, by decide, by decide, by decide⟩, ⟨by decide, by decide, by decide, by decide, by decide⟩, fun c hc => absurd hc (Nat.not_lt_zero c)⟩
theorem GOK_0 : GOK gs0 := ⟨sg0_ok, fun s h => (by cases h), Nat.zero_le _, fun i hi => absurd hi (Nat.not_lt_zero i), Nat.zero_le _, fun i hi => absurd hi (Nat.not_lt_zero i), Nat.zero_le _, fun i hi => absurd hi (Nat.not_lt_zero i)⟩
end
