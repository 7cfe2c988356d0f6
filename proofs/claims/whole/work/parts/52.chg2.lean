section
/-! use, end, back, image, restore -/
theorem CI.c5 {μ : QM} {σ : GS} (h : CI μ σ) : μ.1 (0, 0, 0) 5 = zI (gN σ : Nat) := h.1.2.2.1.2.1
/-- the state alone changes -/
theorem CI.st {μ μ' : QM} {σ : GS} {s : AS} (h : CI μ σ) (f : Fr (isA 0) μ μ') (r : RA μ' 0 s) : CI μ' (chS σ s (gN σ)) ∧ Fr isCl μ μ' := by
  have e0 : μ'.1 (0, 0, 0) = μ.1 (0, 0, 0) := f.1 _ (isA_no (Or.inl rfl))
  exact h.ch (Nat.le_refl _) (f.mono fun a ha => Or.inl ha) r (by rw [e0]; exact h.c5) (fun k _ => by rw [e0])
theorem MI.st {μ μ' : QM} {σ : GS} {s : AS} (h : MI μ σ) (ok : GOK σ) (f : FrS μ μ') (r : RM μ' s) : MI μ' (chS σ s (gN σ)) ∧ Fr isMd μ μ' :=
  h.ch ok (Nat.le_refl _) f.r.1 r ((f.2 24 (by decide) (by decide)).trans h.2.2.1.2.1) (fun k hk => f.2 k (by omega) (by omega)) (fun x _ => by rw [f.1.1 _ (by unfold isS; simp)])
theorem op_use {σ : GS} (ok : GOK σ) {z1 : Int} (h1 : iB z1) : OP 63 189 [qI (zI z1)] σ := by
  have b1 := h1.1
  have b2 := h1.2
  have n12 := ok.1.2.1
  by_cases hz : 0 ≤ z1 ∧ z1 < aN (gS σ)
  · obtain ⟨c, rfl, hc⟩ : ∃ c : Nat, z1 = c ∧ c < aN (gS σ) := ⟨z1.toNat, by omega, by omega⟩
    have eJ : ∀ d μ, CI μ σ → qcall qprogs (d + 30) 63 [qR (0, 0, 0), qI (zI (c : Nat))] μ = if qB (aX (gS σ) c && (decide (aP (gS σ) (aC (gS σ) c 2) 4 = 0) && aG (gS σ) c (aD (gS σ)))) = 0 then qbI (qcall qprogs (d + 29) 104 [qR (0, 0, 0), qI (zI (-3))] μ) (fun x4 μ3 => some (some (qI x4), μ3)) else qx (d + 29) qc_J_use 37 [some (qR (0, 0, 0)), none, some (qR (1, 0, c))] [] μ := fun d μ h => by
      rw [qe_J_use, qb_J_use_0, c_Affair_causeAt (d + 28) (show 0 < 11 by decide) h.1.1 ok.1 hc, qbN_some (qd1 (by decide) (by omega)), qb_J_use_19, c_Affair_isUsable (d + 26) (show 0 < 11 by decide) h.1.1 ok.1 hc, qbI_some, zI_of]
    have eM : ∀ d μ, MI μ σ → qcall qprogs (d + 30) 189 [qR (24, 0, 0), qI (zI (c : Nat))] μ = if qB (aX (gS σ) c && (decide (aP (gS σ) (aC (gS σ) c 2) 4 = 0) && aG (gS σ) c (aD (gS σ)))) = 0 then qx (d + 29) qc_M_use 26 [some (qR (24, 0, 0)), some (qI (zI (c : Nat))), none] [qI (zI (-3))] μ else qx (d + 29) qc_M_use 26 [some (qR (24, 0, 0)), some (qI (zI (c : Nat))), none] [qI (zI 0)] μ := fun d μ h => by
      rw [qe_M_use, qb_M_use_0, c_M_isCause (d + 28) h.1 ok.1 h1, qbI_some, decide_eq_true hz, if_neg (by decide), qb_M_use_12, c_M_canUse (d + 25) h.1 ok.1 hc, qbI_some, qb_M_use_25, zI_of, zI_of]
    cases hu : (aX (gS σ) c && (decide (aP (gS σ) (aC (gS σ) c 2) 4 = 0) && aG (gS σ) c (aD (gS σ))))
    · rw [hu] at eJ eM
      refine ⟨qI (zI (-3)), refS σ 3, fun d μ h => ?_, fun d μ h => ?_, ok.ref⟩
      · rw [eJ d μ h, if_pos (by decide)]
        exact j_ref1 (d := d + 28) (f := -3) h (by decide)
      · rw [eM d μ h, if_pos (by decide), qb_M_use_26, if_neg (by decide +kernel)]
        exact m_ref1 (d := d + 28) (f := -3) h (by decide)
    · rw [hu] at eJ eM
      have hx : aC (gS σ) c 4 = 0 := by
        rw [Bool.and_eq_true] at hu
        simpa [aX] using hu.1
      refine ⟨qI (zI (paidS (gS σ) c : Nat)), chS (remS σ) (useC (gS σ) c) (gN (remS σ)), fun d μ h => ?_, fun d μ h => ?_, ok.rem.ch (aOK_use ok.1 hc hx) (Nat.le_refl _)⟩
      · obtain ⟨μ1, r1, r2, r3⟩ := c_J_remember (d + 26) h ok
        obtain ⟨μ2, q1, q2, q3⟩ := c_Affair_spend (d + 27) (show 0 < 11 by decide) r2.1.1 ok.1 hc
        have ci := r2.st q2 q3
        refine ⟨μ2, ?_, ci.1, r3.tr ci.2⟩
        rw [eJ d μ h, if_neg (by decide), qb_J_use_37, r1, qbV_some]
        exact congrArg (fun z => qbI z _) q1
      · obtain ⟨μ1, r1, r2, r3⟩ := c_M_keepsBack (d + 26) h ok
        obtain ⟨μ2, q1, q2, q3⟩ := c_M_uses (d + 27) r2.1 ok.1 hc
        have ci := r2.st ok.rem q2 q3
        refine ⟨μ2, ?_, ci.1, r3.tr ci.2⟩
        rw [eM d μ h, if_neg (by decide), qb_M_use_26, if_pos zI0, qb_M_use_37, r1, qbV_some]
        exact congrArg (fun z => qbI z _) q1
  · refine ⟨qI (zI (-1)), refS σ 1, fun d μ h => ?_, fun d μ h => ?_, ok.ref⟩
    · rw [qe_J_use, qb_J_use_0, c_Affair_causeAtN (d + 28) (show 0 < 11 by decide) h.1.1 ok.1 (by rw [zI_int b1 b2]; omega), qbN_none]
      exact j_ref1 (d := d + 28) (f := -1) h (by decide)
    · rw [qe_M_use, qb_M_use_0, c_M_isCause (d + 28) h.1 ok.1 h1, qbI_some, decide_eq_false hz, if_pos (by decide), zI_of, qb_M_use_26, if_neg (by decide +kernel)]
      exact m_ref1 (d := d + 28) (f := -1) h (by decide)
theorem op_end {σ : GS} (ok : GOK σ) : OP 64 190 [] σ := by
  have bD := ok.1.1
  by_cases hz : aD (gS σ) < 83
  · refine ⟨qI (zI (aD (gS σ) + 1 : Nat)), chS (remS σ) (endD (gS σ)) (gN (remS σ)), fun d μ h => ?_, fun d μ h => ?_, ok.rem.ch (aOK_endD ok.1 hz) (Nat.le_refl _)⟩
    · obtain ⟨μ1, r1, r2, r3⟩ := c_J_remember (d + 26) h ok
      obtain ⟨μ2, q1, q2, q3⟩ := c_Affair_endDay (d + 26) (show 0 < 11 by decide) r2.1.1 ok.1
      have ci := r2.st q2 q3
      refine ⟨μ2, ?_, ci.1, r3.tr ci.2⟩
      rw [qe_J_end, qb_J_end_0, h.1.1.day, zI_of, if_pos (by rw [zI_lt (by omega)]; omega), qb_J_end_19, r1, qbV_some, q1, qbV_some, q3.day]
      rfl
    · obtain ⟨μ1, r1, r2, r3⟩ := c_M_keepsBack (d + 26) h ok
      obtain ⟨μ2, q1, q2, q3⟩ := c_M_ends (d + 27) r2.1 ok.1.e
      have ci := r2.st ok.rem q2 q3
      refine ⟨μ2, ?_, ci.1, r3.tr ci.2⟩
      rw [qe_M_end, qb_M_end_0, h.1.day, zI_of, if_neg (by rw [zI_eq (by omega)]; omega), qb_M_end_16, r1, qbV_some, q1, qbV_some, q3.day]
      rfl
  · refine ⟨qI (zI (-6)), refS σ 6, fun d μ h => ?_, fun d μ h => ?_, ok.ref⟩
    · rw [qe_J_end, qb_J_end_0, h.1.1.day]
      simp only [zI_of]
      rw [if_neg (by rw [zI_lt (by omega)]; omega)]
      exact j_ref1 (d := d + 28) (f := -6) h (by decide)
    · rw [qe_M_end, qb_M_end_0, h.1.day]
      simp only [zI_of]
      rw [if_pos (by rw [zI_eq (by omega)]; omega)]
      exact m_ref1 (d := d + 28) (f := -6) h (by decide)
theorem op_back {σ : GS} (ok : GOK σ) : OP 65 172 [] σ := by
  have h8 := ok.2.2.1
  by_cases hz : gN σ = 0
  · refine ⟨qI (zI (-3)), refS σ 3, fun d μ h => ?_, fun d μ h => ?_, ok.ref⟩
    · rw [qe_J_back, qb_J_back_0, h.c5]
      simp only [zI_of, zI_sub]
      rw [if_pos (by rw [zI_0, zI_lt (by omega)]; omega), qb_J_back_17, zI_of]
      exact j_ref1 (d := d + 28) (f := -3) h (by decide)
    · rw [qe_M_back, qb_M_back_0, h.2.2.1.2.1, if_pos (by rw [hz]; exact zI0), zI_of]
      exact m_ref1 (d := d + 28) (f := -3) h (by decide)
  · obtain ⟨l, hl⟩ : ∃ l, gN σ = l + 1 := ⟨gN σ - 1, by omega⟩
    have okl := ok.2.2.2.1 l (by omega)
    refine ⟨qI (zI (aD (gP σ l) : Nat)), chS σ (gP σ l) l, fun d μ h => ?_, fun d μ h => ?_, ok.ch okl (by omega)⟩
    · obtain ⟨-, a2, π, a3, a4, a5⟩ := h.1.2.2.1
      obtain ⟨p1, p2, p3⟩ := a3 l (by omega)
      obtain ⟨μ1, r1, r2, r3⟩ := c_Affair_copyFrom (d + 27) (j := 0) (j' := π l) (by decide) p3 (by omega) (a5 l (by omega)) okl
      have hd : Fr isHd μ1 (qsi μ1 (0, 0, 0) 5 (zI (l : Nat))) := Fr.si (Or.inl rfl)
      have ra := r3.hd hd
      refine ⟨qsi μ1 (0, 0, 0) 5 (zI (l : Nat)), ?_, h.ch (by omega) ((r2.mono fun a ha => Or.inl ha).si' (Or.inr rfl)) ra (qsi_self _ _ _ _) fun k hk => ?_⟩
      · rw [qe_J_back, qb_J_back_0, a2]
        simp only [zI_of, zI_sub]
        rw [if_neg (by rw [zI_0, zI_lt (by omega)]; omega), if_pos (by rw [zI_lt (by omega)]; omega), show ((gN σ : Nat) : Int) - 1 = (l : Nat) by omega, qb_J_back_24, zI_oob (n := 8) (by omega), cond_false, show qix (zI (l : Nat)) = l from zI_ixN (by omega), p1, qoN_some (qd2 p3), r1, qbV_some, ra.day]
      · rw [qsi_get, if_neg (fun z => hk z.2), r2.1 _ (isA_no (Or.inl rfl))]
    · obtain ⟨-, a2, a3⟩ := h.2.2.1
      have ks : KS (qsi μ (24, 0, 0) 24 (zI (l : Nat))) (2 + l) (gP σ l) := by
        unfold KS
        rw [qsi_ne (show ((40, 0, 0) : QA) ≠ (24, 0, 0) by decide)]
        exact a3 l (by omega)
      obtain ⟨μ1, r1, r2, r3, r4⟩ := c_M_putb (d + 27) ks okl.2.1 (by omega)
      refine ⟨μ1, ?_, h.ch ok (by omega) ((Fr.si (Or.inl rfl)).tr (r3.mono fun a ha => ?_)) r2 ?_ (fun k hk => ?_) fun x _ => ?_⟩
      · rw [qe_M_back, qb_M_back_0, a2, if_neg (by rw [zI_0, zI_eq (by omega)]; omega), qb_M_back_14, a2]
        simp only [zI_of, zI_sub]
        rw [show ((gN σ : Nat) : Int) - 1 = (l : Nat) by omega, qsi_self, zI_add, show (2 : Int) + (l : Nat) = ((2 + l : Nat) : Int) by omega, r1, qbV_some, r2.day]
      · rcases ha with q | q
        · exact Or.inl q
        · exact Or.inr (Or.inl q)
      · rw [r4 24 (by decide) (by decide) (by decide) (by decide), qsi_self]
      · rw [r4 k (by omega) (by omega) (by omega) (by omega), qsi_get, if_neg (by omega)]
      · rw [r3.1 _ (by simp), qsi_ne (by simp)]
def imS (σ : GS) : GS := (gS σ, some (gS σ), σ.2.2)
theorem op_image {σ : GS} (ok : GOK σ) : OP 66 173 [] σ := by
  have n12 := ok.1.2.1
  refine ⟨qI (zI (aD (gS σ) : Nat)), imS σ, fun d μ h => ?_, fun d μ h => ?_, ⟨ok.1, fun s hs => by cases hs; exact ok.1, ok.2.2⟩⟩
  · obtain ⟨μ1, r1, r2, r3⟩ := c_Affair_copyFrom (d + 27) (j := 2) (j' := 0) (by decide) (by decide) (by decide) h.1.1 ok.1
    have hd : Fr isHd μ1 (qsi μ1 (0, 0, 0) 3 (zI 1)) := Fr.si (Or.inl rfl)
    have hA : ∀ j s, j ≠ 2 → RA μ j s → RA (qsi μ1 (0, 0, 0) 3 (zI 1)) j s := fun j s hj q => (q.fr r2 fun a a1 a2 => hj (a1.2.symm.trans a2.2)).hd hd
    have e0 : ∀ k, k ≠ 3 → (qsi μ1 (0, 0, 0) 3 (zI 1)).1 (0, 0, 0) k = μ.1 (0, 0, 0) k := fun k hk => by
      rw [qsi_get, if_neg (fun z => hk z.2), r2.1 _ (isA_no (Or.inl rfl))]
    have e1 : ∀ t, 4 ≤ t → (qsi μ1 (0, 0, 0) 3 (zI 1)).1 (t, 0, 0) = μ.1 (t, 0, 0) := fun t ht => by
      rw [qsi_ne (by simp; omega), r2.1 _ (isA_no (Or.inr ht))]
    have f : Fr (fun a => isA 2 a ∨ isHd a) μ (qsi μ1 (0, 0, 0) 3 (zI 1)) := (r2.mono fun a ha => Or.inl ha).tr (hd.mono fun a ha => Or.inr ha)
    refine ⟨_, ?_, ⟨⟨hA 0 _ (by decide) h.1.1, ⟨qsi_self _ _ _ _, r3.hd hd⟩, h.1.2.2.1.cut (Nat.le_refl _) ((e0 5 (by decide)).trans h.c5) (r2.2.2 _ (isA_no (Or.inr (by decide)))) (fun j s hj => hA j s (by omega)), h.1.2.2.2.1.c (e0 7 (by decide)) (e1 18 (by decide)), h.1.2.2.2.2.1.c (e0 9 (by decide)) (e1 19 (by decide)), h.1.2.2.2.2.2.c (e1 20 (by decide))⟩, h.2.fr f fun t p c ht ht2 z => ?_⟩, f.mono fun a ha => ?_⟩
    · rw [qe_J_image, qb_J_image_0, r1, qbV_some, if_pos (Or.inr (by decide +kernel)), zI_of, (hA 0 _ (by decide) h.1.1).day]
    · rcases z with z | z
      · exact isA_no (Or.inr (by omega)) z
      · rcases z with z | z
        · simp at z; omega
        · dsimp only at z; omega
    · rcases ha with q | q
      · exact isA_cl a q
      · exact isHd_cl a q
  · have h1 : RM (qsi μ (24, 0, 0) 21 (zI 1)) (gS σ) := h.1.fld (by decide)
    obtain ⟨μ1, r1, r2, r3, r4, r5, r6⟩ := c_M_keep (d + 27) (k := 0) h1 n12 (by decide)
    have e40 : ∀ x, 80 ≤ x → μ1.1 (40, 0, 0) x = μ.1 (40, 0, 0) x := fun x hx => by rw [r6 x (by omega), qsi_ne (by simp)]
    have e1 : ∀ t, t ≠ 24 → t ≠ 40 → μ1.1 (t, 0, 0) = μ.1 (t, 0, 0) := fun t a b => by rw [r4.1 _ (by simp; omega), qsi_ne (by simp; omega)]
    have e24 : ∀ k, k ≠ 21 → k ≠ 22 → k ≠ 23 → μ1.1 (24, 0, 0) k = μ.1 (24, 0, 0) k := fun k a b c => by rw [r5 k b c, qsi_get, if_neg (by omega)]
    refine ⟨μ1, ?_, ⟨r2, ⟨(r5 21 (by decide) (by decide)).trans (qsi_self _ _ _ _), r3⟩, h.2.2.1.cut ok.2.2.2.1 (Nat.le_refl _) ((e24 24 (by decide) (by decide) (by decide)).trans h.2.2.1.2.1) (fun x hx => e40 x (by omega)), h.2.2.2.1.c (e24 17 (by decide) (by decide) (by decide)) (e1 36 (by decide) (by decide)), h.2.2.2.2.1.c (e24 33 (by decide) (by decide) (by decide)) (e1 45 (by decide) (by decide)), h.2.2.2.2.2.c (e1 25 (by decide) (by decide))⟩, ((Fr.si (show isMd (24, 0, 0) by unfold isMd; decide)).tr (r4.mono fun a ha => ?_))⟩
    · rw [qe_M_image, qb_M_image_0, if_pos (Or.inr (by decide +kernel))]
      simp only [zI_of]
      rw [show zI (0 : Int) = zI ((0 : Nat) : Int) from rfl, r1, qbV_some, r2.day]
    · unfold isMd
      rcases ha with q | q <;> rw [q] <;> decide
theorem op_restore {σ : GS} (ok : GOK σ) : OP 67 174 [] σ := by
  cases hg : gI σ with
  | none =>
    refine ⟨qI (zI (-3)), refS σ 3, fun d μ h => ?_, fun d μ h => ?_, ok.ref⟩
    · have p := h.1.2.1
      rw [hg] at p
      rw [qe_J_restore, qb_J_restore_0, show μ.1 (0, 0, 0) 3 = zI 0 from p, if_pos (by decide +kernel), zI_of]
      exact j_ref1 (d := d + 28) (f := -3) h (by decide)
    · have p := h.2.1
      rw [hg] at p
      rw [qe_M_restore, qb_M_restore_0, show μ.1 (24, 0, 0) 21 = zI 0 from p, if_pos (by decide +kernel), zI_of]
      exact m_ref1 (d := d + 28) (f := -3) h (by decide)
  | some s =>
    have oks := ok.2.1 s hg
    refine ⟨qI (zI (aD s : Nat)), chS σ s 0, fun d μ h => ?_, fun d μ h => ?_, ok.ch oks (Nat.zero_le _)⟩
    · have p := h.1.2.1
      rw [hg] at p
      obtain ⟨p1, p2⟩ := p
      obtain ⟨μ1, r1, r2, r3⟩ := c_Affair_copyFrom (d + 27) (j := 0) (j' := 2) (by decide) (by decide) (by decide) p2 oks
      have hd : Fr isHd μ1 (qsi μ1 (0, 0, 0) 5 (zI 0)) := Fr.si (Or.inl rfl)
      have ra := r3.hd hd
      refine ⟨qsi μ1 (0, 0, 0) 5 (zI 0), ?_, h.ch (Nat.zero_le _) ((r2.mono fun a ha => Or.inl ha).si' (Or.inr rfl)) ra (qsi_self _ _ _ _) fun k hk => ?_⟩
      · rw [qe_J_restore, qb_J_restore_0, p1, if_neg (by decide +kernel), qb_J_restore_14, r1, qbV_some, zI_of, ra.day]
      · rw [qsi_get, if_neg (fun z => hk z.2), r2.1 _ (isA_no (Or.inl rfl))]
    · have p := h.2.1
      rw [hg] at p
      obtain ⟨p1, p2⟩ := p
      obtain ⟨μ1, r1, r2, r3, r4⟩ := c_M_putb (d + 27) p2 oks.2.1 (by decide)
      refine ⟨qsi μ1 (24, 0, 0) 24 (zI 0), ?_, h.ch ok (Nat.zero_le _) (Fr.si' (r3.mono fun a ha => ?_) (Or.inl rfl)) (r2.fld (by decide)) (qsi_self _ _ _ _) (fun k hk => ?_) fun x _ => ?_⟩
      · rw [qe_M_restore, qb_M_restore_0, p1, if_neg (by decide +kernel), qb_M_restore_14]
        simp only [zI_of]
        rw [show qcall qprogs (d + 29) 170 [qR (24, 0, 0), qI (zI 0), qI (zI 0)] μ = _ from r1, qbV_some, qsi_get, if_neg (by decide), r2.day]
      · rcases ha with q | q
        · exact Or.inl q
        · exact Or.inr (Or.inl q)
      · rw [qsi_get, if_neg (by omega), r4 k (by omega) (by omega) (by omega) (by omega)]
      · rw [qsi_ne (by simp), r3.1 _ (by simp)]
end
