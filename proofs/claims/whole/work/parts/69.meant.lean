section
/-! meant -/
theorem shl12 : ∀ c : Nat, c < 12 → Int64.ofInt 1 <<< ((zI (c : Int)).toInt64 &&& 63) = lN (2 ^ c) := by decide +kernel
theorem wys_A {g : Nat → Nat → Bool} {m U : Nat} {A : Nat → Bool} (h : A = U.testBit) : pmn g m (fun _ => true) A = wys g m U := by rw [h]; rfl
theorem lN_leW {g : Nat → Nat → Bool} {m S T : Nat} (hm : m ≤ 8) : lN (wys g m S) ≤ lN (wys g m T) ↔ wys g m S ≤ wys g m T := by
  have a := wys_le (g := g) (B := S) hm
  have b := wys_le (g := g) (B := T) hm
  exact pk_lLE (by omega) (by omega)
theorem op_meant {σ : GS} (ok : GOK σ) {z1 z2 : Int} (h1 : iB z1) (h2 : iB z2) : OP 72 222 [qI (zI z1), qI (zI z2)] σ := by
  have b1 := h1.1
  have b2 := h1.2
  have b3 := h2.1
  have b4 := h2.2
  have n12 := ok.1.2.1
  have k12 := ok.2.2.2.2.2.2.1
  by_cases hz1 : z1 = 0 ∨ z1 = 1
  · have j13 : ∀ d μ, qcall qprogs (d + 30) 72 [qR (0, 0, 0), qI (zI z1), qI (zI z2)] μ = qx (d + 29) qc_J_meant 13 [some (qR (0, 0, 0)), some (qI (zI z1)), some (qI (zI z2)), none, none, none] [] μ := fun d μ => by
      rw [qe_J_meant, qb_J_meant_0, c_J_isNobody (d + 28) h1, qbI_some, decide_eq_true hz1, if_pos (by decide)]
    have m11 : ∀ d μ, qcall qprogs (d + 30) 222 [qR (24, 0, 0), qI (zI z1), qI (zI z2)] μ = qx (d + 29) qc_M_meant 11 [some (qR (24, 0, 0)), some (qI (zI z1)), some (qI (zI z2)), none, none, none, none, none, none, none, none, none, none] [] μ := fun d μ => by
      rw [qe_M_meant, qb_M_meant_0, c_M_isOne (d + 28) h1, qbI_some, decide_eq_true hz1, if_neg (by decide)]
    by_cases hz2 : 0 ≤ z2 ∧ z2 ≤ 2
    · obtain ⟨w, rfl, hw⟩ : ∃ w : Nat, z1 = w ∧ w < 2 := ⟨z1.toNat, by omega, by omega⟩
      have j29 : ∀ d μ, qx (d + 29) qc_J_meant 13 [some (qR (0, 0, 0)), some (qI (zI (w : Nat))), some (qI (zI z2)), none, none, none] [] μ = qx (d + 29) qc_J_meant 29 [some (qR (0, 0, 0)), some (qI (zI (w : Nat))), some (qI (zI z2)), none, none, none] [] μ := fun d μ => by
        rw [qb_J_meant_13, if_neg (by rw [zI_0, zI_lt (by omega)]; omega), zI_of, if_pos (by rw [zI_le (by omega)]; omega)]
      have m25 : ∀ d μ, qx (d + 29) qc_M_meant 11 [some (qR (24, 0, 0)), some (qI (zI (w : Nat))), some (qI (zI z2)), none, none, none, none, none, none, none, none, none, none] [] μ = qx (d + 29) qc_M_meant 25 [some (qR (24, 0, 0)), some (qI (zI (w : Nat))), some (qI (zI z2)), none, none, none, none, none, none, none, none, none, none] [] μ := fun d μ => by
        rw [qb_M_meant_11]
        simp only [zI_of]
        rw [c_M_isIn (d + 28) (by omega), qbI_some, show (decide ((0 : Int) ≤ z2) && decide (z2 ≤ 2)) = true by simp [hz2], if_neg (by decide)]
      have b0 := (ok.1.p hw).1
      cases hrw : (decide (gK σ ≤ 8) && rwD (gR σ) (aP (gS σ) w 0) (gK σ))
      · refine ⟨qL (lL (-3)), refS σ 3, fun d μ h => ?_, fun d μ h => ?_, ok.ref⟩
        · rw [j13 d μ, j29 d μ, qb_J_meant_29, c_Affair_person (d + 28) (show 0 < 11 by decide) hw, qbR_some (qd3 (by decide) hw), h.1.1.p 0 hw, c_J_isRowOfDays (d + 27) h ok b0, qbI_some, hrw, if_pos (show qB false = 0 from zI0), zI_of]
          exact j_refL (d := d + 27) (f := -3) h (by decide)
        · rw [m11 d μ, m25 d μ, qb_M_meant_25, c_M_areDaysOf (d + 28) h ok hw, qbI_some, hrw, if_pos (show qB false = 0 from zI0), zI_of, qb_M_meant_39, if_neg (by decide)]
          exact m_refL (d := d + 28) (f := -3) h (by decide)
      · have hrw2 := hrw
        rw [Bool.and_eq_true, decide_eq_true_iff] at hrw2
        obtain ⟨k8, hrow⟩ := hrw2
        obtain ⟨g, hg⟩ : ∃ g, g = fun i c => aF (gS σ) c (gR σ i) := ⟨_, rfl⟩
        obtain ⟨U, hU⟩ : ∃ U, U = unS (gS σ) w := ⟨_, rfl⟩
        have U12 : U < 4096 := by rw [hU]; exact unS_lt n12
        have Un : ∀ c, U.testBit c = true → c < aN (gS σ) := fun c hc => by rw [hU] at hc; exact unS_n hc
        refine ⟨qL (if z2 = 0 then lN (wys g (gK σ) U) else lN (mk ((if z2 = 1 then inA else inSm) g (gK σ) U) 12)), σ, fun d μ h => ?_, fun d μ h => ?_, ok⟩
        · obtain ⟨pn, m0, D0, pd0⟩ := h.2 w hw
          obtain ⟨μ1, r1, r2, r3, r4⟩ := c_Plan_takeDays (d + 27) hw h ok
          obtain ⟨μ2, Q, s1, s2, s3, s4, s5, s6, s7⟩ := c_Plan_takeCauses (d + 26) hw (show 0 < 11 by decide) (h.1.1.pl r2) ok.1 (S := U) U12 Un r3 r4
          have pp : PP μ2 w (gS σ) (gK σ) (gR σ) U Q := ⟨s3, s4, s5, s6, s7⟩
          have ci := h.pp (r2.tr s2) pp
          have back : ∀ μ3, FrL μ2 μ3 → CI μ3 σ ∧ Fr isCl μ μ3 := fun μ3 f => by
            have pp3 : PP μ3 w (gS σ) (gK σ) (gR σ) U Q := ⟨s3.l f.1, s4.congr (fun c => by rw [f.1]), s5.l f.1, s6.congr (by rw [f.1]) (by rw [f.2.1]), s7⟩
            refine ⟨⟨ci.1.1.x f.x, fun p hp => ?_⟩, ci.2.tr (f.x.mono fun a ha => ?_)⟩
            · obtain ⟨q1, q2, q3, q4⟩ := ci.1.2 p hp
              exact ⟨q1.congr (fun c => by rw [f.1]), q2, q3, q4.l f.1⟩
            · unfold isCl
              rcases ha with q | q | q | q
              · have := q.2; omega
              · rcases q.1 with e | e | e <;> omega
              · omega
              · omega
          obtain ⟨μ3, t1, t2⟩ := c_Plan_waysOf (d + 27) hw k8 s3 s5 (B := U) (fun c hc => hc) U12
          rw [← hg] at t1
          rw [j13 d μ, j29 d μ, qb_J_meant_29, c_Affair_person (d + 28) (show 0 < 11 by decide) hw, qbR_some (qd3 (by decide) hw), h.1.1.p 0 hw, c_J_isRowOfDays (d + 27) h ok b0, qbI_some, hrw, if_neg (show ¬ qB true = 0 by decide), qb_J_meant_54, c_J_planOf (d + 28) hw, qbR_some (qd5 hw), h.1.2.2.2.2.1.1, r1, qbV_some, c_Affair_unusedFor (d + 28) (show 0 < 11 by decide) (h.1.1.pl r2) ok.1 hw, qbI_some]
          rw [show mk (fun c => aX (gS σ) c && decide (aC (gS σ) c 2 = w)) (aN (gS σ)) = U from hU.symm, s1, qbV_some, s5.2.1, t1, qbL_some]
          by_cases e0 : z2 = 0
          · rw [if_pos (by rw [e0]; exact zI0), if_pos e0, qb_J_meant_128]
            exact ⟨μ3, rfl, back μ3 t2⟩
          · have go : ∀ b : Bool, (z2 = 1 ↔ b = true) → ∃ μ4, qx (d + 29) qc_J_meant 125 [none, none, none, none, none, none] [qI (qB b), qL (lN (wys g (gK σ) U)), qR (5, w, 0), qR (0, 0, 0)] μ3 = some (some (qL (lN (mk ((if z2 = 1 then inA else inSm) g (gK σ) U) 12))), μ4) ∧ CI μ4 σ ∧ Fr isCl μ μ4 := fun b hb => by
              obtain ⟨μ4, u1, u2⟩ := c_J_meantCauses (d + 26) (b := b) hw k8 (s3.l t2.1) (s5.l t2.1)
              rw [← hg] at u1
              refine ⟨μ4, ?_, back μ4 (t2.tr u2)⟩
              rw [qb_J_meant_125, u1, qbL_some, qb_J_meant_128]
              by_cases e1 : z2 = 1
              · rw [if_pos e1, if_pos (hb.mp e1)]
              · rw [if_neg e1, if_neg (fun z => e1 (hb.mpr z))]
            rw [if_neg (by rw [zI_0, zI_eq (by omega)]; exact e0), if_neg e0, qb_J_meant_111, zI_of]
            by_cases e1 : z2 = 1
            · rw [if_pos (by rw [e1])]
              exact go true (by simp [e1])
            · rw [if_neg (by rw [zI_eq (by omega)]; exact e1), qb_J_meant_124, zI_of]
              exact go false (by simp [e1])
        · obtain ⟨μ1, r1, r2⟩ := c_M_waysWithout (d + 24) (out := -9) h ok hw (by decide) k8 hrow
          rw [← hg, ← hU, wys_A (U := U) (by funext c; rw [decide_eq_false (by omega)]; simp)] at r1
          rw [m11 d μ, m25 d μ, qb_M_meant_25, c_M_areDaysOf (d + 28) h ok hw, qbI_some, hrw, if_neg (show ¬ qB true = 0 by decide), qb_M_meant_38, qb_M_meant_39, zI_of, if_pos zI0, qb_M_meant_50, zI_of, r1, qbL_some]
          by_cases e0 : z2 = 0
          · rw [if_pos (by rw [e0]; exact zI0), if_pos e0]
            exact ⟨μ1, rfl, h.w ok r2⟩
          · have L : ∀ r c (μ2 : QM), c + r = aN (gS σ) → FrW μ μ2 → ∃ μ3, qx (d + 29) qc_M_meant 75 [some (qR (24, 0, 0)), some (qI (zI (w : Nat))), some (qI (zI z2)), none, some (qL (lN (wys g (gK σ) U))), none, some (qL (lN (mk (inA g (gK σ) U) c))), none, some (qL (lN (mk (inSm g (gK σ) U) c))), none, some (qI (zI (c : Nat))), none, none] [] μ2 = qx (d + 29) qc_M_meant 165 [none, none, some (qI (zI z2)), none, none, none, some (qL (lN (mk (inA g (gK σ) U) (aN (gS σ))))), none, some (qL (lN (mk (inSm g (gK σ) U) (aN (gS σ))))), none, none, none, none] [] μ3 ∧ FrW μ μ3 := by
              intro r
              induction r with
              | zero =>
                intro c μ2 hc hF
                have hm := h.1.w1 hF.1
                rw [qb_M_meant_75, hm.cnt, if_pos (by rw [zI_le (by omega)]; omega), show c = aN (gS σ) by omega]
                exact ⟨μ2, rfl, hF⟩
              | succ r ih =>
                intro c μ2 hc hF
                have hm := h.1.w1 hF.1
                have cn : c < aN (gS σ) := by omega
                have bw := (ok.1.c cn).2.2.1
                have bu := (ok.1.c cn).2.2.2.2
                have skip : U.testBit c = false → ∃ μ3, qx (d + 29) qc_M_meant 159 [some (qR (24, 0, 0)), some (qI (zI (w : Nat))), some (qI (zI z2)), none, some (qL (lN (wys g (gK σ) U))), none, some (qL (lN (mk (inA g (gK σ) U) c))), none, some (qL (lN (mk (inSm g (gK σ) U) c))), none, some (qI (zI (c : Nat))), none, none] [] μ2 = qx (d + 29) qc_M_meant 165 [none, none, some (qI (zI z2)), none, none, none, some (qL (lN (mk (inA g (gK σ) U) (aN (gS σ))))), none, some (qL (lN (mk (inSm g (gK σ) U) (aN (gS σ))))), none, none, none, none] [] μ3 ∧ FrW μ μ3 := fun hb => by
                  have i1 := ih (c + 1) μ2 (by omega) hF
                  rw [mk_f (by unfold inA; rw [hb]; rfl), mk_f (by unfold inSm; rw [hb]; rfl)] at i1
                  rw [qb_M_meant_159, zI_of, zI_add]
                  exact i1
                rw [qb_M_meant_75, hm.cnt, if_neg (by rw [zI_le (by omega)]; omega), zI_oob (n := 12) (by omega), cond_false, show qix (zI (c : Nat)) = c from zI_ixN (by omega), hm.wh cn, cond_false, hm.us cn, zI_of]
                by_cases q1 : aC (gS σ) c 2 = w
                · rw [if_pos (by rw [q1])]
                  by_cases q2 : aC (gS σ) c 4 = 1
                  · rw [if_pos (by rw [q2]; rfl)]
                    exact skip (by rw [hU, unS_bit]; unfold aX; rw [decide_eq_false (show ¬ aC (gS σ) c 4 = 0 by omega)]; simp)
                  · have hb : U.testBit c = true := by rw [hU, unS_bit]; unfold aX; rw [decide_eq_true cn, decide_eq_true (show aC (gS σ) c 4 = 0 by omega), decide_eq_true q1]; rfl
                    have c12 : c < 12 := by omega
                    obtain ⟨μ3, t1, t2⟩ := c_M_waysWithout (d + 24) (out := (c : Nat)) (h.w ok hF).1 ok hw (by omega) k8 hrow
                    rw [← hg, ← hU, wys_A (U := nd U (2 ^ c)) (by
                      funext x
                      rw [nd2 U12]
                      by_cases e : x = c
                      · subst e; simp
                      · rw [decide_eq_false (by omega), decide_eq_false (fun z => e z.symm)])] at t1
                    have i1 := ih (c + 1) μ3 (by omega) (hF.tr t2)
                    have le := wys_nd (g := g) (m := gK σ) U12 c12 hb
                    rw [if_neg (by rw [zI_eq (by omega)]; omega), qb_M_meant_109, t1, qbL_some, shl12 c c12]
                    have e135 : (if lg_cmp (lN (wys g (gK σ) (nd U (2 ^ c)))) (Int64.ofInt 0) = 0 then qx (d + 29) qc_M_meant 135 [some (qR (24, 0, 0)), some (qI (zI (w : Nat))), some (qI (zI z2)), none, some (qL (lN (wys g (gK σ) U))), none, none, none, some (qL (lN (mk (inSm g (gK σ) U) c))), none, some (qI (zI (c : Nat))), some (qL (lN (wys g (gK σ) (nd U (2 ^ c))))), none] [qL (lN (2 ^ c)), qL (lN (mk (inA g (gK σ) U) c))] μ3 else qx (d + 29) qc_M_meant 134 [some (qR (24, 0, 0)), some (qI (zI (w : Nat))), some (qI (zI z2)), none, some (qL (lN (wys g (gK σ) U))), none, none, none, some (qL (lN (mk (inSm g (gK σ) U) c))), none, some (qI (zI (c : Nat))), some (qL (lN (wys g (gK σ) (nd U (2 ^ c))))), none] [qL (lN (mk (inA g (gK σ) U) c))] μ3) = qx (d + 29) qc_M_meant 135 [some (qR (24, 0, 0)), some (qI (zI (w : Nat))), some (qI (zI z2)), none, some (qL (lN (wys g (gK σ) U))), none, none, none, some (qL (lN (mk (inSm g (gK σ) U) c))), none, some (qI (zI (c : Nat))), some (qL (lN (wys g (gK σ) (nd U (2 ^ c))))), none] [qL (lN (if inA g (gK σ) U c = true then 2 ^ c else 0)), qL (lN (mk (inA g (gK σ) U) c))] μ3 := by
                      unfold inA
                      rw [hb, Bool.true_and]
                      by_cases q : wys g (gK σ) (nd U (2 ^ c)) = 0
                      · rw [if_pos (by rw [lg_cmp_eq, lN_eqz k8]; exact q), decide_eq_true q, if_pos rfl]
                      · rw [if_neg (by rw [lg_cmp_eq, lN_eqz k8]; exact q), decide_eq_false q, if_neg (by decide), qb_M_meant_134]; rfl
                    have oA : lN (mk (inA g (gK σ) U) c) ||| lN (if inA g (gK σ) U c = true then 2 ^ c else 0) = lN (mk (inA g (gK σ) U) (c + 1)) := by
                      rw [lN_or]
                      cases hx : inA g (gK σ) U c
                      · rw [mk_f hx, if_neg (by decide), Nat.or_zero]
                      · rw [mk_t hx, if_pos rfl, mk_or]
                    rw [e135, qb_M_meant_135, oA]
                    have e156 : (if 0 ≤ lg_cmp (lN (wys g (gK σ) (nd U (2 ^ c)))) (lN (wys g (gK σ) U)) then qx (d + 29) qc_M_meant 155 [some (qR (24, 0, 0)), some (qI (zI (w : Nat))), some (qI (zI z2)), none, some (qL (lN (wys g (gK σ) U))), none, some (qL (lN (mk (inA g (gK σ) U) (c + 1)))), none, none, none, some (qI (zI (c : Nat))), none, none] [qL (lN (mk (inSm g (gK σ) U) c))] μ3 else qx (d + 29) qc_M_meant 156 [some (qR (24, 0, 0)), some (qI (zI (w : Nat))), some (qI (zI z2)), none, some (qL (lN (wys g (gK σ) U))), none, some (qL (lN (mk (inA g (gK σ) U) (c + 1)))), none, none, none, some (qI (zI (c : Nat))), none, none] [qL (Int64.ofInt 1 <<< ((zI (c : Nat)).toInt64 &&& 63)), qL (lN (mk (inSm g (gK σ) U) c))] μ3) = qx (d + 29) qc_M_meant 156 [some (qR (24, 0, 0)), some (qI (zI (w : Nat))), some (qI (zI z2)), none, some (qL (lN (wys g (gK σ) U))), none, some (qL (lN (mk (inA g (gK σ) U) (c + 1)))), none, none, none, some (qI (zI (c : Nat))), none, none] [qL (lN (if inSm g (gK σ) U c = true then 2 ^ c else 0)), qL (lN (mk (inSm g (gK σ) U) c))] μ3 := by
                      unfold inSm
                      rw [hb, Bool.true_and]
                      by_cases q : wys g (gK σ) (nd U (2 ^ c)) < wys g (gK σ) U
                      · rw [if_neg (by rw [lg_cmp_ge, lN_leW k8]; omega), decide_eq_true q, if_pos rfl, shl12 c c12]
                      · rw [if_pos (by rw [lg_cmp_ge, lN_leW k8]; omega), decide_eq_false q, if_neg (by decide), qb_M_meant_155]; rfl
                    have oS : lN (mk (inSm g (gK σ) U) c) ||| lN (if inSm g (gK σ) U c = true then 2 ^ c else 0) = lN (mk (inSm g (gK σ) U) (c + 1)) := by
                      rw [lN_or]
                      cases hx : inSm g (gK σ) U c
                      · rw [mk_f hx, if_neg (by decide), Nat.or_zero]
                      · rw [mk_t hx, if_pos rfl, mk_or]
                    rw [e156, qb_M_meant_156, oS, qb_M_meant_159, zI_of, zI_add]
                    exact i1
                · rw [if_neg (by rw [zI_eq (by omega)]; omega)]
                  exact skip (by rw [hU, unS_bit, decide_eq_false q1]; simp)
            obtain ⟨μ2, u1, u2⟩ := L (aN (gS σ)) 0 μ1 (by omega) r2
            have cutA : mk (inA g (gK σ) U) 12 = mk (inA g (gK σ) U) (aN (gS σ)) := by
              have := mk_cut (p := inA g (gK σ) U) (N := aN (gS σ)) (fun c hc => by
                unfold inA
                rw [hU, unS_bit, decide_eq_false (by omega)]; rfl) (12 - aN (gS σ))
              rw [show aN (gS σ) + (12 - aN (gS σ)) = 12 by omega] at this
              exact this
            have cutS : mk (inSm g (gK σ) U) 12 = mk (inSm g (gK σ) U) (aN (gS σ)) := by
              have := mk_cut (p := inSm g (gK σ) U) (N := aN (gS σ)) (fun c hc => by
                unfold inSm
                rw [hU, unS_bit, decide_eq_false (by omega)]; rfl) (12 - aN (gS σ))
              rw [show aN (gS σ) + (12 - aN (gS σ)) = 12 by omega] at this
              exact this
            refine ⟨μ2, ?_, h.w ok u2⟩
            rw [if_neg (by rw [zI_0, zI_eq (by omega)]; exact e0), if_neg e0, qb_M_meant_66, zI_of]
            refine (show _ = _ from u1).trans ?_
            rw [qb_M_meant_165, zI_of]
            by_cases e1 : z2 = 1
            · rw [if_pos (by rw [e1]), if_pos e1, cutA, qb_M_meant_177]
            · rw [if_neg (by rw [zI_eq (by omega)]; exact e1), if_neg e1, cutS, qb_M_meant_175, qb_M_meant_177]
    · refine ⟨qL (lL (-2)), refS σ 2, fun d μ h => ?_, fun d μ h => ?_, ok.ref⟩
      · have e22 : qx (d + 29) qc_J_meant 13 [some (qR (0, 0, 0)), some (qI (zI z1)), some (qI (zI z2)), none, none, none] [] μ = qx (d + 29) qc_J_meant 22 [some (qR (0, 0, 0)), none, none, none, none, none] [] μ := by
          rw [qb_J_meant_13]
          by_cases e : z2 < 0
          · rw [if_pos (by rw [zI_0, zI_lt (by omega)]; exact e)]
          · rw [if_neg (by rw [zI_0, zI_lt (by omega)]; exact e), zI_of, if_neg (by rw [zI_le (by omega)]; omega)]
        rw [j13 d μ, e22, qb_J_meant_22, zI_of]
        exact j_refL (d := d + 27) (f := -2) h (by decide)
      · rw [m11 d μ, qb_M_meant_11]
        simp only [zI_of]
        rw [c_M_isIn (d + 28) (by omega), qbI_some, show (decide ((0 : Int) ≤ z2) && decide (z2 ≤ 2)) = false by rw [← Bool.decide_and]; exact decide_eq_false hz2, if_pos (by decide), qb_M_meant_39, if_neg (by decide)]
        exact m_refL (d := d + 28) (f := -2) h (by decide)
  · refine ⟨qL (lL (-1)), refS σ 1, fun d μ h => ?_, fun d μ h => ?_, ok.ref⟩
    · rw [qe_J_meant, qb_J_meant_0, c_J_isNobody (d + 28) h1, qbI_some, decide_eq_false hz1, if_neg (by decide), zI_of]
      exact j_refL (d := d + 27) (f := -1) h (by decide)
    · rw [qe_M_meant, qb_M_meant_0, c_M_isOne (d + 28) h1, qbI_some, decide_eq_false hz1, if_pos (by decide), zI_of, qb_M_meant_39, if_neg (by decide)]
      exact m_refL (d := d + 28) (f := -1) h (by decide)
end
