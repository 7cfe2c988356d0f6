/-! laid out by hand -/
def hndP (P : Nat → Bool) (T : Nat → Nat) : Nat → Option Nat
  | 0 => none
  | n + 1 => if P n = true then (match hndP P T n with
      | none => some n
      | some b => if T n < T b then some n else some b) else hndP P T n
theorem hndF_P (s : AS) (w d : Nat) (tk : Nat → Bool) : ∀ n, hndF s w d tk n = hndP (fun c => decide (aC s c 2 = w) && (aX s c && (!tk c && aF s c d))) (aT s) n
  | 0 => rfl
  | n + 1 => by
    unfold hndF hndP
    rw [hndF_P s w d tk n] <;> rfl
theorem hndP_congr {P P' : Nat → Bool} {T : Nat → Nat} : ∀ n, (∀ c, c < n → P c = P' c) → hndP P T n = hndP P' T n
  | 0, _ => rfl
  | n + 1, h => by
    unfold hndP
    rw [hndP_congr n (fun c hc => h c (by omega)), h n (by omega)]
theorem hndP_cut {P : Nat → Bool} {T : Nat → Nat} {N : Nat} (h : ∀ c, N ≤ c → P c = false) : ∀ k, hndP P T (N + k) = hndP P T N
  | 0 => rfl
  | k + 1 => by
    show (if P (N + k) = true then _ else hndP P T (N + k)) = _
    rw [h (N + k) (by omega), if_neg (by decide), hndP_cut h k]
theorem hndP_is {P : Nat → Bool} {T : Nat → Nat} {b : Nat} : ∀ n, hndP P T n = some b → b < n ∧ P b = true
  | 0, h => by cases h
  | n + 1, h => by
    unfold hndP at h
    split at h
    · rename_i hc
      have key : some n = some b → b < n + 1 ∧ P b = true := by
        intro e; cases e; exact ⟨by omega, hc⟩
      cases hq : hndP P T n with
      | none => rw [hq] at h; exact key h
      | some b' =>
        rw [hq] at h
        have q := hndP_is n hq
        dsimp only at h
        split at h
        · exact key h
        · cases h; exact ⟨by omega, q.2⟩
    · have q := hndP_is n h
      exact ⟨by omega, q.2⟩
/-- the causes taken before a day; a day's cause -/
def hT (s : AS) (w : Nat) (D : Nat → Nat) : Nat → Nat
  | 0 => 0
  | i + 1 => match hndF s w (D i) (hT s w D i).testBit (aN s) with
    | none => hT s w D i
    | some c => hT s w D i ||| 2 ^ c
def hH (s : AS) (w : Nat) (D : Nat → Nat) (i : Nat) : Option Nat := hndF s w (D i) (hT s w D i).testBit (aN s)
theorem hT_s (s : AS) (w : Nat) (D : Nat → Nat) (i : Nat) : hT s w D (i + 1) = match hH s w D i with
    | none => hT s w D i
    | some c => hT s w D i ||| 2 ^ c := rfl
theorem hH_lt {s : AS} {w c i : Nat} {D : Nat → Nat} (h : hH s w D i = some c) : c < aN s := (hndF_lt _ _ h).1
theorem hT_lt {s : AS} {w : Nat} {D : Nat → Nat} (hn : aN s ≤ 12) : ∀ i, hT s w D i < 2 ^ 12
  | 0 => by show 0 < 2 ^ 12; decide
  | i + 1 => by
    have ih := hT_lt (w := w) (D := D) hn i
    rw [hT_s]
    cases hq : hH s w D i with
    | none => exact ih
    | some c =>
      have := hH_lt hq
      exact Nat.or_lt_two_pow ih (Nat.pow_lt_pow_right (by decide) (by omega))
theorem c_Plan_soonestOn (d : Nat) {p m S i left : Nat} {D : Nat → Nat} {s : AS} {Q : List Nat} {μ : QM} (hp : p < 2) (ok : aOK s) (h : PP μ p s m D S Q) (hn : ∀ c, S.testBit c = true → c < aN s) (hl : ∀ c, left.testBit c = true → S.testBit c = true) (hi : i < 12) :
    qcall qprogs (d + 1) 43 [qR (5, p, 0), qI (zI (i : Nat)), qI (zI (left : Nat))] μ = some (some (qI (zI (onI (hndP (fun c => left.testBit c && gB s m D c i) (aT s) 12)))), μ) := by
  have L : ∀ k c, c + k = 12 → qx d qc_Plan_soonestOn 8 [some (qR (5, p, 0)), some (qI (zI (i : Nat))), some (qI (zI (left : Nat))), some (qI (zI (onI (hndP (fun c => left.testBit c && gB s m D c i) (aT s) c)))), some (qI (zI (onT s (hndP (fun c => left.testBit c && gB s m D c i) (aT s) c)))), some (qI (zI (c : Nat))), none] [] μ = some (some (qI (zI (onI (hndP (fun c => left.testBit c && gB s m D c i) (aT s) 12)))), μ) := by
    intro k
    induction k with
    | zero =>
      intro c hc
      rw [qb_Plan_soonestOn_8]
      simp (disch := omega) only [zI_of, zI_0, zI_1, zI_add, zI_sub, zI_mul, zI_neg, zI_lt, zI_le, zI_eq, zI_rem, zI_oob, zI_ixN, zI_ix, zI_ite, zI10, zI01, Int.toNat_natCast, cond_false, cond_true, q01_0, q01_1, q01_0z, q01_1z, qB_if, qB_ifz, qB_ret, qB_retz, qbI_some, qbV_some, qbL_some, qbR_some, qbN_some, qbN_none, true_or, or_true, false_or, or_false, if_true, if_false, Int.reduceEq, Int.reduceLT, Int.reduceLE, Int.reduceNeg, qb_Plan_soonestOn_78]
      rw [if_pos (by omega), show c = 12 by omega]
    | succ k ih =>
      intro c hc
      have i1 := ih (c + 1) (by omega)
      have skip : (left.testBit c && gB s m D c i) = false → qx d qc_Plan_soonestOn 72 [some (qR (5, p, 0)), some (qI (zI (i : Nat))), some (qI (zI (left : Nat))), some (qI (zI (onI (hndP (fun c => left.testBit c && gB s m D c i) (aT s) c)))), some (qI (zI (onT s (hndP (fun c => left.testBit c && gB s m D c i) (aT s) c)))), some (qI (zI (c : Nat))), none] [] μ = some (some (qI (zI (onI (hndP (fun c => left.testBit c && gB s m D c i) (aT s) 12)))), μ) := fun hb => by
        rw [qb_Plan_soonestOn_72]
        simp (disch := omega) only [zI_of, zI_0, zI_1, zI_add, zI_sub, zI_mul, zI_neg, zI_lt, zI_le, zI_eq, zI_rem, zI_oob, zI_ixN, zI_ix, zI_ite, zI10, zI01, Int.toNat_natCast, cond_false, cond_true, q01_0, q01_1, q01_0z, q01_1z, qB_if, qB_ifz, qB_ret, qB_retz, qbI_some, qbV_some, qbL_some, qbR_some, qbN_some, qbN_none, true_or, or_true, false_or, or_false, if_true, if_false, Int.reduceEq, Int.reduceLT, Int.reduceLE, Int.reduceNeg]
        have e : hndP (fun c => left.testBit c && gB s m D c i) (aT s) (c + 1) = hndP (fun c => left.testBit c && gB s m D c i) (aT s) c := by
          show (if (left.testBit c && gB s m D c i) = true then _ else _) = _
          rw [hb, if_neg (by decide)]
        rw [e] at i1
        exact i1
      rw [qb_Plan_soonestOn_8]
      simp (disch := omega) only [zI_of, zI_0, zI_1, zI_add, zI_sub, zI_mul, zI_neg, zI_lt, zI_le, zI_eq, zI_rem, zI_oob, zI_ixN, zI_ix, zI_ite, zI10, zI01, Int.toNat_natCast, cond_false, cond_true, q01_0, q01_1, q01_0z, q01_1z, qB_if, qB_ifz, qB_ret, qB_retz, qbI_some, qbV_some, qbL_some, qbR_some, qbN_some, qbN_none, true_or, or_true, false_or, or_false, if_true, if_false, Int.reduceEq, Int.reduceLT, Int.reduceLE, Int.reduceNeg, zI_31, zI_bit, zI_and, tb_if]
      rw [if_neg (by omega)]
      cases hb : left.testBit c
      · exact skip (by rw [hb]; rfl)
      · simp only [cond_true]
        obtain ⟨-, f1, f2, f3⟩ := h.2.2.1.2.2 c (hl c hb)
        rw [f3]
        simp (disch := omega) only [zI_of, zI_0, zI_1, zI_add, zI_sub, zI_mul, zI_neg, zI_lt, zI_le, zI_eq, zI_rem, zI_oob, zI_ixN, zI_ix, zI_ite, zI10, zI01, Int.toNat_natCast, cond_false, cond_true, q01_0, q01_1, q01_0z, q01_1z, qB_if, qB_ifz, qB_ret, qB_retz, qbI_some, qbV_some, qbL_some, qbR_some, qbN_some, qbN_none, true_or, or_true, false_or, or_false, if_true, if_false, Int.reduceEq, Int.reduceLT, Int.reduceLE, Int.reduceNeg, zI_31, zI_bit, zI_and, tb_if]
        cases hg : (gdB s m D c).testBit i
        · exact skip (by unfold gB; rw [hg, Bool.and_false])
        · simp only [cond_true]
          have bT := aT_le ok (hn c (hl c hb))
          have take : hndP (fun c => left.testBit c && gB s m D c i) (aT s) (c + 1) = some c → qx d qc_Plan_soonestOn 62 [some (qR (5, p, 0)), some (qI (zI (i : Nat))), some (qI (zI (left : Nat))), none, none, some (qI (zI (c : Nat))), some (qR (6, p, c))] [] μ = some (some (qI (zI (onI (hndP (fun c => left.testBit c && gB s m D c i) (aT s) 12)))), μ) := fun e => by
            rw [qb_Plan_soonestOn_62, f2, qb_Plan_soonestOn_72]
            simp (disch := omega) only [zI_of, zI_0, zI_1, zI_add, zI_sub, zI_mul, zI_neg, zI_lt, zI_le, zI_eq, zI_rem, zI_oob, zI_ixN, zI_ix, zI_ite, zI10, zI01, Int.toNat_natCast, cond_false, cond_true, q01_0, q01_1, q01_0z, q01_1z, qB_if, qB_ifz, qB_ret, qB_retz, qbI_some, qbV_some, qbL_some, qbR_some, qbN_some, qbN_none, true_or, or_true, false_or, or_false, if_true, if_false, Int.reduceEq, Int.reduceLT, Int.reduceLE, Int.reduceNeg]
            rw [e] at i1
            exact i1
          have e0 : hndP (fun c => left.testBit c && gB s m D c i) (aT s) (c + 1) = (match hndP (fun c => left.testBit c && gB s m D c i) (aT s) c with
              | none => some c
              | some b => if aT s c < aT s b then some c else some b) := by
            show (if (left.testBit c && gB s m D c i) = true then _ else _) = _
            rw [if_pos (by unfold gB; rw [hb, hg]; rfl)]
          rw [qb_Plan_soonestOn_48, f2]
          cases hq : hndP (fun c => left.testBit c && gB s m D c i) (aT s) c with
          | none =>
            rw [hq] at e0
            have o0 : onI none = -1 := rfl
            rw [o0, if_pos (by rw [zI_0, zI_lt (by omega)]; omega)]
            exact take e0
          | some b =>
            rw [hq] at e0
            have hbb := (hndP_is _ hq).2
            rw [Bool.and_eq_true] at hbb
            have bb := hndP_is _ hq
            have bT2 := aT_le ok (hn b (hl b hbb.1))
            have o1 : onI (some b) = b := rfl
            have o2 : onT s (some b) = aT s b := rfl
            rw [o1, o2]
            rw [if_neg (by rw [zI_0, zI_lt (by omega)]; omega)]
            by_cases hlt : aT s c < aT s b
            · rw [if_neg (by rw [zI_le (by omega)]; omega)]
              exact take (by rw [e0]; exact if_pos hlt)
            · rw [if_pos (by rw [zI_le (by omega)]; omega), qb_Plan_soonestOn_72]
              simp (disch := omega) only [zI_of, zI_0, zI_1, zI_add, zI_sub, zI_mul, zI_neg, zI_lt, zI_le, zI_eq, zI_rem, zI_oob, zI_ixN, zI_ix, zI_ite, zI10, zI01, Int.toNat_natCast, cond_false, cond_true, q01_0, q01_1, q01_0z, q01_1z, qB_if, qB_ifz, qB_ret, qB_retz, qbI_some, qbV_some, qbL_some, qbR_some, qbN_some, qbN_none, true_or, or_true, false_or, or_false, if_true, if_false, Int.reduceEq, Int.reduceLT, Int.reduceLE, Int.reduceNeg]
              rw [show hndP (fun c => left.testBit c && gB s m D c i) (aT s) (c + 1) = some b by rw [e0]; exact if_neg hlt] at i1
              exact i1
  rw [qe_Plan_soonestOn (h0 := qd5 hp), qb_Plan_soonestOn_0]
  simp only [zI_of]
  exact L 12 0 (by omega)
def FrH (p : Nat) (μ μ' : QM) : Prop := (∀ a, a ≠ (11, p, 0) → μ'.1 a = μ.1 a) ∧ μ'.2 = μ.2
theorem FrH.rf {p : Nat} {μ : QM} : FrH p μ μ := ⟨fun _ _ => rfl, rfl⟩
theorem FrH.si {p i : Nat} {μ μ1 : QM} {v : Int32} (h : FrH p μ μ1) : FrH p μ (qsi μ1 (11, p, 0) i v) := ⟨fun a ha => by rw [qsi_ne ha]; exact h.1 a ha, h.2⟩
theorem FrH.pl {p : Nat} {μ μ' : QM} (h : FrH p μ μ') : Fr (isPl p) μ μ' := ⟨fun a ha => h.1 a fun e => ha (by rw [e]; exact isPl_of (by decide)), fun a _ => by rw [h.2], fun a _ => by rw [h.2]⟩
theorem PP.h {p m S : Nat} {s : AS} {D : Nat → Nat} {Q : List Nat} {μ μ' : QM} (h : PP μ p s m D S Q) (f : FrH p μ μ') : PP μ' p s m D S Q := by
  have e5 : μ'.1 (5, p, 0) = μ.1 (5, p, 0) := f.1 _ (by simp)
  have e6 : ∀ c, μ'.1 (6, p, c) = μ.1 (6, p, c) := fun c => f.1 _ (by simp)
  have e7 : μ'.1 (7, p, 0) = μ.1 (7, p, 0) := f.1 _ (by simp)
  obtain ⟨h1, h2, h3, h4, h5⟩ := h
  exact ⟨h1.congr (by rw [e5]) e7, h2.congr (fun c => by rw [e6]), ⟨h3.1, by rw [e5]; exact h3.2.1, fun c hc => by rw [e6]; exact h3.2.2 c hc⟩, h4.congr (by rw [e5]) (by rw [f.2]), h5⟩
/-- the causes of one that are not used -/
def unS (s : AS) (w : Nat) : Nat := mk (fun c => aX s c && decide (aC s c 2 = w)) (aN s)
theorem unS_lt {s : AS} {w : Nat} (hn : aN s ≤ 12) : unS s w < 4096 := Nat.lt_of_lt_of_le (mk_lt _ _) (show 2 ^ aN s ≤ 2 ^ 12 from Nat.pow_le_pow_right (by decide) hn)
theorem unS_n {s : AS} {w c : Nat} (h : (unS s w).testBit c = true) : c < aN s := by
  unfold unS at h
  rw [mk_bit, Bool.and_eq_true, decide_eq_true_eq] at h
  exact h.1
def PH (μ : QM) (p : Nat) (s : AS) (w : Nat) (D : Nat → Nat) (m : Nat) : Prop := ∀ i, i < m → μ.1 (11, p, 0) i = zI (onI (hH s w D i))
theorem hnd_cl {s : AS} {w m i left : Nat} {D : Nat → Nat} (hn : aN s ≤ 12) (hl : ∀ c, left.testBit c = ((unS s w).testBit c && !(hT s w D i).testBit c)) (hi : i < m) : hndP (fun c => left.testBit c && gB s m D c i) (aT s) 12 = hH s w D i := by
  have e12 : 12 = aN s + (12 - aN s) := by omega
  have hcut : ∀ c, aN s ≤ c → (left.testBit c && gB s m D c i) = false := fun c hc => by
    rw [hl]
    unfold unS
    rw [mk_bit, decide_eq_false (by omega)]
    simp
  unfold hH
  rw [e12, hndP_cut hcut, hndF_P]
  refine hndP_congr _ fun c hc => ?_
  rw [hl]
  unfold unS gB gdB
  rw [mk_bit, mk_bit, decide_eq_true hc, decide_eq_true hi]
  cases aX s c <;> cases decide (aC s c 2 = w) <;> cases (hT s w D i).testBit c <;> rfl
theorem onI_ge {o : Option Nat} {α : Type} (x y : α) (ho : ∀ b, o = some b → b < 100) : (if (0 : Int32) ≤ zI (onI o) then x else y) = if o = none then y else x := by
  cases o with
  | none =>
    rw [show onI none = -1 from rfl, if_neg (by rw [zI_0, zI_le (by omega)]; omega), if_pos rfl]
  | some b =>
    have := ho b rfl
    rw [show onI (some b) = b from rfl, if_pos (by rw [zI_0, zI_le (by omega)]; omega), if_neg (by simp)]
theorem onI_lt {o : Option Nat} {α : Type} (x y : α) (ho : ∀ b, o = some b → b < 100) : (if zI (onI o) < (0 : Int32) then x else y) = if o = none then x else y := by
  cases o with
  | none =>
    rw [show onI none = -1 from rfl, if_pos (by rw [zI_0, zI_lt (by omega)]; omega), if_pos rfl]
  | some b =>
    have := ho b rfl
    rw [show onI (some b) = b from rfl, if_neg (by rw [zI_0, zI_lt (by omega)]; omega), if_neg (by simp)]
theorem c_Plan_layByHand (d : Nat) {p w m : Nat} {D : Nat → Nat} {s : AS} {Q : List Nat} {μ : QM} (hp : p < 2) (ok : aOK s) (h : PP μ p s m D (unS s w) Q) :
    ∃ μ', qcall qprogs (d + 2) 42 [qR (5, p, 0)] μ = some (none, μ') ∧ FrH p μ μ' ∧ PH μ' p s w D m := by
  have m12 := h.1.1
  have n12 := ok.2.1
  have L : ∀ k i left μ1, i + k = m → FrH p μ μ1 → (∀ c, left.testBit c = ((unS s w).testBit c && !(hT s w D i).testBit c)) → left < 4096 → (∀ j, j < i → μ1.1 (11, p, 0) j = zI (onI (hH s w D j))) →
      ∃ μ', qx (d + 1) qc_Plan_layByHand 7 [some (qR (5, p, 0)), some (qI (zI (left : Nat))), some (qI (zI (i : Nat))), none] [] μ1 = some (none, μ') ∧ FrH p μ μ' ∧ PH μ' p s w D m := by
    intro k
    induction k with
    | zero =>
      intro i left μ1 hi fr hl hl2 hh
      rw [qb_Plan_layByHand_7, (h.h fr).1.2.1]
      simp (disch := omega) only [zI_of, zI_0, zI_1, zI_add, zI_sub, zI_mul, zI_neg, zI_lt, zI_le, zI_eq, zI_rem, zI_oob, zI_ixN, zI_ix, zI_ite, zI10, zI01, Int.toNat_natCast, cond_false, cond_true, q01_0, q01_1, q01_0z, q01_1z, qB_if, qB_ifz, qB_ret, qB_retz, qbI_some, qbV_some, qbL_some, qbR_some, qbN_some, qbN_none, true_or, or_true, false_or, or_false, if_true, if_false, Int.reduceEq, Int.reduceLT, Int.reduceLE, Int.reduceNeg, qb_Plan_layByHand_53]
      rw [if_pos (by omega)]
      exact ⟨μ1, rfl, fr, fun j hj => hh j (by omega)⟩
    | succ k ih =>
      intro i left μ1 hi fr hl hl2 hh
      have hso := c_Plan_soonestOn d (i := i) (left := left) hp ok (h.h fr) (fun c hc => unS_n hc) (fun c hc => by rw [hl] at hc; rw [Bool.and_eq_true] at hc; exact hc.1) (by omega)
      rw [hnd_cl n12 hl (by omega)] at hso
      have wr : ∀ j, j < i + 1 → (qsi μ1 (11, p, 0) i (zI (onI (hH s w D i)))).1 (11, p, 0) j = zI (onI (hH s w D j)) := fun j hj => by
        rw [qsi_get]
        by_cases e : j = i
        · subst e; rw [if_pos ⟨rfl, rfl⟩]
        · rw [if_neg (by simp [e])]; exact hh j (by omega)
      have oL : ∀ x y : QR, (if zI (onI (hH s w D i)) < zI 0 then x else y) = if hH s w D i = none then x else y := fun x y => by
        rw [← zI_0]
        exact onI_lt x y (fun b hb => by have := hH_lt hb; omega)
      rw [qb_Plan_layByHand_7, (h.h fr).1.2.1, hso]
      simp (disch := omega) only [zI_of, zI_0, zI_1, zI_add, zI_sub, zI_mul, zI_neg, zI_lt, zI_le, zI_eq, zI_rem, zI_oob, zI_ixN, zI_ix, zI_ite, zI10, zI01, Int.toNat_natCast, cond_false, cond_true, q01_0, q01_1, q01_0z, q01_1z, qB_if, qB_ifz, qB_ret, qB_retz, qbI_some, qbV_some, qbL_some, qbR_some, qbN_some, qbN_none, true_or, or_true, false_or, or_false, if_true, if_false, Int.reduceEq, Int.reduceLT, Int.reduceLE, Int.reduceNeg, oL]
      rw [if_neg (by omega), if_neg (by omega)]
      cases hq : hH s w D i with
      | none =>
        rw [hq] at wr
        rw [if_pos rfl, qb_Plan_layByHand_47]
        simp (disch := omega) only [zI_of, zI_0, zI_1, zI_add, zI_sub, zI_mul, zI_neg, zI_lt, zI_le, zI_eq, zI_rem, zI_oob, zI_ixN, zI_ix, zI_ite, zI10, zI01, Int.toNat_natCast, cond_false, cond_true, q01_0, q01_1, q01_0z, q01_1z, qB_if, qB_ifz, qB_ret, qB_retz, qbI_some, qbV_some, qbL_some, qbR_some, qbN_some, qbN_none, true_or, or_true, false_or, or_false, if_true, if_false, Int.reduceEq, Int.reduceLT, Int.reduceLE, Int.reduceNeg]
        exact ih (i + 1) left _ (by omega) fr.si (fun c => by rw [hT_s, hq]; exact hl c) hl2 wr
      | some c =>
        have cn := hH_lt hq
        rw [hq] at wr
        have o1 : onI (some c) = c := rfl
        rw [o1] at wr ⊢
        rw [if_neg (by simp), qb_Plan_layByHand_47]
        simp (disch := omega) only [zI_of, zI_0, zI_1, zI_add, zI_sub, zI_mul, zI_neg, zI_lt, zI_le, zI_eq, zI_rem, zI_oob, zI_ixN, zI_ix, zI_ite, zI10, zI01, Int.toNat_natCast, cond_false, cond_true, q01_0, q01_1, q01_0z, q01_1z, qB_if, qB_ifz, qB_ret, qB_retz, qbI_some, qbV_some, qbL_some, qbR_some, qbN_some, qbN_none, true_or, or_true, false_or, or_false, if_true, if_false, Int.reduceEq, Int.reduceLT, Int.reduceLE, Int.reduceNeg, zI_31, zI_bit, zI_nd]
        refine ih (i + 1) (nd left (2 ^ c)) _ (by omega) fr.si (fun x => ?_) (Nat.lt_of_le_of_lt (nd_le _ _) hl2) wr
        rw [nd2 hl2, hl, hT_s, hq]
        show _ = (_ && !(hT s w D i ||| 2 ^ c).testBit x)
        rw [bit_set, Bool.not_or, Bool.and_assoc]
  rw [qe_Plan_layByHand (h0 := qd5 hp), qb_Plan_layByHand_0, h.2.2.1.2.1]
  simp only [zI_of]
  exact L m 0 (unS s w) μ (by omega) FrH.rf (fun c => by show _ = (_ && !(0 : Nat).testBit c); simp) (unS_lt n12) (fun j hj => absurd hj (by omega))
/-- how many have none -/
def nW (h : Nat → Option Nat) : Nat → Nat
  | 0 => 0
  | n + 1 => nW h n + (if h n = none then 1 else 0)
theorem c_Plan_withoutByHand (d : Nat) {p m w : Nat} {D : Nat → Nat} {s : AS} {μ : QM} (hp : p < 2) (ok : aOK s) (hD : PD μ p m D) (hH' : PH μ p s w D m) : qcall qprogs (d + 1) 44 [qR (5, p, 0)] μ = some (some (qI (zI (nW (hH s w D) m : Nat))), μ) := by
  have m12 := hD.1
  have n12 := ok.2.1
  have L : ∀ k i, i + k = m → qx d qc_Plan_withoutByHand 4 [some (qR (5, p, 0)), some (qI (zI (nW (hH s w D) i : Nat))), some (qI (zI (i : Nat)))] [] μ = some (some (qI (zI (nW (hH s w D) m : Nat))), μ) := by
    intro k
    induction k with
    | zero =>
      intro i hi
      rw [qb_Plan_withoutByHand_4, hD.2.1]
      simp (disch := omega) only [zI_of, zI_0, zI_1, zI_add, zI_sub, zI_mul, zI_neg, zI_lt, zI_le, zI_eq, zI_rem, zI_oob, zI_ixN, zI_ix, zI_ite, zI10, zI01, Int.toNat_natCast, cond_false, cond_true, q01_0, q01_1, q01_0z, q01_1z, qB_if, qB_ifz, qB_ret, qB_retz, qbI_some, qbV_some, qbL_some, qbR_some, qbN_some, qbN_none, true_or, or_true, false_or, or_false, if_true, if_false, Int.reduceEq, Int.reduceLT, Int.reduceLE, Int.reduceNeg, qb_Plan_withoutByHand_36]
      rw [if_pos (by omega), show i = m by omega]
    | succ k ih =>
      intro i hi
      have i1 := ih (i + 1) (by omega)
      rw [qb_Plan_withoutByHand_4, hD.2.1]
      simp (disch := omega) only [zI_of, zI_oob, zI_ixN, hH' i (by omega), cond_false, zI_le, qb_Plan_withoutByHand_30, zI_add]
      rw [if_neg (by omega), if_neg (by omega), onI_ge _ _ (fun b hb => by have := hH_lt hb; omega)]
      by_cases e : hH s w D i = none
      · rw [show nW (hH s w D) (i + 1) = nW (hH s w D) i + 1 by show _ + (if _ then _ else _) = _; rw [if_pos e]] at i1
        rw [if_pos e]
        exact i1
      · rw [show nW (hH s w D) (i + 1) = nW (hH s w D) i by show _ + (if _ then _ else _) = _; rw [if_neg e]; rfl] at i1
        rw [if_neg e]
        exact i1
  rw [qe_Plan_withoutByHand (h0 := qd5 hp), qb_Plan_withoutByHand_0]
  simp only [zI_of]
  exact L m 0 (by omega)
/-- the first without one -/
def fW0 (h : Nat → Option Nat) (D : Nat → Nat) (m : Nat) : Option Nat := (ffr (fun i => (h i).isNone) m 0).map D
theorem c_Plan_firstWithoutByHand (d : Nat) {p m w : Nat} {D : Nat → Nat} {s : AS} {μ : QM} (hp : p < 2) (ok : aOK s) (hD : PD μ p m D) (hH' : PH μ p s w D m) : qcall qprogs (d + 1) 45 [qR (5, p, 0)] μ = some (some (qI (zI (onM (fW0 (hH s w D) D m)))), μ) := by
  have m12 := hD.1
  have n12 := ok.2.1
  have L : ∀ k i, i + k = m → qx d qc_Plan_firstWithoutByHand 2 [some (qR (5, p, 0)), some (qI (zI (i : Nat)))] [] μ = some (some (qI (zI (onM ((ffr (fun i => (hH s w D i).isNone) k i).map D)))), μ) := by
    intro k
    induction k with
    | zero =>
      intro i hi
      rw [qb_Plan_firstWithoutByHand_2, hD.2.1]
      simp (disch := omega) only [zI_of, zI_0, zI_1, zI_add, zI_sub, zI_mul, zI_neg, zI_lt, zI_le, zI_eq, zI_rem, zI_oob, zI_ixN, zI_ix, zI_ite, zI10, zI01, Int.toNat_natCast, cond_false, cond_true, q01_0, q01_1, q01_0z, q01_1z, qB_if, qB_ifz, qB_ret, qB_retz, qbI_some, qbV_some, qbL_some, qbR_some, qbN_some, qbN_none, true_or, or_true, false_or, or_false, if_true, if_false, Int.reduceEq, Int.reduceLT, Int.reduceLE, Int.reduceNeg, qb_Plan_firstWithoutByHand_38]
      rw [if_pos (by omega)]
      rfl
    | succ k ih =>
      intro i hi
      have i1 := ih (i + 1) (by omega)
      rw [qb_Plan_firstWithoutByHand_2, hD.2.1]
      simp (disch := omega) only [zI_of, zI_oob, zI_ixN, hH' i (by omega), cond_false, zI_le, qb_Plan_firstWithoutByHand_32, zI_add, (hD.2.2 i (by omega)).2]
      rw [if_neg (by omega), if_neg (by omega), onI_ge _ _ (fun b hb => by have := hH_lt hb; omega)]
      unfold ffr
      by_cases e : hH s w D i = none
      · rw [if_pos e, if_pos (by rw [e]; rfl)]
        rfl
      · rw [if_neg e, if_neg (by cases hq : hH s w D i with
          | none => exact absurd hq e
          | some b => simp)]
        exact i1
  rw [qe_Plan_firstWithoutByHand (h0 := qd5 hp), qb_Plan_firstWithoutByHand_0]
  simp only [zI_of]
  exact L m 0 (by omega)
/-- how long it lasts, how long it did at most -/
def lgs (b : Nat → Bool) : Nat → Nat × Nat
  | 0 => (0, 0)
  | n + 1 => ((bif b n then (lgs b n).1 + 1 else 0), max (lgs b n).2 (bif b n then (lgs b n).1 + 1 else 0))
theorem lgs_s (b : Nat → Bool) (n : Nat) : lgs b (n + 1) = ((bif b n then (lgs b n).1 + 1 else 0), max (lgs b n).2 (bif b n then (lgs b n).1 + 1 else 0)) := rfl
theorem lgs_le {b : Nat → Bool} : ∀ n, (lgs b n).1 ≤ n ∧ (lgs b n).2 ≤ n
  | 0 => ⟨Nat.le_refl 0, Nat.le_refl 0⟩
  | n + 1 => by
    have := lgs_le (b := b) n
    unfold lgs
    cases b n <;> simp <;> omega
theorem c_Plan_longestByHand (d : Nat) {p m w : Nat} {D : Nat → Nat} {s : AS} {μ : QM} (v : Bool) (hp : p < 2) (ok : aOK s) (hD : PD μ p m D) (hH' : PH μ p s w D m) : qcall qprogs (d + 1) 46 [qR (5, p, 0), qI (qB v)] μ = some (some (qI (zI ((lgs (fun i => (hH s w D i).isSome == v) m).2 : Nat))), μ) := by
  have m12 := hD.1
  have n12 := ok.2.1
  have L : ∀ k i, i + k = m → qx d qc_Plan_longestByHand 7 [some (qR (5, p, 0)), some (qI (qB v)), some (qI (zI ((lgs (fun i => (hH s w D i).isSome == v) i).2 : Nat))), some (qI (zI ((lgs (fun i => (hH s w D i).isSome == v) i).1 : Nat))), some (qI (zI (i : Nat)))] [] μ = some (some (qI (zI ((lgs (fun i => (hH s w D i).isSome == v) m).2 : Nat))), μ) := by
    intro k
    induction k with
    | zero =>
      intro i hi
      rw [qb_Plan_longestByHand_7, hD.2.1]
      simp (disch := omega) only [zI_of, zI_0, zI_1, zI_add, zI_sub, zI_mul, zI_neg, zI_lt, zI_le, zI_eq, zI_rem, zI_oob, zI_ixN, zI_ix, zI_ite, zI10, zI01, Int.toNat_natCast, cond_false, cond_true, q01_0, q01_1, q01_0z, q01_1z, qB_if, qB_ifz, qB_ret, qB_retz, qbI_some, qbV_some, qbL_some, qbR_some, qbN_some, qbN_none, true_or, or_true, false_or, or_false, if_true, if_false, Int.reduceEq, Int.reduceLT, Int.reduceLE, Int.reduceNeg, qb_Plan_longestByHand_62]
      rw [if_pos (by omega), show i = m by omega]
    | succ k ih =>
      intro i hi
      have i1 := ih (i + 1) (by omega)
      have bl := lgs_le (b := fun i => (hH s w D i).isSome == v) i
      have two : ∀ x : Bool, x = (hH s w D i).isSome → qx d qc_Plan_longestByHand 38 [some (qR (5, p, 0)), some (qI (qB v)), some (qI (zI ((lgs (fun i => (hH s w D i).isSome == v) i).2 : Nat))), some (qI (zI ((lgs (fun i => (hH s w D i).isSome == v) i).1 : Nat))), some (qI (zI (i : Nat)))] [qI (qB x)] μ = some (some (qI (zI ((lgs (fun i => (hH s w D i).isSome == v) m).2 : Nat))), μ) := fun x hx => by
        rw [qb_Plan_longestByHand_38]
        rw [lgs_s, ← hx] at i1
        generalize lgs (fun i => (hH s w D i).isSome == v) i = R at *
        obtain ⟨a, b⟩ := R
        dsimp only at *
        by_cases e : x = v
        · rw [if_pos (by rw [e]), qb_Plan_longestByHand_49]
          rw [show (x == v) = true by simp [e]] at i1
          simp (disch := omega) only [zI_of, zI_0, zI_1, zI_add, zI_sub, zI_mul, zI_neg, zI_lt, zI_le, zI_eq, zI_rem, zI_oob, zI_ixN, zI_ix, zI_ite, zI10, zI01, Int.toNat_natCast, cond_false, cond_true, q01_0, q01_1, q01_0z, q01_1z, qB_if, qB_ifz, qB_ret, qB_retz, qbI_some, qbV_some, qbL_some, qbR_some, qbN_some, qbN_none, true_or, or_true, false_or, or_false, if_true, if_false, Int.reduceEq, Int.reduceLT, Int.reduceLE, Int.reduceNeg]
          rw [show (if (b : Int) < (a : Int) + 1 then (a : Int) + 1 else (b : Int)) = ((max b (a + 1) : Nat) : Int) by split <;> omega]
          exact i1
        · rw [if_neg (by intro z; apply e; cases x <;> cases v <;> first | rfl | exact absurd z (by decide +kernel)), qb_Plan_longestByHand_48, qb_Plan_longestByHand_49]
          rw [show (x == v) = false by simp [e]] at i1
          simp (disch := omega) only [zI_of, zI_0, zI_1, zI_add, zI_sub, zI_mul, zI_neg, zI_lt, zI_le, zI_eq, zI_rem, zI_oob, zI_ixN, zI_ix, zI_ite, zI10, zI01, Int.toNat_natCast, cond_false, cond_true, q01_0, q01_1, q01_0z, q01_1z, qB_if, qB_ifz, qB_ret, qB_retz, qbI_some, qbV_some, qbL_some, qbR_some, qbN_some, qbN_none, true_or, or_true, false_or, or_false, if_true, if_false, Int.reduceEq, Int.reduceLT, Int.reduceLE, Int.reduceNeg]
          rw [show (if (b : Int) < 0 then (0 : Int) else (b : Int)) = ((max b 0 : Nat) : Int) by split <;> omega]
          exact i1
      rw [qb_Plan_longestByHand_7, hD.2.1]
      simp (disch := omega) only [zI_of, zI_oob, zI_ixN, hH' i (by omega), cond_false, zI_le, qb_Plan_longestByHand_37]
      rw [if_neg (by omega), if_neg (by omega), onI_lt _ _ (fun b hb => by have := hH_lt hb; omega)]
      by_cases e : hH s w D i = none
      · rw [if_pos e]
        exact two false (by rw [e]; rfl)
      · rw [if_neg e]
        exact two true (by cases hq : hH s w D i with
          | none => exact absurd hq e
          | some b => rfl)
  rw [qe_Plan_longestByHand (h0 := qd5 hp), qb_Plan_longestByHand_0]
  simp only [zI_of]
  exact L m 0 (by omega)
/-- whether by hand one has a cause on a day -/
def hOn (h : Nat → Option Nat) (D : Nat → Nat) (m x : Nat) : Bool := match ffr (fun i => decide (D i = x)) m 0 with
  | none => false
  | some i => (h i).isSome
theorem c_Plan_hasByHandOn (d : Nat) {p m w x : Nat} {D : Nat → Nat} {s : AS} {μ : QM} (hp : p < 2) (ok : aOK s) (hD : PD μ p m D) (hH' : PH μ p s w D m) (hx : x ≤ 1000) : qcall qprogs (d + 1) 47 [qR (5, p, 0), qI (zI (x : Nat))] μ = some (some (qI (qB (hOn (hH s w D) D m x))), μ) := by
  have m12 := hD.1
  have n12 := ok.2.1
  have L : ∀ k i, i + k = m → qx d qc_Plan_hasByHandOn 2 [some (qR (5, p, 0)), some (qI (zI (x : Nat))), some (qI (zI (i : Nat)))] [] μ = some (some (qI (qB (match ffr (fun i => decide (D i = x)) k i with
      | none => false
      | some i => (hH s w D i).isSome))), μ) := by
    intro k
    induction k with
    | zero =>
      intro i hi
      rw [qb_Plan_hasByHandOn_2, hD.2.1]
      simp (disch := omega) only [zI_of, zI_0, zI_1, zI_add, zI_sub, zI_mul, zI_neg, zI_lt, zI_le, zI_eq, zI_rem, zI_oob, zI_ixN, zI_ix, zI_ite, zI10, zI01, Int.toNat_natCast, cond_false, cond_true, q01_0, q01_1, q01_0z, q01_1z, qB_if, qB_ifz, qB_ret, qB_retz, qbI_some, qbV_some, qbL_some, qbR_some, qbN_some, qbN_none, true_or, or_true, false_or, or_false, if_true, if_false, Int.reduceEq, Int.reduceLT, Int.reduceLE, Int.reduceNeg, qb_Plan_hasByHandOn_47]
      rw [if_pos (by omega)]
      rfl
    | succ k ih =>
      intro i hi
      have i1 := ih (i + 1) (by omega)
      obtain ⟨b1, b2⟩ := hD.2.2 i (by omega)
      rw [qb_Plan_hasByHandOn_2, hD.2.1]
      simp (disch := omega) only [zI_of, zI_oob, zI_ixN, hH' i (by omega), cond_false, zI_le, zI_eq, qb_Plan_hasByHandOn_41, zI_add, b2, qb_Plan_hasByHandOn_39, qb_Plan_hasByHandOn_40]
      rw [if_neg (by omega), if_neg (by omega), onI_lt _ _ (fun b hb => by have := hH_lt hb; omega)]
      by_cases e : D i = x
      · rw [if_pos (by omega), show ffr (fun i => decide (D i = x)) (k + 1) i = some i from if_pos (by simp [e])]
        by_cases e2 : hH s w D i = none
        · rw [if_pos e2]
          simp (disch := omega) only [zI_of, zI_0, zI_1, zI_add, zI_sub, zI_mul, zI_neg, zI_lt, zI_le, zI_eq, zI_rem, zI_oob, zI_ixN, zI_ix, zI_ite, zI10, zI01, Int.toNat_natCast, cond_false, cond_true, q01_0, q01_1, q01_0z, q01_1z, qB_if, qB_ifz, qB_ret, qB_retz, qbI_some, qbV_some, qbL_some, qbR_some, qbN_some, qbN_none, true_or, or_true, false_or, or_false, if_true, if_false, Int.reduceEq, Int.reduceLT, Int.reduceLE, Int.reduceNeg]
          show _ = some (some (qI (qB (hH s w D i).isSome)), μ)
          rw [e2]
          rfl
        · rw [if_neg e2]
          simp (disch := omega) only [zI_of, zI_0, zI_1, zI_add, zI_sub, zI_mul, zI_neg, zI_lt, zI_le, zI_eq, zI_rem, zI_oob, zI_ixN, zI_ix, zI_ite, zI10, zI01, Int.toNat_natCast, cond_false, cond_true, q01_0, q01_1, q01_0z, q01_1z, qB_if, qB_ifz, qB_ret, qB_retz, qbI_some, qbV_some, qbL_some, qbR_some, qbN_some, qbN_none, true_or, or_true, false_or, or_false, if_true, if_false, Int.reduceEq, Int.reduceLT, Int.reduceLE, Int.reduceNeg]
          cases hq : hH s w D i with
          | none => exact absurd hq e2
          | some b => rfl
      · rw [if_neg (by omega), show ffr (fun i => decide (D i = x)) (k + 1) i = ffr (fun i => decide (D i = x)) k (i + 1) from if_neg (by simp [e])]
        exact i1
  rw [qe_Plan_hasByHandOn (h0 := qd5 hp), qb_Plan_hasByHandOn_0]
  simp only [zI_of]
  exact L m 0 (by omega)
/-- the weight of causes -/
def wB (s : AS) (B : Nat) : Nat → Nat
  | 0 => 0
  | n + 1 => wB s B n + (if B.testBit n = true then aW s n else 0)
theorem c_Plan_weightOf (d : Nat) {p m S B : Nat} {D : Nat → Nat} {s : AS} {Q : List Nat} {μ : QM} (hp : p < 2) (h : PP μ p s m D S Q) (hB : ∀ c, B.testBit c = true → S.testBit c = true) : qcall qprogs (d + 1) 48 [qR (5, p, 0), qI (zI (B : Nat))] μ = some (some (qI (zI (wB s B 12 : Nat))), μ) := by
  have L : ∀ k c, c + k = 12 → qx d qc_Plan_weightOf 4 [some (qR (5, p, 0)), some (qI (zI (B : Nat))), some (qI (zI (wB s B c : Nat))), some (qI (zI (c : Nat)))] [] μ = some (some (qI (zI (wB s B 12 : Nat))), μ) := by
    intro k
    induction k with
    | zero =>
      intro c hc
      rw [qb_Plan_weightOf_4]
      simp (disch := omega) only [zI_of, zI_0, zI_1, zI_add, zI_sub, zI_mul, zI_neg, zI_lt, zI_le, zI_eq, zI_rem, zI_oob, zI_ixN, zI_ix, zI_ite, zI10, zI01, Int.toNat_natCast, cond_false, cond_true, q01_0, q01_1, q01_0z, q01_1z, qB_if, qB_ifz, qB_ret, qB_retz, qbI_some, qbV_some, qbL_some, qbR_some, qbN_some, qbN_none, true_or, or_true, false_or, or_false, if_true, if_false, Int.reduceEq, Int.reduceLT, Int.reduceLE, Int.reduceNeg, qb_Plan_weightOf_36]
      rw [if_pos (by omega), show c = 12 by omega]
    | succ k ih =>
      intro c hc
      have i1 := ih (c + 1) (by omega)
      rw [qb_Plan_weightOf_4]
      simp (disch := omega) only [zI_of, zI_0, zI_1, zI_add, zI_sub, zI_mul, zI_neg, zI_lt, zI_le, zI_eq, zI_rem, zI_oob, zI_ixN, zI_ix, zI_ite, zI10, zI01, Int.toNat_natCast, cond_false, cond_true, q01_0, q01_1, q01_0z, q01_1z, qB_if, qB_ifz, qB_ret, qB_retz, qbI_some, qbV_some, qbL_some, qbR_some, qbN_some, qbN_none, true_or, or_true, false_or, or_false, if_true, if_false, Int.reduceEq, Int.reduceLT, Int.reduceLE, Int.reduceNeg, zI_31, zI_bit, zI_and, tb_if, qb_Plan_weightOf_30]
      rw [if_neg (by omega)]
      cases hb : B.testBit c
      · rw [show wB s B (c + 1) = wB s B c by show _ + (if _ then _ else _) = _; rw [if_neg (by rw [hb]; decide)]; rfl] at i1
        exact i1
      · obtain ⟨-, f1, -, -⟩ := h.2.2.1.2.2 c (hB c hb)
        rw [show wB s B (c + 1) = wB s B c + aW s c by show _ + (if _ then _ else _) = _; rw [if_pos hb]] at i1
        rw [cond_true, f1, zI_add]
        exact i1
  rw [qe_Plan_weightOf (h0 := qd5 hp), qb_Plan_weightOf_0]
  simp only [zI_of]
  exact L 12 0 (by omega)
