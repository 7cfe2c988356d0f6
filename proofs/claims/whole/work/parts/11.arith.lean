/-! small numbers in machine ints -/
def zI (z : Int) : Int32 := Int32.ofInt z
theorem zI_of (n : Int) : Int32.ofInt n = zI n := Int32.toInt_inj.mp (by unfold zI; rfl)
theorem zI_nI (n : Nat) : zI (n : Int) = nI n := Int32.ofInt_eq_ofNat
theorem zI_0 : (0 : Int32) = zI 0 := by decide +kernel
theorem zI_1 : (1 : Int32) = zI 1 := by decide +kernel
theorem zI_31 : (31 : Int32) = zI 31 := by decide +kernel
theorem zI_add (a b : Int) : zI a + zI b = zI (a + b) := (Int32.ofInt_add a b).symm
theorem zI_sub (a b : Int) : zI a - zI b = zI (a - b) := (Int32.ofInt_sub a b).symm
theorem zI_mul (a b : Int) : zI a * zI b = zI (a * b) := (Int32.ofInt_mul a b).symm
theorem zI_neg (a : Int) : -zI a = zI (-a) := (Int32.ofInt_neg a).symm
theorem zI_int {a : Int} (h : -2147483648 ≤ a) (h2 : a < 2147483648) : (zI a).toInt = a := Int32.toInt_ofInt_of_le h h2
theorem zI_lt {a b : Int} (h1 : -2147483648 ≤ a ∧ a < 2147483648 ∧ -2147483648 ≤ b ∧ b < 2147483648) : zI a < zI b ↔ a < b := by
  rw [Int32.lt_iff_toInt_lt, zI_int h1.1 h1.2.1, zI_int h1.2.2.1 h1.2.2.2]
theorem zI_le {a b : Int} (h1 : -2147483648 ≤ a ∧ a < 2147483648 ∧ -2147483648 ≤ b ∧ b < 2147483648) : zI a ≤ zI b ↔ a ≤ b := by
  rw [Int32.le_iff_toInt_le, zI_int h1.1 h1.2.1, zI_int h1.2.2.1 h1.2.2.2]
theorem zI_eq {a b : Int} (h1 : -2147483648 ≤ a ∧ a < 2147483648 ∧ -2147483648 ≤ b ∧ b < 2147483648) : zI a = zI b ↔ a = b := by
  rw [← Int32.toInt_inj, zI_int h1.1 h1.2.1, zI_int h1.2.2.1 h1.2.2.2]
theorem zI_ix {a : Int} (h : 0 ≤ a ∧ a < 2147483648) : (zI a).toNatClampNeg = a.toNat := by
  obtain ⟨n, rfl⟩ := Int.eq_ofNat_of_zero_le h.1
  rw [zI_nI, nI_clamp (by omega)]
  rfl
theorem zI_ixN {n : Nat} (h : n < 2147483648) : (zI (n : Int)).toNatClampNeg = n := by
  rw [zI_nI, nI_clamp (by omega)]
theorem zI_oob {a : Int} {n : Nat} (h : 0 ≤ a ∧ a < (n : Int) ∧ (n : Int) < 2147483648) : qoob (zI a) n = false := by
  unfold qoob
  rw [zI_ix ⟨h.1, by omega⟩, zI_0, decide_eq_false (by rw [zI_lt (by omega)]; omega), decide_eq_false (by omega)]
  rfl
theorem zI_tdiv {a b : Int} (h : 0 ≤ a ∧ a < 2147483648 ∧ 0 < b ∧ b < 2147483648) : zI a / zI b = zI (a / b) := by
  obtain ⟨n, rfl⟩ := Int.eq_ofNat_of_zero_le h.1
  obtain ⟨m, rfl⟩ := Int.eq_ofNat_of_zero_le (show (0 : Int) ≤ b by omega)
  rw [zI_nI, zI_nI, pk_div (by omega) (by omega) (by omega), ← zI_nI]
  rfl
theorem zI_rem {a b : Int} (h : 0 ≤ a ∧ a < 2147483648 ∧ 0 < b ∧ b < 2147483648) : zI a - zI a / zI b * zI b = zI (a % b) := by
  obtain ⟨n, rfl⟩ := Int.eq_ofNat_of_zero_le h.1
  obtain ⟨m, rfl⟩ := Int.eq_ofNat_of_zero_le (show (0 : Int) ≤ b by omega)
  rw [zI_nI, zI_nI, pk_rem (by omega) (by omega) (by omega), ← zI_nI]
  rfl
theorem zI_and (a b : Nat) : zI (a : Int) &&& zI (b : Int) = zI ((a &&& b : Nat) : Int) := by
  rw [zI_nI, zI_nI, zI_nI]
  exact Int32.toBitVec_inj.mp (by simp [nI, BitVec.ofNat_and])
theorem zI_or (a b : Nat) : zI (a : Int) ||| zI (b : Int) = zI ((a ||| b : Nat) : Int) := by
  rw [zI_nI, zI_nI, zI_nI]
  exact Int32.toBitVec_inj.mp (by simp [nI, BitVec.ofNat_or])
theorem zI_m31 {c : Nat} (h : c < 32) : zI (c : Int) &&& 31 = zI (c : Int) := by
  rw [zI_31]
  show zI (c : Int) &&& zI ((31 : Nat) : Int) = _
  rw [zI_and]
  congr 2
  have : ∀ c, c < 32 → c &&& 31 = c := by decide +kernel
  exact this c h
theorem zI_sm : ∀ c : Nat, c < 32 → ((zI (c : Int)).toBitVec.smod 32).toNat = c := by decide +kernel
theorem zI_shl {a c : Nat} (h : c < 32 ∧ a * 2 ^ c < 4294967296) : zI (a : Int) <<< (zI (c : Int) &&& 31) = zI ((a * 2 ^ c : Nat) : Int) := by
  rw [zI_m31 h.1, zI_nI a, zI_nI (a * 2 ^ c)]
  exact pk_shlN _ c (zI_sm c h.1) (by have := h.2; omega)
theorem zI_shr {a c : Nat} (h : c < 32 ∧ a < 2147483648) : zI (a : Int) >>> (zI (c : Int) &&& 31) = zI ((a / 2 ^ c : Nat) : Int) := by
  rw [zI_m31 h.1, zI_nI a, zI_nI (a / 2 ^ c)]
  exact pk_shrN (by have := h.2; omega) _ c (zI_sm c h.1)
/-- a truth value -/
def qB (b : Bool) : Int32 := bif b then zI 1 else zI 0
theorem qB_t : qB true = zI 1 := rfl
theorem qB_f : qB false = zI 0 := rfl
theorem qB_0 (b : Bool) : (qB b = 0) ↔ b = false := by cases b <;> decide +kernel
theorem qB_01 (b : Bool) : qB b = 0 ∨ qB b = 1 := by cases b <;> decide +kernel
theorem qB_if {α : Type} (b : Bool) (x y : α) : (if qB b = 0 then x else y) = bif b then y else x := by
  cases b
  · exact if_pos (by decide +kernel)
  · exact if_neg (by decide +kernel)
theorem qB_ret {α : Type} (b : Bool) (x : Option α) : (if qB b = 0 ∨ qB b = 1 then x else none) = x := if_pos (qB_01 b)
theorem q01_0 {α : Type} (x : Option α) : (if zI 0 = 0 ∨ zI 0 = 1 then x else none) = x := if_pos (by decide +kernel)
theorem q01_1 {α : Type} (x : Option α) : (if zI 1 = 0 ∨ zI 1 = 1 then x else none) = x := if_pos (by decide +kernel)
theorem qbz_z {n : Nat} (h : n ≤ 1) : qbz (zI (n : Int)) = zI (n : Int) := by
  rcases (by omega : n = 0 ∨ n = 1) with rfl | rfl <;> decide +kernel
theorem qbz_qB (b : Bool) : qbz (qB b) = qB b := by cases b <;> decide +kernel
theorem qbV_some (μ : QM) (f : QM → QR) : qbV (some (none, μ)) f = f μ := rfl
theorem qbI_some (x : Int32) (μ : QM) (f : Int32 → QM → QR) : qbI (some (some (qI x), μ)) f = f x μ := rfl
theorem qbL_some (x : Int64) (μ : QM) (f : Int64 → QM → QR) : qbL (some (some (qL x), μ)) f = f x μ := rfl
theorem qbR_some {t j c : Nat} (h : qdom (t, j, c) = true) (μ : QM) (f : Nat → Nat → QM → QR) : qbR t (some (some (qR (t, j, c)), μ)) f = f j c μ := if_pos ⟨rfl, h⟩
theorem qbN_some {t j c : Nat} (h : qdom (t, j, c) = true) (μ : QM) (f : Nat → Nat → QM → QR) (g : QM → QR) : qbN t (some (some (qR (t, j, c)), μ)) f g = f j c μ := if_pos ⟨rfl, h⟩
theorem qbN_none {t : Nat} (μ : QM) (f : Nat → Nat → QM → QR) (g : QM → QR) : qbN t (some (some (qO none), μ)) f g = g μ := rfl
theorem qdm {t j c : Nat} (h : j < (qbnd t).1) (h2 : c < (qbnd t).2) : qdom (t, j, c) = true := by
  unfold qdom
  rw [Bool.and_eq_true]
  exact ⟨decide_eq_true h, decide_eq_true h2⟩
theorem qd1 {j c : Nat} (h : j < 11) (h2 : c < 12) : qdom (1, j, c) = true := qdm h h2
theorem qd2 {j : Nat} (h : j < 11) : qdom (2, j, 0) = true := qdm h (by decide)
theorem qd3 {j w : Nat} (h : j < 11) (h2 : w < 2) : qdom (3, j, w) = true := qdm h h2
theorem qd5 {w : Nat} (h : w < 2) : qdom (5, w, 0) = true := qdm h (by decide)
theorem qd6 {w c : Nat} (h : w < 2) (h2 : c < 12) : qdom (6, w, c) = true := qdm h h2
theorem qsi_get (μ : QM) (a b : QA) (k j : Nat) (v : Int32) : (qsi μ a k v).1 b j = if b = a ∧ j = k then v else μ.1 b j := rfl
theorem qsi_self (μ : QM) (a : QA) (k : Nat) (v : Int32) : (qsi μ a k v).1 a k = v := if_pos ⟨rfl, rfl⟩
theorem qsi_2 (μ : QM) (a : QA) (k : Nat) (v : Int32) : (qsi μ a k v).2 = μ.2 := rfl
/-- what is left alone -/
def Fr (P : QA → Prop) (μ μ' : QM) : Prop := (∀ a, ¬ P a → μ'.1 a = μ.1 a) ∧ (∀ a, ¬ P a → μ'.2.1 a = μ.2.1 a) ∧ (∀ a, ¬ P a → μ'.2.2 a = μ.2.2 a)
theorem Fr.rf {P : QA → Prop} {μ : QM} : Fr P μ μ := ⟨fun _ _ => rfl, fun _ _ => rfl, fun _ _ => rfl⟩
theorem Fr.tr {P : QA → Prop} {μ μ1 μ2 : QM} (h : Fr P μ μ1) (h2 : Fr P μ1 μ2) : Fr P μ μ2 := ⟨fun a ha => (h2.1 a ha).trans (h.1 a ha), fun a ha => (h2.2.1 a ha).trans (h.2.1 a ha), fun a ha => (h2.2.2 a ha).trans (h.2.2 a ha)⟩
theorem Fr.mono {P Q : QA → Prop} {μ μ1 : QM} (h : Fr P μ μ1) (hPQ : ∀ a, P a → Q a) : Fr Q μ μ1 := ⟨fun a ha => h.1 a fun z => ha (hPQ a z), fun a ha => h.2.1 a fun z => ha (hPQ a z), fun a ha => h.2.2 a fun z => ha (hPQ a z)⟩
theorem Fr.si {P : QA → Prop} {μ : QM} {a : QA} {k : Nat} {v : Int32} (h : P a) : Fr P μ (qsi μ a k v) := ⟨fun b hb => qsi_ne (fun e => hb (e ▸ h)), fun _ _ => rfl, fun _ _ => rfl⟩
theorem Fr.sl {P : QA → Prop} {μ : QM} {a : QA} {k : Nat} {v : Int64} (h : P a) : Fr P μ (qsl μ a k v) := ⟨fun _ _ => rfl, fun b hb => qsl_ne (fun e => hb (e ▸ h)), fun _ _ => rfl⟩
theorem Fr.sr {P : QA → Prop} {μ : QM} {a : QA} {k : Nat} {v : Option QA} (h : P a) : Fr P μ (qsr μ a k v) := ⟨fun _ _ => rfl, fun _ _ => rfl, fun b hb => qsr_ne (fun e => hb (e ▸ h))⟩
theorem Fr.si' {P : QA → Prop} {μ μ1 : QM} {a : QA} {k : Nat} {v : Int32} (h : Fr P μ μ1) (ha : P a) : Fr P μ (qsi μ1 a k v) := h.tr (Fr.si ha)
theorem Fr.sl' {P : QA → Prop} {μ μ1 : QM} {a : QA} {k : Nat} {v : Int64} (h : Fr P μ μ1) (ha : P a) : Fr P μ (qsl μ1 a k v) := h.tr (Fr.sl ha)
theorem Fr.sr' {P : QA → Prop} {μ μ1 : QM} {a : QA} {k : Nat} {v : Option QA} (h : Fr P μ μ1) (ha : P a) : Fr P μ (qsr μ1 a k v) := h.tr (Fr.sr ha)
theorem zI_congr {a b : Int} (h : a = b) : zI a = zI b := by rw [h]
theorem q_ret {a b : Int} {μ : QM} (h : a = b) : (some (some (qI (zI a)), μ) : QR) = some (some (qI (zI b)), μ) := by rw [h]
theorem zI_ite {c : Prop} [i : Decidable c] (a b : Int) : (if c then zI a else zI b) = zI (if c then a else b) := by
  by_cases h : c
  · rw [if_pos h, if_pos h]
  · rw [if_neg h, if_neg h]
theorem zI10 : (zI 1 = zI 0) ↔ False := by decide +kernel
theorem zI01 : (zI 0 = zI 1) ↔ False := by decide +kernel
theorem qB_z (b : Bool) : (qB b = zI 0) ↔ b = false := by cases b <;> decide +kernel
theorem qB_ifz {α : Type} (b : Bool) (x y : α) : (if qB b = zI 0 then x else y) = bif b then y else x := by
  cases b
  · exact if_pos (by decide +kernel)
  · exact if_neg (by decide +kernel)
theorem qB_retz {α : Type} (b : Bool) (x : Option α) : (if qB b = zI 0 ∨ qB b = zI 1 then x else none) = x := if_pos (by cases b <;> decide +kernel)
theorem q01_0z {α : Type} (x : Option α) : (if zI 0 = zI 0 ∨ zI 0 = zI 1 then x else none) = x := if_pos (Or.inl rfl)
theorem q01_1z {α : Type} (x : Option α) : (if zI 1 = zI 0 ∨ zI 1 = zI 1 then x else none) = x := if_pos (Or.inr rfl)
theorem zI_subN {a b : Nat} (h : b ≤ a) : zI (a : Int) - zI (b : Int) = zI ((a - b : Nat) : Int) := by
  rw [zI_sub]
  exact zI_congr (by omega)
theorem zI_addN (a b : Nat) : zI (a : Int) + zI (b : Int) = zI ((a + b : Nat) : Int) := zI_add _ _
