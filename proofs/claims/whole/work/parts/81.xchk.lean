section
/-! the law's instructions, checked piece by piece -/
def qck1 (own : Nat) (ret : Option FieldType) (bytes : ByteArray) (e : QE) (nx : Option QE) : Bool := match decode bytes e.1 with
  | .ok (ins, len) => (qalts own ret len e.2.2).any (fun x => decide (x = (ins, len))) && (qoffs e.2.2).all (fun off => decide (0 ≤ (e.1 : Int) + off)) && (match nx with
    | none => true
    | some e2 => decide (e2.1 = e.1 + len))
  | .error _ => false
theorem qchkL_of {own : Nat} {ret : Option FieldType} {bytes : ByteArray} : ∀ (l : List QE), (∀ (i : Nat) (e : QE), l[i]? = some e → qck1 own ret bytes e l[i + 1]? = true) → qchkL own ret bytes l = true
  | [], _ => rfl
  | e :: rest, h => by
    have h0 := h 0 e rfl
    have h1 := qchkL_of rest (fun i x hx => h (i + 1) x hx)
    rw [qchkL, Bool.and_eq_true]
    refine ⟨?_, h1⟩
    cases rest with
    | nil => exact h0
    | cons e2 r => exact h0
def qckN (a i : Nat) : Bool := match qc_L[a + i]? with
  | none => true
  | some e => qck1 8 ret code e qc_L[a + i + 1]?
theorem qck_0 : ∀ i, i < 30 → qckN 0 i = true := by decide +kernel
theorem qck_30 : ∀ i, i < 30 → qckN 30 i = true := by decide +kernel
theorem qck_60 : ∀ i, i < 30 → qckN 60 i = true := by decide +kernel
theorem qck_90 : ∀ i, i < 30 → qckN 90 i = true := by decide +kernel
theorem qck_120 : ∀ i, i < 30 → qckN 120 i = true := by decide +kernel
theorem qck_150 : ∀ i, i < 30 → qckN 150 i = true := by decide +kernel
theorem qck_180 : ∀ i, i < 30 → qckN 180 i = true := by decide +kernel
theorem qck_210 : ∀ i, i < 30 → qckN 210 i = true := by decide +kernel
theorem qck_240 : ∀ i, i < 30 → qckN 240 i = true := by decide +kernel
theorem qck_270 : ∀ i, i < 30 → qckN 270 i = true := by decide +kernel
theorem qck_300 : ∀ i, i < 30 → qckN 300 i = true := by decide +kernel
theorem qck_330 : ∀ i, i < 30 → qckN 330 i = true := by decide +kernel
theorem qck_360 : ∀ i, i < 30 → qckN 360 i = true := by decide +kernel
theorem qck_390 : ∀ i, i < 30 → qckN 390 i = true := by decide +kernel
theorem qck_420 : ∀ i, i < 30 → qckN 420 i = true := by decide +kernel
theorem qck_450 : ∀ i, i < 30 → qckN 450 i = true := by decide +kernel
theorem qck_480 : ∀ i, i < 30 → qckN 480 i = true := by decide +kernel
theorem qck_510 : ∀ i, i < 30 → qckN 510 i = true := by decide +kernel
theorem qck_540 : ∀ i, i < 30 → qckN 540 i = true := by decide +kernel
theorem qck_570 : ∀ i, i < 30 → qckN 570 i = true := by decide +kernel
theorem qck_600 : ∀ i, i < 30 → qckN 600 i = true := by decide +kernel
theorem qck_630 : ∀ i, i < 30 → qckN 630 i = true := by decide +kernel
theorem qck_660 : ∀ i, i < 30 → qckN 660 i = true := by decide +kernel
theorem qck_690 : ∀ i, i < 30 → qckN 690 i = true := by decide +kernel
theorem qck_720 : ∀ i, i < 30 → qckN 720 i = true := by decide +kernel
theorem qck_750 : ∀ i, i < 30 → qckN 750 i = true := by decide +kernel
theorem qck_780 : ∀ i, i < 30 → qckN 780 i = true := by decide +kernel
theorem qck_810 : ∀ i, i < 30 → qckN 810 i = true := by decide +kernel
theorem qck_840 : ∀ i, i < 30 → qckN 840 i = true := by decide +kernel
theorem qck_870 : ∀ i, i < 30 → qckN 870 i = true := by decide +kernel
theorem qck_900 : ∀ i, i < 30 → qckN 900 i = true := by decide +kernel
theorem qck_930 : ∀ i, i < 30 → qckN 930 i = true := by decide +kernel
theorem qck_960 : ∀ i, i < 30 → qckN 960 i = true := by decide +kernel
theorem qck_990 : ∀ i, i < 30 → qckN 990 i = true := by decide +kernel
theorem qck_1020 : ∀ i, i < 30 → qckN 1020 i = true := by decide +kernel
theorem qck_1050 : ∀ i, i < 30 → qckN 1050 i = true := by decide +kernel
theorem qck_1080 : ∀ i, i < 30 → qckN 1080 i = true := by decide +kernel
theorem qck_1110 : ∀ i, i < 30 → qckN 1110 i = true := by decide +kernel
theorem qck_1140 : ∀ i, i < 19 → qckN 1140 i = true := by decide +kernel
theorem qc_L_len : qc_L.length = 1159 := by decide +kernel
theorem qckN_at {a i j : Nat} (h : qckN a i = true) (e : a + i = j) : qckN 0 j = true := by
  subst e
  unfold qckN at h ⊢
  rw [Nat.zero_add]
  exact h
theorem qck_all : ∀ i, i < 1159 → qckN 0 i = true := by
  intro i hi
  by_cases h0 : i < 30
  · exact qckN_at (qck_0 (i - 0) (by omega)) (by omega)
  by_cases h30 : i < 60
  · exact qckN_at (qck_30 (i - 30) (by omega)) (by omega)
  by_cases h60 : i < 90
  · exact qckN_at (qck_60 (i - 60) (by omega)) (by omega)
  by_cases h90 : i < 120
  · exact qckN_at (qck_90 (i - 90) (by omega)) (by omega)
  by_cases h120 : i < 150
  · exact qckN_at (qck_120 (i - 120) (by omega)) (by omega)
  by_cases h150 : i < 180
  · exact qckN_at (qck_150 (i - 150) (by omega)) (by omega)
  by_cases h180 : i < 210
  · exact qckN_at (qck_180 (i - 180) (by omega)) (by omega)
  by_cases h210 : i < 240
  · exact qckN_at (qck_210 (i - 210) (by omega)) (by omega)
  by_cases h240 : i < 270
  · exact qckN_at (qck_240 (i - 240) (by omega)) (by omega)
  by_cases h270 : i < 300
  · exact qckN_at (qck_270 (i - 270) (by omega)) (by omega)
  by_cases h300 : i < 330
  · exact qckN_at (qck_300 (i - 300) (by omega)) (by omega)
  by_cases h330 : i < 360
  · exact qckN_at (qck_330 (i - 330) (by omega)) (by omega)
  by_cases h360 : i < 390
  · exact qckN_at (qck_360 (i - 360) (by omega)) (by omega)
  by_cases h390 : i < 420
  · exact qckN_at (qck_390 (i - 390) (by omega)) (by omega)
  by_cases h420 : i < 450
  · exact qckN_at (qck_420 (i - 420) (by omega)) (by omega)
  by_cases h450 : i < 480
  · exact qckN_at (qck_450 (i - 450) (by omega)) (by omega)
  by_cases h480 : i < 510
  · exact qckN_at (qck_480 (i - 480) (by omega)) (by omega)
  by_cases h510 : i < 540
  · exact qckN_at (qck_510 (i - 510) (by omega)) (by omega)
  by_cases h540 : i < 570
  · exact qckN_at (qck_540 (i - 540) (by omega)) (by omega)
  by_cases h570 : i < 600
  · exact qckN_at (qck_570 (i - 570) (by omega)) (by omega)
  by_cases h600 : i < 630
  · exact qckN_at (qck_600 (i - 600) (by omega)) (by omega)
  by_cases h630 : i < 660
  · exact qckN_at (qck_630 (i - 630) (by omega)) (by omega)
  by_cases h660 : i < 690
  · exact qckN_at (qck_660 (i - 660) (by omega)) (by omega)
  by_cases h690 : i < 720
  · exact qckN_at (qck_690 (i - 690) (by omega)) (by omega)
  by_cases h720 : i < 750
  · exact qckN_at (qck_720 (i - 720) (by omega)) (by omega)
  by_cases h750 : i < 780
  · exact qckN_at (qck_750 (i - 750) (by omega)) (by omega)
  by_cases h780 : i < 810
  · exact qckN_at (qck_780 (i - 780) (by omega)) (by omega)
  by_cases h810 : i < 840
  · exact qckN_at (qck_810 (i - 810) (by omega)) (by omega)
  by_cases h840 : i < 870
  · exact qckN_at (qck_840 (i - 840) (by omega)) (by omega)
  by_cases h870 : i < 900
  · exact qckN_at (qck_870 (i - 870) (by omega)) (by omega)
  by_cases h900 : i < 930
  · exact qckN_at (qck_900 (i - 900) (by omega)) (by omega)
  by_cases h930 : i < 960
  · exact qckN_at (qck_930 (i - 930) (by omega)) (by omega)
  by_cases h960 : i < 990
  · exact qckN_at (qck_960 (i - 960) (by omega)) (by omega)
  by_cases h990 : i < 1020
  · exact qckN_at (qck_990 (i - 990) (by omega)) (by omega)
  by_cases h1020 : i < 1050
  · exact qckN_at (qck_1020 (i - 1020) (by omega)) (by omega)
  by_cases h1050 : i < 1080
  · exact qckN_at (qck_1050 (i - 1050) (by omega)) (by omega)
  by_cases h1080 : i < 1110
  · exact qckN_at (qck_1080 (i - 1080) (by omega)) (by omega)
  by_cases h1110 : i < 1140
  · exact qckN_at (qck_1110 (i - 1110) (by omega)) (by omega)
  exact qckN_at (qck_1140 (i - 1140) (by omega)) (by omega)
theorem qc_L_ok : qchkL 8 ret code qc_L = true := qchkL_of qc_L fun i e he => by
  have h := qck_all i (by rw [← qc_L_len]; exact (List.getElem?_eq_some_iff.mp he).1)
  unfold qckN at h
  rw [Nat.zero_add, he] at h
  exact h
end
