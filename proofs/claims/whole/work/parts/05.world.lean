/-! the pure memory as cells of the machine's heap -/
def qenc (ad : QA → Nat) : QV → Value
  | .inl x => .int x
  | .inr (.inl x) => .long x
  | .inr (.inr o) => va_rf (o.map ad)
def qokv (sc : Bool) : QV → Prop
  | .inr (.inr (some a)) => qdom a = true ∨ (sc = true ∧ a = (99, 0, 0))
  | _ => True
theorem qcat_enc (ad : QA → Nat) (v : QV) : (qenc ad v).category = qcat v := by rcases v with x | x | _ | x <;> rfl
theorem qwd_enc (ad : QA → Nat) : ∀ st : List QV, ((st.map (qenc ad)).map fun v => v.category).sum = qwd st
  | [] => rfl
  | v :: st => by
    have := qwd_enc ad st
    simp only [List.map_cons, List.sum_cons, qcat_enc, this]
    rfl
def qfv (ad : QA → Nat) (μ : QM) (a : QA) (k : Nat) : Value := match qfK a.1 k with
  | 0 => .int (μ.1 a k)
  | 1 => .int (qbz (μ.1 a k))
  | _ => va_rf ((qfR a k).map ad)
def qtk (t : Nat) : Nat := if qeK t = 1 then 0 else if qeK t = 2 then 1 else if qeK t = 3 then 2 else if qeT t = 1 then 3 else if qeT t = 6 then 4 else 5
def qtys (cA : Nat → ClassId) : List (ClassId × FieldType) := [(cA 0, .int), (cA 1, .long), (cA 2, .boolean), (cA 3, .object "JealousByCalendar$Cause"), (cA 4, .object "JealousByCalendar$Choice"), (cA 5, .object "JealousByCalendar$Affair")]
def qarrf (ad : QA → Nat) (μ : QM) (a : QA) : (Nat → Int32) ⊕ (Nat → Int64) ⊕ (Nat → UInt32) ⊕ (Nat → UInt64) ⊕ (Nat → Option Nat) :=
  if qeK a.1 = 2 then .inr (.inl (μ.2.1 a)) else if qeK a.1 = 4 then .inr (.inr (.inr (.inr (fun i => some (ad (qeT a.1, a.2.1, i)))))) else if qeK a.1 = 5 then .inr (.inr (.inr (.inr (fun i => (μ.2.2 a i).map ad)))) else .inl (μ.1 a)
def qcell (ad : QA → Nat) (cA : Nat → ClassId) (μ : QM) (a : QA) : va_E := match qci a.1 with
  | some ci => .inr (ci, (List.range (qN ci)).map (qfv ad μ a))
  | none => .inl (cA (qtk a.1), qeL a.1, qarrf ad μ a)
def qdoml : List QA := (List.range 50).flatMap fun t => (List.range (qbnd t).1).flatMap fun j => (List.range (qbnd t).2).map fun c => (t, j, c)
theorem qbnd_out {t : Nat} (h : 50 ≤ t) : qbnd t = (0, 0) := by
  unfold qbnd
  rw [List.getD_eq_getElem?_getD, List.getElem?_eq_none (show qbnds.length ≤ t from h)]
  rfl
theorem qdom_lt {a : QA} (h : qdom a = true) : a.1 < 50 := by
  by_cases h2 : a.1 < 50
  · exact h2
  · unfold qdom at h
    rw [qbnd_out (by omega)] at h
    simp at h
theorem qdom_mem (a : QA) : qdom a = true ↔ a ∈ qdoml := by
  obtain ⟨t, j, c⟩ := a
  constructor
  · intro h
    have ht := qdom_lt h
    simp only [qdom, Bool.and_eq_true, decide_eq_true_eq] at h
    exact List.mem_flatMap.mpr ⟨t, List.mem_range.mpr ht, List.mem_flatMap.mpr ⟨j, List.mem_range.mpr h.1, List.mem_map.mpr ⟨c, List.mem_range.mpr h.2, rfl⟩⟩⟩
  · intro h
    obtain ⟨t', -, h⟩ := List.mem_flatMap.mp h
    obtain ⟨j', hj, h⟩ := List.mem_flatMap.mp h
    obtain ⟨c', hc, h⟩ := List.mem_map.mp h
    cases h
    simp only [qdom, Bool.and_eq_true, decide_eq_true_eq]
    exact ⟨List.mem_range.mp hj, List.mem_range.mp hc⟩
def qnd : List QA → Bool
  | [] => true
  | a :: l => decide (a ∉ l) && qnd l
theorem qnd_inj : ∀ (l : List QA), qnd l = true → ∀ (i j : Nat) (a : QA), l[i]? = some a → l[j]? = some a → i = j
  | [], _, i, j, a, h, _ => by simp at h
  | b :: l, hn, i, j, a, h1, h2 => by
    simp only [qnd, Bool.and_eq_true, decide_eq_true_eq] at hn
    cases i with
    | zero =>
      cases j with
      | zero => rfl
      | succ j =>
        rw [List.getElem?_cons_zero] at h1
        rw [List.getElem?_cons_succ] at h2
        cases h1
        exact absurd (List.mem_of_getElem? h2) hn.1
    | succ i =>
      rw [List.getElem?_cons_succ] at h1
      cases j with
      | zero =>
        rw [List.getElem?_cons_zero] at h2
        cases h2
        exact absurd (List.mem_of_getElem? h1) hn.1
      | succ j =>
        rw [List.getElem?_cons_succ] at h2
        rw [qnd_inj l hn.2 i j a h1 h2]
theorem qdoml_nd : qnd qdoml = true := by decide +kernel
def qwld (ad : QA → Nat) (cA : Nat → ClassId) (μ : QM) : va_W := qdoml.map fun a => (ad a, qcell ad cA μ a)
theorem qw_get {ad : QA → Nat} {cA : Nat → ClassId} {μ : QM} {i : Nat} {a : QA} (h : qdoml[i]? = some a) : (qwld ad cA μ)[i]? = some (ad a, qcell ad cA μ a) := by
  unfold qwld
  rw [List.getElem?_map, h]
  rfl
theorem qw_at {a : QA} (h : qdom a = true) : ∃ i : Nat, qdoml[i]? = some a := List.getElem?_of_mem ((qdom_mem a).mp h)
theorem qw_set {ad : QA → Nat} {cA : Nat → ClassId} {μ μ' : QM} {i : Nat} {a : QA} {x : va_E} (hi : qdoml[i]? = some a) (hx : x = qcell ad cA μ' a) (h : ∀ b, b ≠ a → qcell ad cA μ' b = qcell ad cA μ b) :
    (qwld ad cA μ).set i (ad a, x) = qwld ad cA μ' := by
  subst hx
  have hl : i < qdoml.length := (List.getElem?_eq_some_iff.mp hi).1
  apply List.ext_getElem?
  intro j
  by_cases hj : j = i
  · subst hj
    rw [qw_get hi, List.getElem?_set_self]
    unfold qwld
    rw [List.length_map]
    exact hl
  · rw [List.getElem?_set_ne (Ne.symm hj)]
    cases hq : qdoml[j]? with
    | none =>
      unfold qwld
      rw [List.getElem?_map, List.getElem?_map, hq]
      rfl
    | some b =>
      have hb : b ≠ a := fun e => hj (qnd_inj _ qdoml_nd j i a (e ▸ hq) hi)
      rw [qw_get hq, qw_get hq, h b hb]
theorem qcell_eq {ad : QA → Nat} {cA : Nat → ClassId} {μ μ' : QM} {b : QA} (h1 : μ'.1 b = μ.1 b) (h2 : μ'.2.1 b = μ.2.1 b) (h3 : μ'.2.2 b = μ.2.2 b) : qcell ad cA μ' b = qcell ad cA μ b := by
  have e : qfv ad μ' b = qfv ad μ b := by
    funext k
    unfold qfv
    rw [h1]
  unfold qcell qarrf
  rw [e, h1, h2, h3]
theorem qsi_ne {μ : QM} {a b : QA} {k : Nat} {v : Int32} (h : b ≠ a) : (qsi μ a k v).1 b = μ.1 b := by
  funext j
  exact if_neg (fun e => h e.1)
theorem qsl_ne {μ : QM} {a b : QA} {k : Nat} {v : Int64} (h : b ≠ a) : (qsl μ a k v).2.1 b = μ.2.1 b := by
  funext j
  exact if_neg (fun e => h e.1)
theorem qsr_ne {μ : QM} {a b : QA} {k : Nat} {v : Option QA} (h : b ≠ a) : (qsr μ a k v).2.2 b = μ.2.2 b := by
  funext j
  exact if_neg (fun e => h e.1)
theorem qsi_up (μ : QM) (a : QA) (k : Nat) (v : Int32) : (qsi μ a k v).1 a = upd (μ.1 a) k v := by
  funext j
  unfold qsi upd
  by_cases h : j = k
  · simp [h]
  · simp [h]
theorem qsl_up (μ : QM) (a : QA) (k : Nat) (v : Int64) : (qsl μ a k v).2.1 a = vp_updL (μ.2.1 a) k v := by
  funext j
  unfold qsl vp_updL
  by_cases h : j = k
  · simp [h]
  · simp [h]
theorem qsr_up (μ : QM) (a : QA) (k : Nat) (v : Option QA) (ad : QA → Nat) : (fun i => ((qsr μ a k v).2.2 a i).map ad) = va_up (fun i => (μ.2.2 a i).map ad) k (v.map ad) := by
  funext j
  unfold qsr va_up
  by_cases h : j = k
  · simp [h]
  · simp [h]
def QW (ad : QA → Nat) (cA : Nat → ClassId) (D : va_G) (A : Nat → Prop) (H0 : Heap) (μ : QM) (H : Heap) (locs : List Loc) : Prop := va_P D qcl (qwld ad cA μ) H ∧ va_D A (qwld ad cA μ) ∧ va_S A H0 H locs
theorem QW.inj {ad : QA → Nat} {cA : Nat → ClassId} {D : va_G} {A : Nat → Prop} {H0 : Heap} {μ : QM} {H : Heap} {locs : List Loc} (h : QW ad cA D A H0 μ H locs) {a b : QA} (ha : qdom a = true) (hb : qdom b = true) (e : ad a = ad b) : a = b := by
  obtain ⟨i, hi⟩ := qw_at ha
  obtain ⟨j, hj⟩ := qw_at hb
  have := h.2.1.1 i j _ _ (qw_get hi) (qw_get hj) e
  subst this
  exact Option.some.inj (hi.symm.trans hj)
theorem QW.in {ad : QA → Nat} {cA : Nat → ClassId} {D : va_G} {A : Nat → Prop} {H0 : Heap} {μ : QM} {H : Heap} {locs : List Loc} (h : QW ad cA D A H0 μ H locs) {a : QA} (ha : qdom a = true) : A (ad a) := by
  obtain ⟨i, hi⟩ := qw_at ha
  exact h.2.1.2 i _ (qw_get hi)
/-! the locals -/
def QLr (ad : QA → Nat) (sc : Bool) (ls : Array Slot) (nL : Nat) (L : QL) : Prop := ls.size = nL ∧ lv_wf ls ∧ L.length = nL ∧ ∀ (i : Nat) (v : QV), L[i]? = some (some v) → qokv sc v ∧ ls[i]? = some (.val (qenc ad v))
def qtoL (ad : QA → Nat) (L : QL) : List (Nat × Value) := L.zipIdx.filterMap fun o => o.1.map fun v => (o.2, qenc ad v)
theorem mem_qtoL {ad : QA → Nat} {L : QL} {q : Nat × Value} : q ∈ qtoL ad L ↔ ∃ v, L[q.1]? = some (some v) ∧ q.2 = qenc ad v := by
  unfold qtoL
  rw [List.mem_filterMap]
  constructor
  · rintro ⟨⟨o, i⟩, h1, h2⟩
    have h1 := List.mk_mem_zipIdx_iff_getElem?.mp h1
    cases o with
    | none => simp at h2
    | some v =>
      simp only [Option.map_some, Option.some.injEq] at h2
      subst h2
      exact ⟨v, h1, rfl⟩
  · rintro ⟨v, h1, h2⟩
    refine ⟨(some v, q.1), List.mk_mem_zipIdx_iff_getElem?.mpr h1, ?_⟩
    simp only [Option.map_some, ← h2]
theorem QLr.has {ad : QA → Nat} {sc : Bool} {ls : Array Slot} {nL : Nat} {L : QL} (h : QLr ad sc ls nL L) : lv_has ls nL (qtoL ad L) := ⟨h.1, h.2.1, fun q hq => by
  obtain ⟨v, h1, h2⟩ := mem_qtoL.mp hq
  rw [h2]
  exact (h.2.2.2 q.1 v h1).2⟩
theorem qput_len (L : QL) (i : Nat) (v : QV) : (qput L i v).length = L.length := by
  unfold qput
  split
  · simp
  · split <;> simp
theorem qput_get {L : QL} {i : Nat} {v : QV} {j : Nat} {w : QV} (h : (qput L i v)[j]? = some (some w)) : (j = i ∧ w = v) ∨ (j ≠ i ∧ L[j]? = some (some w) ∧ ¬ (j + 1 = i ∧ qcat w = 2)) := by
  unfold qput at h
  split at h
  · by_cases hj : j = 0
    · subst hj
      by_cases hl : 0 < L.length
      · rw [List.getElem?_set_self hl] at h
        exact Or.inl ⟨rfl, (Option.some.inj (Option.some.inj h)).symm⟩
      · rw [List.getElem?_eq_none (by rw [List.length_set]; omega)] at h
        cases h
    · rw [List.getElem?_set_ne (Ne.symm hj)] at h
      exact Or.inr ⟨hj, h, by omega⟩
  · rename_i i
    have key : ∀ L' : QL, L'.length = L.length → (∀ j w, L'[j]? = some (some w) → j ≠ i + 1 → L[j]? = some (some w) ∧ ¬ (j + 1 = i + 1 ∧ qcat w = 2)) → (L'.set (i + 1) (some v))[j]? = some (some w) → (j = i + 1 ∧ w = v) ∨ (j ≠ i + 1 ∧ L[j]? = some (some w) ∧ ¬ (j + 1 = i + 1 ∧ qcat w = 2)) := by
      intro L' hl hk h
      by_cases hj : j = i + 1
      · subst hj
        by_cases hl2 : i + 1 < L'.length
        · rw [List.getElem?_set_self hl2] at h
          exact Or.inl ⟨rfl, (Option.some.inj (Option.some.inj h)).symm⟩
        · rw [List.getElem?_eq_none (by rw [List.length_set]; omega)] at h
          cases h
      · rw [List.getElem?_set_ne (Ne.symm hj)] at h
        exact Or.inr ⟨hj, (hk j w h hj).1, (hk j w h hj).2⟩
    split at h
    · rename_i x hx
      refine key _ (by simp) (fun j w h hj => ?_) h
      by_cases hji : j = i
      · subst hji
        have hl2 : j < L.length := (List.getElem?_eq_some_iff.mp hx).1
        rw [List.getElem?_set_self hl2] at h
        cases h
      · rw [List.getElem?_set_ne (Ne.symm hji)] at h
        exact ⟨h, by omega⟩
    · rename_i hx
      refine key _ rfl (fun j w h hj => ⟨h, ?_⟩) h
      rintro ⟨e, hc⟩
      have e : j = i := by omega
      subst e
      rcases w with x | x | x
      · cases hc
      · exact hx x h
      · cases hc
theorem QLr.put1 {ad : QA → Nat} {sc : Bool} {ls ls' : Array Slot} {nL : Nat} {L : QL} {i : Nat} {v : QV} (h : QLr ad sc ls nL L) (hv : qokv sc v)
    (hs : lv_has ls' nL ((i, qenc ad v) :: (qtoL ad L).filter (fun q => !(q.1 == i) && !(q.1 + 1 == i && q.2.category == 2)))) : QLr ad sc ls' nL (qput L i v) := by
  refine ⟨hs.1, hs.2.1, (qput_len L i v).trans h.2.2.1, fun j w hj => ?_⟩
  rcases qput_get hj with ⟨rfl, rfl⟩ | ⟨h1, h2, h3⟩
  · exact ⟨hv, hs.2.2 _ List.mem_cons_self⟩
  · refine ⟨(h.2.2.2 j w h2).1, hs.2.2 (j, qenc ad w) (List.mem_cons_of_mem _ (List.mem_filter.mpr ⟨mem_qtoL.mpr ⟨w, h2, rfl⟩, ?_⟩))⟩
    simp only [qcat_enc, Bool.and_eq_true, Bool.not_eq_true', beq_eq_false_iff_ne, ne_eq, Bool.and_eq_false_iff]
    refine ⟨h1, ?_⟩
    by_cases e : j + 1 = i
    · exact Or.inr fun z => h3 ⟨e, z⟩
    · exact Or.inl e
theorem QLr.put2 {ad : QA → Nat} {sc : Bool} {ls ls' : Array Slot} {nL : Nat} {L : QL} {i : Nat} {v : QV} (h : QLr ad sc ls nL L) (hv : qokv sc v)
    (hs : lv_has ls' nL ((i, qenc ad v) :: (qtoL ad L).filter (fun q => !(q.1 == i) && (!(q.1 == i + 1) && !(q.1 + 1 == i && q.2.category == 2))))) : QLr ad sc ls' nL ((qput L i v).set (i + 1) none) := by
  refine ⟨hs.1, hs.2.1, by rw [List.length_set]; exact (qput_len L i v).trans h.2.2.1, fun j w hj => ?_⟩
  have hji : j ≠ i + 1 := by
    intro e
    subst e
    by_cases hl : i + 1 < (qput L i v).length
    · rw [List.getElem?_set_self hl] at hj
      cases hj
    · rw [List.getElem?_eq_none (by rw [List.length_set]; omega)] at hj
      cases hj
  rw [List.getElem?_set_ne (Ne.symm hji)] at hj
  rcases qput_get hj with ⟨rfl, rfl⟩ | ⟨h1, h2, h3⟩
  · exact ⟨hv, hs.2.2 _ List.mem_cons_self⟩
  · refine ⟨(h.2.2.2 j w h2).1, hs.2.2 (j, qenc ad w) (List.mem_cons_of_mem _ (List.mem_filter.mpr ⟨mem_qtoL.mpr ⟨w, h2, rfl⟩, ?_⟩))⟩
    simp only [qcat_enc, Bool.and_eq_true, Bool.not_eq_true', beq_eq_false_iff_ne, ne_eq, Bool.and_eq_false_iff]
    refine ⟨h1, hji, ?_⟩
    by_cases e : j + 1 = i
    · exact Or.inr fun z => h3 ⟨e, z⟩
    · exact Or.inl e
theorem qmask_get : ∀ (b : List Bool) (L : QL) (i : Nat) (v : QV), (qmask b L)[i]? = some (some v) → L[i]? = some (some v)
  | [], L, i, v, h => h
  | _ :: _, [], i, v, h => by simp [qmask] at h
  | b :: bs, x :: L, 0, v, h => by
    simp only [qmask, List.getElem?_cons_zero] at h ⊢
    cases b
    · cases h
    · exact h
  | b :: bs, x :: L, i + 1, v, h => by
    simp only [qmask, List.getElem?_cons_succ] at h ⊢
    exact qmask_get bs L i v h
theorem qmask_len : ∀ (b : List Bool) (L : QL), (qmask b L).length = L.length
  | [], L => rfl
  | _ :: _, [] => rfl
  | b :: bs, x :: L => by simp only [qmask, List.length_cons, qmask_len bs L]
theorem QLr.mask {ad : QA → Nat} {sc : Bool} {ls : Array Slot} {nL : Nat} {L : QL} (h : QLr ad sc ls nL L) (b : List Bool) : QLr ad sc ls nL (qmask b L) :=
  ⟨h.1, h.2.1, (qmask_len b L).trans h.2.2.1, fun i v hi => h.2.2.2 i v (qmask_get b L i v hi)⟩
