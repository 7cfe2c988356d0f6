/-! runs and calls of the pure machine are the machine's: contracts out of the pure calls -/
abbrev QP : Type := Nat × List Nat × Nat × List QE
def qchkL (own : Nat) (ret : Option FieldType) (bytes : ByteArray) : List QE → Bool
  | [] => true
  | e :: rest => (match decode bytes e.1 with
    | .ok (ins, len) => (qalts own ret len e.2.2).any (fun x => decide (x = (ins, len))) && (qoffs e.2.2).all (fun off => decide (0 ≤ (e.1 : Int) + off)) && (match rest with
      | [] => true
      | e2 :: _ => decide (e2.1 = e.1 + len))
    | .error _ => false) && qchkL own ret bytes rest
theorem qchkL_head {own : Nat} {ret : Option FieldType} {bytes : ByteArray} {e : QE} {rest : List QE} (h : qchkL own ret bytes (e :: rest) = true) :
    ∃ (ins : Instr) (len : Nat), decode bytes e.1 = .ok (ins, len) ∧ (ins, len) ∈ qalts own ret len e.2.2 ∧ (∀ off ∈ qoffs e.2.2, 0 ≤ (e.1 : Int) + off) ∧ (∀ (e2 : QE) (r2 : List QE), rest = e2 :: r2 → e2.1 = e.1 + len) ∧ qchkL own ret bytes rest = true := by
  rw [qchkL, Bool.and_eq_true] at h
  obtain ⟨h1, h2⟩ := h
  cases hd : decode bytes e.1 with
  | error x => rw [hd] at h1; cases h1
  | ok x =>
    obtain ⟨ins, len⟩ := x
    rw [hd] at h1
    simp only [Bool.and_eq_true, decide_eq_true_eq, List.all_eq_true, List.any_eq_true] at h1
    obtain ⟨⟨⟨x, h3, h6⟩, h4⟩, h5⟩ := h1
    subst h6
    refine ⟨ins, len, rfl, h3, h4, fun e2 r2 hr => ?_, h2⟩
    subst hr
    simpa using h5
theorem qfrom_spec {own : Nat} {ret : Option FieldType} {bytes : ByteArray} {pc : Nat} : ∀ (code : List QE), qchkL own ret bytes code = true → qfrom code pc = [] ∨ ∃ e rest, qfrom code pc = e :: rest ∧ e.1 = pc ∧ qchkL own ret bytes (e :: rest) = true
  | [], _ => Or.inl rfl
  | e :: code, h => by
    unfold qfrom
    rw [List.dropWhile_cons]
    by_cases hp : e.1 = pc
    · rw [if_neg (by simp [hp])]
      exact Or.inr ⟨e, code, rfl, hp, h⟩
    · rw [if_pos (by simp [hp])]
      obtain ⟨-, -, -, -, -, -, h2⟩ := qchkL_head h
      exact qfrom_spec code h2
section QR2
variable {p : Program} {l : Launch} {e : Env} {R : Room} {s : State} {m : MethodId} {args : Array Value} {below : List Frame} {meth : Method} {c : Code} {Q : State → Prop} {cells slots : Nat}
variable {own : Nat} {cc : ByteArray} {nL : Nat} {ret : Option FieldType} {D : va_G} {cA : Nat → ClassId} {ad : QA → Nat} {A : Nat → Prop} {H0 : Heap} {sc : Bool} {res : Option QV × QM}
/-- what a frame's calls, its reads of the script and its returns give -/
def qCtx (p : Program) (l : Launch) (e : Env) (R : Room) (s : State) (m : MethodId) (args : Array Value) (below : List Frame) (meth : Method) (c : Code) (Q : State → Prop) (cells slots own : Nat) (cc : ByteArray) (nL : Nat) (ret : Option FieldType) (D : va_G) (cA : Nat → ClassId) (ad : QA → Nat) (A : Nat → Prop) (H0 : Heap) (sc : Bool) (res : Option QV × QM) (call : QC) : Prop :=
  (∀ (pc : Nat) (ls : Array Slot) (μ : QM) (H : Heap) (locs : List Loc), ls.size = nL → QW ad cA D A H0 μ H locs → ∀ (y cp : Nat) (q : QMI) (nest : Bool) (idx : Nat), qmis[y]? = some q → (own, cp, y, nest, idx) ∈ qmt → decode cc pc = .ok (if q.2.2.2.2.1 = true then .invokestatic cp else .invokevirtual cp, 3) → ∀ (av rest : List QV) (r : Option QV) (μ' : QM), av.length = q.2.2.2.2.2.2.2.2.2 → call y av μ = some (r, μ') → (∀ v ∈ av, qokv sc v) → qwd rest ≤ 8 →
      (∀ (H' : Heap) (locs' : List Loc), QW ad cA D A H0 μ' H' locs' → W p l e R s m args below meth c H' locs' cells slots Q (F0 m (pc + 3) ls ((r.map (qenc ad)).toList ++ rest.map (qenc ad)))) →
      W p l e R s m args below meth c H locs cells slots Q (F0 m pc ls ((av.map (qenc ad)).reverse ++ rest.map (qenc ad)))) ∧
  (∀ (pc : Nat) (ls : Array Slot) (μ : QM) (H : Heap) (locs : List Loc), QW ad cA D A H0 μ H locs → sc = true → ∀ (i x : Int32) (μ' : QM) (rest : List Value), call 9999 [qI i] μ = some (some (.inl x), μ') → decode cc pc = .ok (.iaload, 1) → W p l e R s m args below meth c H locs cells slots Q (F0 m (pc + 1) ls (.int x :: rest)) → W p l e R s m args below meth c H locs cells slots Q (F0 m pc ls (.int i :: .ref (ad (99, 0, 0)) :: rest))) ∧
  (∀ (pc : Nat) (ls : Array Slot) (μ : QM) (H : Heap) (locs : List Loc), QW ad cA D A H0 μ H locs → sc = true → ∀ (x : Int32) (μ' : QM) (rest : List Value), call 9998 [] μ = some (some (.inl x), μ') → decode cc pc = .ok (.arraylength, 1) → W p l e R s m args below meth c H locs cells slots Q (F0 m (pc + 1) ls (.int x :: rest)) → W p l e R s m args below meth c H locs cells slots Q (F0 m pc ls (.ref (ad (99, 0, 0)) :: rest))) ∧
  (∀ (pc : Nat) (ls : Array Slot) (μ : QM) (H : Heap) (locs : List Loc), QW ad cA D A H0 μ H locs →
    (∀ x : Int32, decode cc pc = .ok (.ireturn, 1) → (ret = some .int ∨ (ret = some .boolean ∧ (x = 0 ∨ x = 1))) → res = (some (qI x), μ) → W p l e R s m args below meth c H locs cells slots Q (F0 m pc ls [.int x])) ∧
    (∀ x : Int64, decode cc pc = .ok (.lreturn, 1) → ret = some .long → res = (some (qL x), μ) → W p l e R s m args below meth c H locs cells slots Q (F0 m pc ls [.long x])) ∧
    (∀ x : Option QA, decode cc pc = .ok (.areturn, 1) → (∃ n, ret = some (.object n)) → res = (some (qO x), μ) → W p l e R s m args below meth c H locs cells slots Q (F0 m pc ls [va_rf (x.map ad)])) ∧
    (decode cc pc = .ok (.return_, 1) → ret = none → res = (none, μ) → W p l e R s m args below meth c H locs cells slots Q (F0 m pc ls [])))
theorem qsem_sound (E : qEnv p s m args c cc nL own D cA) (hs8 : sc = true → own = 8) (hR : 1 ≤ R.frames ∧ 21 ≤ R.locals ∧ cells ≤ R.cells ∧ slots ≤ R.slots) {call : QC}
    (X : qCtx p l e R s m args below meth c Q cells slots own cc nL ret D cA ad A H0 sc res call) {k : Nat → QL → List QV → QM → QR} {code : List QE}
    (Hk : ∀ (pc : Nat) (ls : Array Slot) (L : QL) (st : List QV) (μ : QM) (H : Heap) (locs : List Loc), qSt ad sc nL cA D A H0 ls L st μ H locs → k pc L st μ = some res → W p l e R s m args below meth c H locs cells slots Q (F0 m pc ls (st.map (qenc ad)))) :
    ∀ (rest : List QE) (e1 : QE), qchkL own ret cc (e1 :: rest) = true → ∀ (b : Bool) (ls : Array Slot) (L : QL) (st : List QV) (μ : QM) (H : Heap) (locs : List Loc), qSt ad sc nL cA D A H0 ls L st μ H locs → qsem call k code (e1 :: rest) b L st μ = some res →
      W p l e R s m args below meth c H locs cells slots Q (F0 m e1.1 ls (st.map (qenc ad))) := by
  intro rest
  induction rest with
  | nil =>
    intro e1 hchk b ls L st μ H locs hS h
    obtain ⟨ins, len, hd, hm, hjo, hnext, hrest⟩ := qchkL_head hchk
    have main : qop call (qsem call k code [] true) (qjmp k code e1.1) e1.2.2 L st μ = some res → W p l e R s m args below meth c H locs cells slots Q (F0 m e1.1 ls (st.map (qenc ad))) := by
      intro h
      refine qop_sound E hs8 hR hd hm hjo hS (fun y cp q nest idx hq he hdd => X.1 e1.1 ls μ H locs hS.1.1 hS.2.2 y cp q nest idx hq he hdd) (X.2.1 e1.1 ls μ H locs hS.2.2) (X.2.2.1 e1.1 ls μ H locs hS.2.2) (X.2.2.2 e1.1 ls μ H locs hS.2.2).1 (X.2.2.2 e1.1 ls μ H locs hS.2.2).2.1 (X.2.2.2 e1.1 ls μ H locs hS.2.2).2.2.1 (X.2.2.2 e1.1 ls μ H locs hS.2.2).2.2.2 ?_ ?_ h
      · intro ls2 L2 st2 μ2 H2 locs2 hS2 h2
        exact q_no h2
      · intro off t st2 ho ht hS2 h2
        unfold qjmp at h2
        rw [ht] at h2
        exact Hk t ls _ st2 μ H locs ⟨hS2.1.mask _, hS2.2⟩ h2
    obtain ⟨pc, lv, o⟩ := e1
    cases b with
    | false => exact main h
    | true =>
      cases lv with
      | none => exact main h
      | some mk => exact Hk pc ls _ st μ H locs ⟨hS.1.mask _, hS.2⟩ h
  | cons e2 rest ih =>
    intro e1 hchk b ls L st μ H locs hS h
    obtain ⟨ins, len, hd, hm, hjo, hnext, hrest⟩ := qchkL_head hchk
    have main : qop call (qsem call k code (e2 :: rest) true) (qjmp k code e1.1) e1.2.2 L st μ = some res → W p l e R s m args below meth c H locs cells slots Q (F0 m e1.1 ls (st.map (qenc ad))) := by
      intro h
      refine qop_sound E hs8 hR hd hm hjo hS (fun y cp q nest idx hq he hdd => X.1 e1.1 ls μ H locs hS.1.1 hS.2.2 y cp q nest idx hq he hdd) (X.2.1 e1.1 ls μ H locs hS.2.2) (X.2.2.1 e1.1 ls μ H locs hS.2.2) (X.2.2.2 e1.1 ls μ H locs hS.2.2).1 (X.2.2.2 e1.1 ls μ H locs hS.2.2).2.1 (X.2.2.2 e1.1 ls μ H locs hS.2.2).2.2.1 (X.2.2.2 e1.1 ls μ H locs hS.2.2).2.2.2 ?_ ?_ h
      · intro ls2 L2 st2 μ2 H2 locs2 hS2 h2
        rw [← hnext e2 rest rfl]
        exact ih e2 hrest true ls2 L2 st2 μ2 H2 locs2 hS2 h2
      · intro off t st2 ho ht hS2 h2
        unfold qjmp at h2
        rw [ht] at h2
        exact Hk t ls _ st2 μ H locs ⟨hS2.1.mask _, hS2.2⟩ h2
    obtain ⟨pc, lv, o⟩ := e1
    cases b with
    | false => exact main h
    | true =>
      cases lv with
      | none => exact main h
      | some mk => exact Hk pc ls _ st μ H locs ⟨hS.1.mask _, hS.2⟩ h
theorem qrunF_sound (E : qEnv p s m args c cc nL own D cA) (hs8 : sc = true → own = 8) (hR : 1 ≤ R.frames ∧ 21 ≤ R.locals ∧ cells ≤ R.cells ∧ slots ≤ R.slots) {call : QC}
    (X : qCtx p l e R s m args below meth c Q cells slots own cc nL ret D cA ad A H0 sc res call) {code : List QE} (hchk : qchkL own ret cc code = true) :
    ∀ (n pc : Nat) (ls : Array Slot) (L : QL) (st : List QV) (μ : QM) (H : Heap) (locs : List Loc), qSt ad sc nL cA D A H0 ls L st μ H locs → qrunF call code n pc L st μ = some res → W p l e R s m args below meth c H locs cells slots Q (F0 m pc ls (st.map (qenc ad)))
  | 0, pc, ls, L, st, μ, H, locs, hS, h => q_no h
  | n + 1, pc, ls, L, st, μ, H, locs, hS, h => by
    have h3 : qsem call (qrunF call code n) code (qfrom code pc) false L st μ = some res := h
    rcases qfrom_spec (pc := pc) code hchk with h0 | ⟨e1, rest, h0, h1, h2⟩
    · rw [h0] at h3
      exact q_no h3
    · rw [h0] at h3
      rw [← h1]
      exact qsem_sound E hs8 hR X (qrunF_sound E hs8 hR X hchk n) rest e1 h2 false ls L st μ H locs hS h3
theorem qrun_sound (E : qEnv p s m args c cc nL own D cA) (hs8 : sc = true → own = 8) (hR : 1 ≤ R.frames ∧ 21 ≤ R.locals ∧ cells ≤ R.cells ∧ slots ≤ R.slots) {call : QC}
    (X : qCtx p l e R s m args below meth c Q cells slots own cc nL ret D cA ad A H0 sc res call) {code : List QE} (hchk : qchkL own ret cc code = true)
    {pc : Nat} {ls : Array Slot} {L : QL} {st : List QV} {μ : QM} {H : Heap} {locs : List Loc} (hS : qSt ad sc nL cA D A H0 ls L st μ H locs) (h : qrun call code pc L st μ = some res) : W p l e R s m args below meth c H locs cells slots Q (F0 m pc ls (st.map (qenc ad))) := by
  obtain ⟨n, hn⟩ := qsup_some h
  exact qrunF_sound E hs8 hR X hchk n pc ls L st μ H locs hS hn
end QR2
/-! the pure calls -/
def qarg1 (sg : Nat) : QV → Bool
  | .inl _ => sg == 0
  | .inr (.inl _) => sg == 1
  | .inr (.inr none) => false
  | .inr (.inr (some a)) => (a.1 + 2 == sg || sg == 1000) && qdom a
def qargs : List Nat → List QV → Bool
  | [], [] => true
  | s :: ss, v :: vs => qarg1 s v && qargs ss vs
  | _, _ => false
def qexp : List QV → QL
  | [] => []
  | v :: vs => match v with
    | .inr (.inl x) => some (qL x) :: none :: qexp vs
    | v => some v :: qexp vs
def qent (nL : Nat) (av : List QV) : QL := qexp av ++ List.replicate (nL - (qexp av).length) none
noncomputable def qcall (ps : List QP) : Nat → QC
  | 0 => fun _ _ _ => none
  | d + 1 => fun y av μ => match ps[y]? with
    | none => none
    | some pr => bif qargs pr.2.1 av && decide ((qexp av).length ≤ pr.2.2.1) then qrun (qcall ps d) pr.2.2.2 0 (qent pr.2.2.1 av) [] μ else none
theorem qargs_ok : ∀ (sg : List Nat) (av : List QV), qargs sg av = true → ∀ v ∈ av, qokv false v
  | [], [], _, v, hv => by cases hv
  | [], _ :: _, h, v, hv => by cases h
  | _ :: _, [], h, v, hv => by cases h
  | s :: ss, u :: vs, h, v, hv => by
    simp only [qargs, Bool.and_eq_true] at h
    rcases List.mem_cons.mp hv with rfl | hv
    · rcases v with x | x | _ | a
      · trivial
      · trivial
      · trivial
      · have h1 := h.1
        simp only [qarg1, Bool.and_eq_true] at h1
        exact Or.inl h1.2
    · exact qargs_ok ss vs h.2 v hv
theorem qexp_len (ad : QA → Nat) : ∀ av : List QV, (lg_sl (av.map (qenc ad))).length = (qexp av).length
  | [] => rfl
  | v :: av => by
    have ih := qexp_len ad av
    unfold lg_sl at ih ⊢
    rw [List.map_cons, List.flatMap_cons, List.length_append, ih]
    rcases v with x | x | _ | a
    · simp only [qexp, List.length_cons]; rw [if_neg (by rw [qcat_enc]; show ¬ (1 = 2); decide)]; simp; omega
    · simp only [qexp, List.length_cons]; rw [if_pos (by rfl)]; simp; omega
    · simp only [qexp, List.length_cons]; rw [if_neg (by rw [qcat_enc]; show ¬ (1 = 2); decide)]; simp; omega
    · simp only [qexp, List.length_cons]; rw [if_neg (by rw [qcat_enc]; show ¬ (1 = 2); decide)]; simp; omega
theorem lva1 {k : Nat} {v : Value} {vs : List Value} (h : v.category = 1) : lv_args k (v :: vs) = (k, v) :: lv_args (k + 1) vs := by
  rw [lv_args, if_neg (by omega)]
theorem lva2 {k : Nat} {v : Value} {vs : List Value} (h : v.category = 2) : lv_args k (v :: vs) = (k, v) :: lv_args (k + 2) vs := by
  rw [lv_args, if_pos h]
theorem qexp_get (ad : QA → Nat) : ∀ (av : List QV) (k i : Nat) (v : QV), (qexp av)[i]? = some (some v) → v ∈ av ∧ (k + i, qenc ad v) ∈ lv_args k (av.map (qenc ad))
  | [], k, i, v, h => by simp [qexp] at h
  | u :: av, k, i, v, h => by
    have one : qcat u = 1 → (some u :: qexp av)[i]? = some (some v) → v ∈ u :: av ∧ (k + i, qenc ad v) ∈ lv_args k ((u :: av).map (qenc ad)) := by
      intro hc h
      rw [List.map_cons, lva1 (by rw [qcat_enc]; exact hc)]
      cases i with
      | zero =>
        rw [List.getElem?_cons_zero] at h
        cases h
        exact ⟨List.mem_cons_self, List.mem_cons_self⟩
      | succ i =>
        rw [List.getElem?_cons_succ] at h
        obtain ⟨h1, h2⟩ := qexp_get ad av (k + 1) i v h
        refine ⟨List.mem_cons_of_mem _ h1, List.mem_cons_of_mem _ ?_⟩
        rw [show k + (i + 1) = k + 1 + i by omega]
        exact h2
    rcases u with x | x | x
    · exact one rfl h
    · rw [List.map_cons, lva2 (by rfl)]
      match i, h with
      | 0, h =>
        cases h
        exact ⟨List.mem_cons_self, List.mem_cons_self⟩
      | 1, h => cases h
      | i + 2, h =>
        obtain ⟨h1, h2⟩ := qexp_get ad av (k + 2) i v h
        refine ⟨List.mem_cons_of_mem _ h1, List.mem_cons_of_mem _ ?_⟩
        rw [show k + (i + 2) = k + 2 + i by omega]
        exact h2
    · exact one rfl h
theorem qent_ok {ad : QA → Nat} {nL : Nat} {av : List QV} (hl : (qexp av).length ≤ nL) (hv : ∀ v ∈ av, qokv false v) {ls : Array Slot} (h : lv_has ls nL (lv_args 0 (av.map (qenc ad)))) : QLr ad false ls nL (qent nL av) := by
  refine ⟨h.1, h.2.1, by unfold qent; rw [List.length_append, List.length_replicate]; omega, fun i v hi => ?_⟩
  have hi2 : (qexp av)[i]? = some (some v) := by
    unfold qent at hi
    by_cases hlt : i < (qexp av).length
    · rw [List.getElem?_append_left hlt] at hi
      exact hi
    · rw [List.getElem?_append_right (by omega)] at hi
      have := List.eq_of_mem_replicate (List.mem_of_getElem? hi)
      cases this
  obtain ⟨h1, h2⟩ := qexp_get ad av 0 i v hi2
  rw [Nat.zero_add] at h2
  exact ⟨hv v h1, h.2.2 _ h2⟩
def qrm (d : Nat) : Room := { frames := d, cells := 0, slots := 0, locals := 64 * d }
def qPre (ad : QA → Nat) (cA : Nat → ClassId) (D : va_G) (μ : QM) : State → Prop := fun U => va_P D qcl (qwld ad cA μ) U.heap ∧ va_K D qcl (qtys cA) U ∧ va_D (fun _ => True) (qwld ad cA μ) ∧ qNst U
def qfree (ad : QA → Nat) : Nat → Prop := fun q => ∃ a, qdom a = true ∧ q = ad a
def qPost (ad : QA → Nat) (cA : Nat → ClassId) (D : va_G) (r : Option QV) (μ' : QM) : Array Value → State → Outcome → State → Prop := fun _ st oc t => oc = .returned (r.map (qenc ad)) ∧ va_P D qcl (qwld ad cA μ') t.heap ∧ va_F (qfree ad) st t
def qws (q : QMI) : List Cond := Cond.code q.1 q.2.1 q.2.2.1 q.2.2.2.1 :: gtb
def qMet (l : Launch) (ad : QA → Nat) (cA : Nat → ClassId) (D : va_G) (d : Nat) (q : QMI) (av : List QV) (μ : QM) (r : Option QV) (μ' : QM) : Prop :=
  Met l q.1 (qws q) (qrm d) (va_Pc (av.map (qenc ad)) (qPre ad cA D μ)) (qPost ad cA D r μ') 0 0 (qfree ad)
theorem qPre.blind {ad : QA → Nat} {cA : Nat → ClassId} {D : va_G} {μ : QM} {as : List Value} : FrameBlind (va_Pc as (qPre ad cA D μ)) := by
  intro a U g mk h
  obtain ⟨h0, h1, h2, h3, h4⟩ := h
  exact ⟨h0, h1, va_K.moved (u := U) (U := U.calling g mk a) (Vm.Alike.refl U.vm) h2, h3, qNst.same (s := U) (U := U.calling g mk a) rfl h4⟩
theorem qwld_D {ad : QA → Nat} {cA : Nat → ClassId} {μ μ' : QM} {A : Nat → Prop} (h : va_D A (qwld ad cA μ)) : va_D A (qwld ad cA μ') := by
  have key : ∀ (k : Nat) (q : Nat × va_E), (qwld ad cA μ')[k]? = some q → ∃ q0, (qwld ad cA μ)[k]? = some q0 ∧ q0.1 = q.1 := by
    intro k q hk
    unfold qwld at hk ⊢
    rw [List.getElem?_map] at hk ⊢
    cases hq : qdoml[k]? with
    | none => rw [hq] at hk; cases hk
    | some a =>
      rw [hq] at hk
      cases hk
      exact ⟨_, rfl, rfl⟩
  refine ⟨fun i j x y hi hj hxy => ?_, fun k q hk => ?_⟩
  · obtain ⟨x0, h1, h2⟩ := key i x hi
    obtain ⟨y0, h3, h4⟩ := key j y hj
    exact h.1 i j x0 y0 h1 h3 (h2.trans (hxy.trans h4.symm))
  · obtain ⟨q0, h1, h2⟩ := key k q hk
    rw [← h2]
    exact h.2 k q0 h1
section QR3
variable {p : Program} {l : Launch} {e : Env} {R : Room} {s : State} {m : MethodId} {args : Array Value} {below : List Frame} {meth : Method} {c : Code} {Q : State → Prop} {cells slots : Nat}
variable {own : Nat} {cc : ByteArray} {nL : Nat} {D : va_G} {cA : Nat → ClassId} {ad : QA → Nat} {A : Nat → Prop} {H0 : Heap}
/-- a call, by the callee's contract -/
theorem q_call (E : qEnv p s m args c cc nL own D cA) {d : Nat} (hR : d + 1 ≤ R.frames ∧ 64 * (d + 1) ≤ R.locals ∧ cells ≤ R.cells ∧ slots ≤ R.slots)
    {pc : Nat} {ls : Array Slot} {μ : QM} {H : Heap} {locs : List Loc} (hsz : ls.size = nL) (hW : QW ad cA D A H0 μ H locs) {y cp : Nat} {q : QMI} {nest : Bool} {idx : Nat}
    (hq : qmis[y]? = some q) (he : (own, cp, y, nest, idx) ∈ qmt) (hd : decode cc pc = .ok (if q.2.2.2.2.1 = true then .invokestatic cp else .invokevirtual cp, 3))
    {av rest : List QV} {r : Option QV} {μ' : QM} (hlen : av.length = q.2.2.2.2.2.2.2.2.2) (hM : qMet l ad cA D d q av μ r μ')
    (hrec : q.2.2.2.2.1 = false → ∃ (a : QA) (av' : List QV) (ci : Nat), av = qR a :: av' ∧ qdom a = true ∧ qci a.1 = some ci ∧ ci < 8 ∧ qownS ci = q.1.cls)
    (hwd : qwd rest ≤ 8)
    (kk : ∀ (H' : Heap) (locs' : List Loc), QW ad cA D A H0 μ' H' locs' → W p l e R s m args below meth c H' locs' cells slots Q (F0 m (pc + 3) ls ((r.map (qenc ad)).toList ++ rest.map (qenc ad)))) :
    W p l e R s m args below meth c H locs cells slots Q (F0 m pc ls ((av.map (qenc ad)).reverse ++ rest.map (qenc ad))) := by
  obtain ⟨hx, hb, hml, hown, hts, hK, hNs⟩ := E
  obtain ⟨hok, hcd⟩ := qmis_ok q (List.mem_of_getElem? hq)
  have h0 := qmt_ok _ he
  dsimp only at h0
  have hnm : qname y = q.1 := by unfold qname; rw [hq]; rfl
  obtain ⟨yn, bytes, maxL, ret, st, i0, i1, i2, i3, n⟩ := q
  simp only [qmiOk, Bool.and_eq_true, Bool.or_eq_true, decide_eq_true_eq] at hok
  obtain ⟨⟨⟨⟨⟨⟨⟨⟨hini, hin⟩, hsel⟩, hpl⟩, hy1⟩, hy2⟩, hyi⟩, hdesc⟩, hmx⟩ := hok
  dsimp only at hlen hd hrec hnm hcd hM
  have hrms : (qrm d).frames + 1 ≤ R.frames ∧ 8 + (maxL + 11) + (qrm d).locals ≤ R.locals := by
    unfold qrm
    dsimp only
    omega
  have hG : GoodIn gtb (qws (yn, bytes, maxL, ret, st, i0, i1, i2, i3, n)) := by
    intro w hw
    rcases List.mem_cons.mp hw with rfl | hw
    · exact ⟨gtb_of hcd rfl, Or.inl rfl⟩
    · exact gtb_good (fun _ h => h) w hw
  have hini2 : (Cond.initialized yn.cls).before args s = true := hts _ (gtb_at hini rfl)
  have hfr : ∀ q, qfree ad q → A q := by
    rintro q ⟨a, ha, rfl⟩
    exact hW.in ha
  have hPre : ∀ U : State, U.heap = H → s.WarmedH U.vm → va_Pc (av.map (qenc ad)) (qPre ad cA D μ) (av.map (qenc ad)).toArray U := fun U hU hWm => ⟨rfl, by rw [hU]; exact hW.1, va_K.moved hWm.alike hK, hW.2.1.weaken (fun _ _ _ _ => trivial), hNs.warm hWm⟩
  have fin : ∀ (As : Array Value) (st0 : List Value), va_Run p l e R s m args below meth c H locs cells slots 0 0 (F0 m pc ls st0) (rest.map (qenc ad)) (qPost ad cA D r μ' As) (qfree ad) → W p l e R s m args below meth c H locs cells slots Q (F0 m pc ls st0) := by
    intro As st0 hr T hT X
    obtain ⟨v, st₀, t, T', L, h0, X', hL, e1, e2, ⟨hv, hP, hz, hk⟩, st⟩ := hr T hT X
    cases hv
    rw [h0] at hz hk
    have hS := hW.2.2
    obtain ⟨t2, a1, b1⟩ := kk T'.heap (locs ++ L) ⟨by rw [e1]; exact hP, qwld_D hW.2.1, ⟨Nat.le_trans hS.1 (by rw [e1]; exact hz), fun q h1 h2 => by rw [e1, hk q (Nat.lt_of_lt_of_le h1 hS.1) (fun z => h2 (hfr q z))]; exact hS.2.1 q h1 h2, fun q hq => by
      rcases List.mem_append.mp hq with h | h
      · exact hS.2.2 q h
      · exact hfr _ (hL q h)⟩⟩ T' rfl X'
    exact ⟨t2, st t2 a1, b1⟩
  have CF : CallFix p m c cc nL s args gtb (qownS own) := ⟨hx, hb, hml, hown, hts⟩
  have hwd2 : 2 * (F0 m pc ls ([] : List Value)).monitorRoom + ((rest.map (qenc ad)).map fun v => v.category).sum ≤ 8 := lv_room (by rw [qwd_enc]; exact hwd)
  cases st with
  | true =>
    have hd : decode cc pc = .ok (.invokestatic cp, 3) := hd
    have hstt : (Cond.static yn).before args s = true := hts _ (gtb_at hin rfl)
    have hds : (parseMethodDescriptor yn.desc).map (fun d => d.parameters.length) = some n := by simpa using hdesc
    refine fin (av.map (qenc ad)).toArray _ ?_
    cases nest with
    | false =>
      have hl : (Cond.methodLink (qownS own) cp yn).before args s = true := hts _ (gtb_at (by rw [h0]; unfold qmw; rw [hnm]; rfl) rfl)
      exact va_runS CF hM ⟨callB_of n hts hG rfl rfl rfl hini2 hl ⟨hy1, hy2, hds⟩ hrms, hstt⟩ ⟨qPre.blind, hPre⟩ rfl (by rw [List.length_map]; exact hlen) hsz rfl hwd2 hd ⟨hR.2.2.1, hR.2.2.2⟩
    | true =>
      have hl : va_Nw (.methodLinkNest (qownS own) cp yn "JealousByCalendar") s := hNs _ (List.mem_of_getElem? (by rw [h0]; unfold qmw; rw [hnm]; rfl)) rfl
      exact va_runSN CF hM ⟨va_cnB n hts hG rfl rfl rfl hl hini2 ⟨hy1, hy2, hds⟩ hrms, hstt, trivial⟩ ⟨qPre.blind, hPre⟩ rfl (by rw [List.length_map]; exact hlen) hsz rfl hwd2 hd ⟨hR.2.2.1, hR.2.2.2⟩
  | false =>
    have hd : decode cc pc = .ok (.invokevirtual cp, 3) := hd
    obtain ⟨a, av', ci, hav, hdom, hci, hci8, hcls⟩ := hrec rfl
    subst hav
    have hinst : (Cond.instanceMethod yn).before args s = true := hts _ (gtb_at hin rfl)
    have hsl : (Cond.selects yn.cls yn yn).before args s = true := hts _ (gtb_at (hsel.elim (fun h => by cases h) (fun h => h)) rfl)
    have hds : (parseMethodDescriptor yn.desc).map (fun d => d.parameters.length) = some (av'.map (qenc ad)).length := by
      rw [List.length_map]
      rw [List.length_cons] at hlen
      cases hpd : parseMethodDescriptor yn.desc with
      | none => rw [hpd] at hdesc; simp at hdesc
      | some x =>
        rw [hpd] at hdesc
        simp at hdesc ⊢
        omega
    obtain ⟨i, hi⟩ := qw_at hdom
    have hget := qw_get (ad := ad) (cA := cA) (μ := μ) hi
    rw [show qcell ad cA μ a = .inr (ci, (List.range (qN ci)).map (qfv ad μ a)) by unfold qcell; rw [hci]] at hget
    have hrc := va_recv hK hW.1 (qcl_get hci8) hget
    rw [hcls] at hrc
    have hstk : ((qR a :: av').map (qenc ad)).reverse ++ rest.map (qenc ad) = (av'.map (qenc ad)).reverse ++ .ref (ad a) :: rest.map (qenc ad) := by
      rw [List.map_cons, List.reverse_cons, List.append_assoc]
      rfl
    refine fin (Value.ref (ad a) :: av'.map (qenc ad)).toArray _ ?_
    rw [hstk]
    cases nest with
    | false =>
      have hl : (Cond.methodLink (qownS own) cp yn).before args s = true := hts _ (gtb_at (by rw [h0]; unfold qmw; rw [hnm]; rfl) rfl)
      exact va_runV CF hM ⟨callB_of _ hts hG rfl rfl rfl hini2 hl ⟨hy1, hy2, hds⟩ hrms, hinst, hsl⟩ ⟨qPre.blind, hrc, hPre⟩ rfl rfl hsz rfl hwd2 hd ⟨hR.2.2.1, hR.2.2.2⟩
    | true =>
      have hl : va_Nw (.methodLinkNest (qownS own) cp yn "JealousByCalendar") s := hNs _ (List.mem_of_getElem? (by rw [h0]; unfold qmw; rw [hnm]; rfl)) rfl
      exact va_runVN CF hM ⟨va_cnB _ hts hG rfl rfl rfl hl hini2 ⟨hy1, hy2, hds⟩ hrms, hinst, hsl⟩ ⟨qPre.blind, hrc, hPre⟩ rfl rfl hsz rfl hwd2 hd ⟨hR.2.2.1, hR.2.2.2⟩
end QR3
/-- a program's row fits its method -/
def qpok (y : Nat) (pr : QP) : Bool := match qmis[y]? with
  | none => false
  | some q => decide (qownS pr.1 = q.1.cls) && decide (pr.1 ≠ 8) && decide (pr.2.2.1 = q.2.2.1) && decide (pr.2.1.length = q.2.2.2.2.2.2.2.2.2) && (q.2.2.2.2.1 || (match pr.2.1 with
      | sg :: _ => decide (2 ≤ sg) && decide (sg < 52) && decide (qci (sg - 2) = some pr.1) && decide (pr.1 < 8)
      | [] => false)) && qchkL pr.1 q.2.2.2.1 q.2.1 pr.2.2.2
theorem qargs_len : ∀ (sg : List Nat) (av : List QV), qargs sg av = true → av.length = sg.length
  | [], [], _ => rfl
  | [], _ :: _, h => by cases h
  | _ :: _, [], h => by cases h
  | s :: ss, u :: vs, h => by
    simp only [qargs, Bool.and_eq_true] at h
    rw [List.length_cons, List.length_cons, qargs_len ss vs h.2]
theorem qmet (l : Launch) (ad : QA → Nat) (cA : Nat → ClassId) (D : va_G) (ps : List QP) (hps : ∀ (y : Nat) (pr : QP), ps[y]? = some pr → qpok y pr = true) (hps2 : ps.length ≤ 9998) :
    ∀ (d y : Nat) (av : List QV) (μ : QM) (r : Option QV) (μ' : QM), qcall ps d y av μ = some (r, μ') → ∃ (q : QMI) (pr : QP), qmis[y]? = some q ∧ ps[y]? = some pr ∧ qpok y pr = true ∧ qargs pr.2.1 av = true ∧ qMet l ad cA D d q av μ r μ'
  | 0, y, av, μ, r, μ', h => q_no h
  | d + 1, y, av, μ, r, μ', h => by
    rw [qcall] at h
    dsimp only at h
    cases hp : ps[y]? with
    | none => rw [hp] at h; exact q_no h
    | some pr =>
      rw [hp] at h
      have hk := hps y pr hp
      cases hga : (qargs pr.2.1 av && decide ((qexp av).length ≤ pr.2.2.1)) with
      | false => simp only [hga] at h; exact q_no h
      | true =>
        simp only [hga] at h
        have h : qrun (qcall ps d) pr.2.2.2 0 (qent pr.2.2.1 av) [] μ = some (r, μ') := h
        rw [Bool.and_eq_true, decide_eq_true_eq] at hga
        obtain ⟨hga, hexl⟩ := hga
        have hk0 := hk
        unfold qpok at hk
        cases hq : qmis[y]? with
        | none => rw [hq] at hk; cases hk
        | some q =>
          rw [hq] at hk
          simp only [Bool.and_eq_true, decide_eq_true_eq] at hk
          obtain ⟨⟨⟨⟨⟨k1, k2⟩, k3⟩, k4⟩, k5⟩, k6⟩ := hk
          refine ⟨q, pr, rfl, rfl, hk0, hga, ?_⟩
          obtain ⟨hok, hcd⟩ := qmis_ok q (List.mem_of_getElem? hq)
          have hpl : plainFor q.1 = true := by
            obtain ⟨yn, bytes, maxL, ret, st, i0, i1, i2, i3, n⟩ := q
            simp only [qmiOk, Bool.and_eq_true, Bool.or_eq_true, decide_eq_true_eq] at hok
            exact hok.1.1.1.1.1.2
          refine va_MetF (cc := q.2.1) (maxL := q.2.2.1) (ret := q.2.2.2.1) hpl rfl ?_
          intro p e s m args below meth c s₁ B hml hv
          obtain ⟨rfl, hP, hK, hD0, hN⟩ := hv
          have hts := atoms_spec (ws := qws q) B.pre
          have hown : s.vm.findClass (qownS pr.1) = some m.cls := by rw [k1]; exact findClass_of_methodNamed B.named
          have E : qEnv p s m (av.map (qenc ad)).toArray c q.2.1 q.2.2.1 pr.1 D cA := ⟨B.exec, B.bytes, hml, hown, fun w hw => hts w (List.mem_cons_of_mem _ hw), hK, hN⟩
          have hlocks := B.notSynchronized
          have hret := B.returns
          have hW : QW ad cA D (qfree ad) s.heap μ s.heap [] := ⟨hP, ⟨hD0.1, fun k x hx => by
            unfold qwld at hx
            rw [List.getElem?_map] at hx
            cases hz : qdoml[k]? with
            | none => rw [hz] at hx; cases hx
            | some a =>
              rw [hz] at hx
              cases hx
              exact ⟨a, (qdom_mem a).mpr (List.mem_of_getElem? hz), rfl⟩⟩, va_S.rf⟩
          have X : qCtx p l e (headSpec (qws q) (qrm (d + 1))).room s m (av.map (qenc ad)).toArray below meth c (MQ below (qPost ad cA D r μ') (av.map (qenc ad)).toArray s 0 0 (qfree ad)) 0 0 pr.1 q.2.1 q.2.2.1 q.2.2.2.1 D cA ad (qfree ad) s.heap false (r, μ') (qcall ps d) := by
            have hroom : (headSpec (qws q) (qrm (d + 1))).room = qrm (d + 1) := rfl
            refine ⟨fun pc ls μ1 H locs hsz hW1 y1 cp q1 nest idx hq1 he hdd av1 rest r1 μ2 hlen hcl hokv hwd kk => ?_, fun _ _ _ _ _ _ z => (by cases z), fun _ _ _ _ _ _ z => (by cases z), fun pc ls μ1 H locs hW1 => ⟨fun x hdg hr he => ?_, fun x hdg hr he => ?_, fun x hdg hr he => ?_, fun hdg hr he => ?_⟩⟩
            · obtain ⟨q2, pr2, hq2, hp2, hk2, hga2, hM2⟩ := qmet l ad cA D ps hps hps2 d y1 av1 μ1 r1 μ2 hcl
              cases hq1.symm.trans hq2
              refine q_call E (d := d) ⟨by rw [hroom]; exact Nat.le_refl _, by rw [hroom]; exact Nat.le_refl _, Nat.zero_le _, Nat.zero_le _⟩ hsz hW1 hq1 he hdd hlen hM2 ?_ hwd kk
              intro hst
              unfold qpok at hk2
              rw [hq1] at hk2
              simp only [Bool.and_eq_true, decide_eq_true_eq, hst, Bool.false_or] at hk2
              obtain ⟨⟨⟨⟨⟨j1, -⟩, -⟩, -⟩, j5⟩, -⟩ := hk2
              cases hsg : pr2.2.1 with
              | nil => rw [hsg] at j5; cases j5
              | cons sg ss =>
                rw [hsg] at j5 hga2
                simp only [Bool.and_eq_true, decide_eq_true_eq] at j5
                obtain ⟨⟨⟨j6, j7⟩, j8⟩, j9⟩ := j5
                cases av1 with
                | nil => cases hga2
                | cons u us =>
                  simp only [qargs, Bool.and_eq_true] at hga2
                  rcases u with x | x | _ | a
                  · simp only [qarg1, beq_iff_eq] at hga2; omega
                  · simp only [qarg1, beq_iff_eq] at hga2; omega
                  · simp [qarg1] at hga2
                  · simp only [qarg1, Bool.and_eq_true, Bool.or_eq_true, beq_iff_eq] at hga2
                    obtain ⟨⟨h1, h2⟩, -⟩ := hga2
                    refine ⟨a, us, pr2.1, rfl, h2, ?_, j9, j1⟩
                    rw [show a.1 = sg - 2 by omega]
                    exact j8
            · cases he
              have hF := hW1.2.2
              rcases hr with hr | ⟨hr, h01⟩
              · exact W.zret (ty := .int) B.exec B.bytes (hret.trans hr) rfl (fun t ht _ => ⟨rfl, by rw [ht]; exact hW1.1, hF.F ht⟩) hF.2.2 hdg hlocks
              · exact W.zret (ty := .boolean) B.exec B.bytes (hret.trans hr) (by rcases h01 with rfl | rfl <;> rfl) (fun t ht _ => ⟨rfl, by rw [ht]; exact hW1.1, hF.F ht⟩) hF.2.2 hdg hlocks
            · cases he
              have hF := hW1.2.2
              exact W.lret B.exec B.bytes (hret.trans hr) (fun t ht _ => ⟨rfl, by rw [ht]; exact hW1.1, hF.F ht⟩) hF.2.2 hdg hlocks
            · cases he
              have hF := hW1.2.2
              obtain ⟨n, hr⟩ := hr
              exact W.aret B.exec B.bytes (hret.trans hr) (Or.inl ⟨n, rfl⟩) (by rcases x with _ | a; exact Or.inl rfl; exact Or.inr ⟨_, rfl⟩) (fun t ht _ => ⟨rfl, by rw [ht]; exact hW1.1, hF.F ht⟩) hF.2.2 hdg hlocks
            · cases he
              have hF := hW1.2.2
              exact W.vret B.exec B.bytes (hret.trans hr) (fun t ht _ => ⟨rfl, by rw [ht]; exact hW1.1, hF.F ht⟩) hF.2.2 hdg hlocks
          have hl := lv_entry (av.map (qenc ad)) (n := q.2.2.1) (by rw [qexp_len, ← k3]; exact hexl)
          rw [lg_entry_eq]
          generalize (lg_sl (av.map (qenc ad)) ++ List.replicate (q.2.2.1 - (lg_sl (av.map (qenc ad))).length) Slot.unset).toArray = ls at hl ⊢
          have hL : QLr ad false ls q.2.2.1 (qent pr.2.2.1 av) := by
            rw [k3]
            exact qent_ok (by rw [← k3]; exact hexl) (qargs_ok _ _ hga) hl
          exact qrun_sound E (fun z => (by cases z)) ⟨Nat.le_add_left 1 d, by show 21 ≤ 64 * (d + 1); omega, Nat.zero_le _, Nat.zero_le _⟩ X k6 (st := []) ⟨hL, fun v hv => (by cases hv), hW⟩ h
