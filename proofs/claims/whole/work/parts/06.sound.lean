/-! the pure machine's steps are the machine's -/
def qnargs (y : Nat) : Nat := ((qmis[y]?).map fun q => q.2.2.2.2.2.2.2.2.2).getD 99
def qstat (y : Nat) : Bool := ((qmis[y]?).map fun q => q.2.2.2.2.1).getD false
def qalts (own : Nat) (ret : Option FieldType) (len : Nat) (o : Instr) : List (Instr × Nat) := match o with
  | .sipush n => [(.iconst n, 1)] ++ ((if (Int8.ofInt n).toInt32 = Int32.ofInt n then [(.bipush n, 2)] else []) ++ ((if (Int16.ofInt n).toInt32 = Int32.ofInt n then [(.sipush n, 3)] else []) ++ qct.flatMap fun e => if e.1 = own ∧ e.2.2.1 = n then [(.ldc e.2.1, 2), (.ldc_w e.2.1, 3)] else []))
  | .goto_w n => (if n = 0 then [(.lconst 0, 1)] else if n = 1 then [(.lconst 1, 1)] else []) ++ qclt.flatMap fun e => if e.1 = own ∧ e.2.2.1 = n then [(.ldc2_w e.2.1, 3)] else []
  | .iload i => (if h : i < 4 then [(.iload_n ⟨i, h⟩, 1)] else []) ++ [(.iload i, 2)]
  | .lload i => (if h : i < 4 then [(.lload_n ⟨i, h⟩, 1)] else []) ++ [(.lload i, 2)]
  | .aload i => (if h : i < 4 then [(.aload_n ⟨i, h⟩, 1)] else []) ++ [(.aload i, 2)]
  | .istore i => (if h : i < 4 then [(.istore_n ⟨i, h⟩, 1)] else []) ++ [(.istore i, 2)]
  | .lstore i => (if h : i < 4 then [(.lstore_n ⟨i, h⟩, 1)] else []) ++ [(.lstore i, 2)]
  | .astore i => (if h : i < 4 then [(.astore_n ⟨i, h⟩, 1)] else []) ++ [(.astore i, 2)]
  | .iinc i n => [(.iinc i n, 3)]
  | .getfield r => qft.flatMap fun e => if e.1 = own ∧ e.2.2.1 = r ∧ own ≠ 8 then [(.getfield e.2.1, 3)] else []
  | .putfield r => qft.flatMap fun e => if e.1 = own ∧ e.2.2.1 = r ∧ own ≠ 8 then [(.putfield e.2.1, 3)] else []
  | .invokeinterface y c => qmt.flatMap fun e => if e.1 = own ∧ e.2.2.1 = y ∧ c / 8 % 8 = qnargs y then [(if qstat y = true then .invokestatic e.2.1 else .invokevirtual e.2.1, 3)] else []
  | .fadd => qxt.flatMap fun e => if e.1 = own ∧ e.2.2.1 = 0 then [(.invokestatic e.2.1, 3)] else []
  | .fsub => qxt.flatMap fun e => if e.1 = own ∧ e.2.2.1 = 1 then [(.invokestatic e.2.1, 3)] else []
  | .fneg => qxt.flatMap fun e => if e.1 = own ∧ e.2.2.1 = 2 then [(.invokestatic e.2.1, 3)] else []
  | .faload => [(.iaload, 1)]
  | .fload _ => [(.arraylength, 1)]
  | .ireturn => if ret = some .int then [(.ireturn, 1)] else []
  | .freturn => if ret = some .boolean then [(.ireturn, 1)] else []
  | .lreturn => if ret = some .long then [(.lreturn, 1)] else []
  | .areturn => (match ret with
    | some (.object _) => [(.areturn, 1)]
    | _ => [])
  | .return_ => if ret = none then [(.return_, 1)] else []
  | .ifCond c off => [(.ifCond c off, 3)]
  | .if_icmp c off => [(.if_icmp c off, 3)]
  | .if_acmp c off => if own ≠ 8 then [(.if_acmp c off, 3)] else []
  | .ifnull off => [(.ifnull off, 3)]
  | .ifnonnull off => [(.ifnonnull off, 3)]
  | .goto off => [(.goto off, 3)]
  | .tableswitch d lo hi offs => if hi - lo + 1 = (offs.toList.length : Nat) ∧ -2147483648 ≤ lo ∧ hi < 2147483648 then [(.tableswitch d lo hi offs, len)] else []
  | .lookupswitch d ps => if (ps.toList.zip (ps.toList.drop 1)).all (fun (a, next) => a.1 < next.1) = true ∧ ps.toList.all (fun q => decide (-2147483648 ≤ q.1) && decide (q.1 < 2147483648)) = true then [(.lookupswitch d ps, len)] else []
  | .aconst_null => [(.aconst_null, 1)]
  | .dup => [(.dup, 1)]
  | .dup2 => [(.dup2, 1)]
  | .pop => [(.pop, 1)]
  | .iadd => [(.iadd, 1)]
  | .isub => [(.isub, 1)]
  | .imul => [(.imul, 1)]
  | .iand => [(.iand, 1)]
  | .ior => [(.ior, 1)]
  | .ixor => [(.ixor, 1)]
  | .ishl => [(.ishl, 1)]
  | .ishr => [(.ishr, 1)]
  | .iushr => [(.iushr, 1)]
  | .idiv => [(.idiv, 1)]
  | .irem => [(.irem, 1)]
  | .ineg => [(.ineg, 1)]
  | .ladd => [(.ladd, 1)]
  | .lsub => [(.lsub, 1)]
  | .lmul => [(.lmul, 1)]
  | .lor => [(.lor, 1)]
  | .ldiv => [(.ldiv, 1)]
  | .lrem => [(.lrem, 1)]
  | .lshl => [(.lshl, 1)]
  | .i2l => [(.i2l, 1)]
  | .lcmp => [(.lcmp, 1)]
  | .arraylength => if own ≠ 8 then [(.arraylength, 1)] else []
  | .iaload => if own ≠ 8 then [(.iaload, 1)] else []
  | .baload => if own ≠ 8 then [(.baload, 1)] else []
  | .laload => if own ≠ 8 then [(.laload, 1)] else []
  | .aaload => if own ≠ 8 then [(.aaload, 1)] else []
  | .iastore => if own ≠ 8 then [(.iastore, 1)] else []
  | .bastore => if own ≠ 8 then [(.bastore, 1)] else []
  | .lastore => if own ≠ 8 then [(.lastore, 1)] else []
  | .aastore => if own ≠ 8 then [(.aastore, 1)] else []
  | _ => []
def qoffs (o : Instr) : List Int := match o with
  | .ifCond _ off => [off]
  | .if_icmp _ off => [off]
  | .if_acmp _ off => [off]
  | .ifnull off => [off]
  | .ifnonnull off => [off]
  | .goto off => [off]
  | .tableswitch d _ _ offs => d :: offs.toList
  | .lookupswitch d ps => d :: ps.toList.map (fun q => q.2)
  | _ => []
theorem q_no {P : Prop} {r : Option QV × QM} (h : (none : QR) = some r) : P := by cases h
theorem qsw_tab {jp : Int → QR} {x : Int32} {d : Int} {res : Option QV × QM} : ∀ (offs : List Int) (lo : Int), -2147483648 ≤ lo → lo + offs.length ≤ 2147483648 → qsw jp x d (qtab lo offs) = some res →
    ((x.toInt < lo ∨ lo + offs.length ≤ x.toInt) ∧ jp d = some res) ∨ (∃ (i : Nat) (off : Int), offs[i]? = some off ∧ x.toInt = lo + i ∧ jp off = some res)
  | [], lo, _, _, h => Or.inl ⟨by rw [List.length_nil]; omega, h⟩
  | o :: r, lo, h1, h2, h => by
    rw [List.length_cons] at h2
    have hx : (Int32.ofInt lo).toInt = lo := Int32.toInt_ofInt_of_le (by omega) (by omega)
    by_cases hc : x = Int32.ofInt lo
    · simp only [qtab, qsw, if_pos hc] at h
      exact Or.inr ⟨0, o, rfl, by rw [hc, hx]; omega, h⟩
    · simp only [qtab, qsw, if_neg hc] at h
      have hne : x.toInt ≠ lo := fun q => hc (Int32.toInt_inj.mp (by rw [hx]; exact q))
      rcases qsw_tab r (lo + 1) (by omega) (by omega) h with ⟨h3, h4⟩ | ⟨i, off, h3, h4, h5⟩
      · exact Or.inl ⟨by rw [List.length_cons]; omega, h4⟩
      · exact Or.inr ⟨i + 1, off, h3, by omega, h5⟩
theorem qsw_lk {jp : Int → QR} {x : Int32} {d : Int} {res : Option QV × QM} : ∀ (ps : List (Int × Int)), ps.all (fun q => decide (-2147483648 ≤ q.1) && decide (q.1 < 2147483648)) = true → qsw jp x d ps = some res →
    ∃ off, Op.lookupswitch.offset ps d x.toInt = off ∧ off ∈ d :: ps.map (fun q => q.2) ∧ jp off = some res
  | [], _, h => ⟨d, rfl, List.mem_cons_self, h⟩
  | (a, o) :: r, hr, h => by
    simp only [List.all_cons, Bool.and_eq_true, decide_eq_true_eq] at hr
    have hx : (Int32.ofInt a).toInt = a := Int32.toInt_ofInt_of_le (by omega) (by omega)
    by_cases hc : x = Int32.ofInt a
    · simp only [qsw, if_pos hc] at h
      refine ⟨o, ?_, by simp, h⟩
      rw [Op.lookupswitch.offset_cons, if_pos]
      rw [hc, hx]
    · simp only [qsw, if_neg hc] at h
      obtain ⟨off, h1, h2, h3⟩ := qsw_lk r hr.2 h
      refine ⟨off, ?_, ?_, h3⟩
      · rw [lv_osw hc hx]; exact h1
      · simp only [List.map_cons, List.mem_cons] at h2 ⊢
        rcases h2 with h2 | h2
        · exact Or.inl h2
        · exact Or.inr (Or.inr h2)
theorem q_if {b : Bool} {r : QR} {res : Option QV × QM} (h : (bif b then none else r) = some res) : b = false ∧ r = some res := by
  cases b
  · exact ⟨rfl, h⟩
  · cases h
theorem q_ite {c : Prop} [i : Decidable c] {r : QR} {res : Option QV × QM} (h : (if c then r else none) = some res) : c ∧ r = some res := by
  by_cases hc : c
  · rw [if_pos hc] at h; exact ⟨hc, h⟩
  · rw [if_neg hc] at h; cases h
theorem q_iteN {c : Prop} [i : Decidable c] {r : QR} {res : Option QV × QM} (h : (if c then none else r) = some res) : ¬ c ∧ r = some res := by
  by_cases hc : c
  · rw [if_pos hc] at h; cases h
  · rw [if_neg hc] at h; exact ⟨hc, h⟩
theorem qoob_in {x : Int32} {n : Nat} (h : qoob x n = false) : vp_in x n := by
  unfold qoob at h
  simp only [Bool.or_eq_false_iff, decide_eq_false_iff_not] at h
  exact fun q => q.elim h.1 h.2
theorem q_cons {sc : Bool} {v : QV} {st : List QV} (hv : qokv sc v) (h : ∀ u ∈ st, qokv sc u) : ∀ u ∈ v :: st, qokv sc u := fun u hu => (List.mem_cons.mp hu).elim (fun e => e ▸ hv) (h u)
theorem q_tl {sc : Bool} {v : QV} {st : List QV} (h : ∀ u ∈ v :: st, qokv sc u) : ∀ u ∈ st, qokv sc u := fun u hu => h u (List.mem_cons_of_mem _ hu)
theorem qpop_spec : ∀ (n : Nat) (st acc av st' : List QV), qpop n st acc = some (av, st') → ∃ pre : List QV, st = pre ++ st' ∧ av = pre.reverse ++ acc ∧ pre.length = n
  | 0, st, acc, av, st', h => by
    cases h
    exact ⟨[], rfl, rfl, rfl⟩
  | n + 1, [], acc, av, st', h => by cases h
  | n + 1, v :: st, acc, av, st', h => by
    obtain ⟨pre, h1, h2, h3⟩ := qpop_spec n st (v :: acc) av st' h
    exact ⟨v :: pre, by rw [h1]; rfl, by rw [h2]; simp, by rw [List.length_cons, h3]⟩
theorem q_flat {α : Type} {l : List α} {f : α → List (Instr × Nat)} {x : Instr × Nat} (h : x ∈ l.flatMap f) : ∃ e ∈ l, x ∈ f e := List.mem_flatMap.mp h
theorem q_one {c : Prop} [i : Decidable c] {x y : Instr × Nat} (h : x ∈ if c then [y] else []) : c ∧ x = y := by
  by_cases hc : c
  · rw [if_pos hc] at h; exact ⟨hc, List.mem_singleton.mp h⟩
  · rw [if_neg hc] at h; cases h
theorem q_done {c : Prop} [i : Decidable c] {f : c → Instr × Nat} {x y : Instr × Nat} (h : x ∈ (if h : c then [f h] else []) ++ [y]) : (∃ hc : c, x = f hc) ∨ x = y := by
  rcases List.mem_append.mp h with h | h
  · by_cases hc : c
    · rw [dif_pos hc] at h; exact Or.inl ⟨hc, List.mem_singleton.mp h⟩
    · rw [dif_neg hc] at h; cases h
  · exact Or.inr (List.mem_singleton.mp h)
/-- what the tables say of a kind of objects -/
theorem qfK_of {t ci k : Nat} (ht : t < 50) (h : qci t = some ci) (hk : k < qN ci) : ci < 8 ∧ (qT ci k).1 = qownS ci ∧ ((qfK t k = 0 ∧ qty ci k = .int ∧ (qT ci k).2.2.2 = false) ∨ (qfK t k = 1 ∧ qty ci k = .boolean ∧ (qT ci k).2.2.2 = false) ∨ (qfK t k = 2 ∧ (qT ci k).2.2.2 = true)) := by
  have h1 := qfK_all t ht
  rw [h] at h1
  simp only [Option.map_some, Option.getD_some, Bool.and_eq_true, decide_eq_true_eq, List.all_eq_true, List.mem_range] at h1
  obtain ⟨h2, h3⟩ := h1
  have h4 := h3 k hk
  simp only [qfKc, Bool.and_eq_true, Bool.or_eq_true, Bool.not_eq_true', decide_eq_true_eq] at h4
  refine ⟨h2, h4.1, ?_⟩
  rcases h4.2 with (⟨⟨a, b⟩, c⟩ | ⟨⟨a, b⟩, c⟩) | ⟨a, b⟩
  · exact Or.inl ⟨a, b, c⟩
  · exact Or.inr (Or.inl ⟨a, b, c⟩)
  · exact Or.inr (Or.inr ⟨a, b⟩)
theorem qci_none : ∀ t, t < 50 → (qeK t ≠ 0 → qci t = none) := by decide +kernel
theorem qtk_ok : ∀ t, t < 50 → qeK t ≠ 0 → (qeK t = 1 ∧ qtk t = 0) ∨ (qeK t = 2 ∧ qtk t = 1) ∨ (qeK t = 3 ∧ qtk t = 2) ∨ ((qeK t = 4 ∨ qeK t = 5) ∧ (qtk t = 3 ∧ qeT t = 1 ∨ qtk t = 4 ∧ qeT t = 6 ∨ qtk t = 5 ∧ qeT t = 2)) := by decide +kernel
theorem qel_ok : ∀ t, t < 50 → qeK t = 4 → (qbnd (qeT t)).1 = (qbnd t).1 ∧ (qbnd (qeT t)).2 = qeL t := by decide +kernel
def qfrok (t k : Nat) : Bool := match (qfrs.getD t []).getD k none with
  | none => true
  | some (t', b, j, c) => decide (t' < 50) && (bif b then decide ((qbnd t').1 = (qbnd t).1) else decide (j < (qbnd t').1)) && decide (c < (qbnd t').2)
theorem qfr_ok : ∀ t, t < 50 → ∀ k, k < 38 → qfrok t k = true := by decide +kernel
theorem qN_le : ∀ ci, ci < 8 → qN ci ≤ 38 := by decide +kernel
theorem qfR_dom {a b : QA} {k : Nat} (ha : qdom a = true) (hk : k < 38) (h : qfR a k = some b) : qdom b = true := by
  have h1 := qfr_ok a.1 (qdom_lt ha) k hk
  unfold qfrok at h1
  unfold qfR at h
  cases hq : (qfrs.getD a.1 []).getD k none with
  | none => rw [hq] at h; cases h
  | some x =>
    obtain ⟨t', bb, j, c⟩ := x
    rw [hq] at h h1
    simp only [Option.some.injEq] at h
    subst h
    simp only [qdom, Bool.and_eq_true, decide_eq_true_eq] at ha h1 ⊢
    cases bb
    · simp only [cond_false, decide_eq_true_eq] at h1 ⊢
      exact ⟨h1.1.2, h1.2⟩
    · simp only [cond_true, decide_eq_true_eq] at h1 ⊢
      exact ⟨by rw [h1.1.2]; exact ha.1, h1.2⟩
theorem qbz_eq {x : Int32} (h : x = 0 ∨ x = 1) : qbz x = x := by
  rcases h with rfl | rfl <;> decide
theorem qbz_01 (x : Int32) : qbz x = 0 ∨ qbz x = 1 := by
  unfold qbz
  by_cases h : x = 0
  · exact Or.inl (if_pos h)
  · exact Or.inr (if_neg h)
section QS
variable {p : Program} {l : Launch} {e : Env} {R : Room} {s : State} {m : MethodId} {args : Array Value} {below : List Frame} {meth : Method} {c : Code} {Q : State → Prop} {cells slots : Nat}
variable {own : Nat} {cc : ByteArray} {nL : Nat} {ret : Option FieldType} {D : va_G} {cA : Nat → ClassId} {ad : QA → Nat} {A : Nat → Prop} {H0 : Heap} {sc : Bool} {res : Option QV × QM}
def qisN : Cond → Bool
  | .fieldLinkNest .. => true
  | .methodLinkNest .. => true
  | _ => false
/-- the links of nest mates: they hold as the tables warm -/
def qNst (s : State) : Prop := ∀ w ∈ lw_tbl, qisN w = true → va_Nw w s
theorem qNst.warm {s U : State} (hW : s.WarmedH U.vm) (h : qNst s) : qNst U := by
  intro w hw hn
  have h1 := h w hw hn
  cases w <;> first | exact va_Nw.warmF hW h1 | exact va_Nw.warmM hW h1 | (cases hn)
theorem qNst.same {s U : State} (hvm : s.vm = U.vm) (h : qNst s) : qNst U := by
  intro w hw hn
  have h1 := h w hw hn
  cases w <;> first | exact va_Nw.same rfl hvm h1 | (cases hn)
theorem qNst.of {s : State} {args : Array Value} (h : ∀ w ∈ lw_tbl, w.before args s = true) : qNst s := by
  intro w hw hn
  have h1 := h w hw
  cases w <;> first | exact va_Nw.of rfl h1 | (cases hn)
def qEnv (p : Program) (s : State) (m : MethodId) (args : Array Value) (c : Code) (cc : ByteArray) (nL own : Nat) (D : va_G) (cA : Nat → ClassId) : Prop :=
  p.tables.exec = Jvm.exec ∧ c.code = cc ∧ c.maxLocals = nL ∧ s.vm.findClass (qownS own) = some m.cls ∧ (∀ w ∈ gtb, w.before args s = true) ∧ va_K D qcl (qtys cA) s ∧ qNst s
/-- one state's whole -/
def qSt (ad : QA → Nat) (sc : Bool) (nL : Nat) (cA : Nat → ClassId) (D : va_G) (A : Nat → Prop) (H0 : Heap) (ls : Array Slot) (L : QL) (st : List QV) (μ : QM) (H : Heap) (locs : List Loc) : Prop :=
  QLr ad sc ls nL L ∧ (∀ v ∈ st, qokv sc v) ∧ QW ad cA D A H0 μ H locs
set_option maxHeartbeats 8000000 in
set_option maxRecDepth 20000 in
theorem qop_sound (E : qEnv p s m args c cc nL own D cA) (hs8 : sc = true → own = 8) (hR : 1 ≤ R.frames ∧ 21 ≤ R.locals ∧ cells ≤ R.cells ∧ slots ≤ R.slots) {call : QC} {nx : QL → List QV → QM → QR} {jp : Int → QL → List QV → QM → QR} {o ins : Instr} {pc len : Nat} {ls : Array Slot} {L : QL} {st : List QV} {μ : QM} {H : Heap} {locs : List Loc}
    (hd : decode cc pc = .ok (ins, len)) (hm : (ins, len) ∈ qalts own ret len o) (hjo : ∀ off ∈ qoffs o, 0 ≤ (pc : Int) + off)
    (hS : qSt ad sc nL cA D A H0 ls L st μ H locs)
    (HC : ∀ (y cp : Nat) (q : QMI) (nest : Bool) (idx : Nat), qmis[y]? = some q → (own, cp, y, nest, idx) ∈ qmt → decode cc pc = .ok (if q.2.2.2.2.1 = true then .invokestatic cp else .invokevirtual cp, 3) → ∀ (av rest : List QV) (r : Option QV) (μ' : QM), av.length = q.2.2.2.2.2.2.2.2.2 → call y av μ = some (r, μ') → (∀ v ∈ av, qokv sc v) → qwd rest ≤ 8 →
      (∀ (H' : Heap) (locs' : List Loc), QW ad cA D A H0 μ' H' locs' → W p l e R s m args below meth c H' locs' cells slots Q (F0 m (pc + 3) ls ((r.map (qenc ad)).toList ++ rest.map (qenc ad)))) →
      W p l e R s m args below meth c H locs cells slots Q (F0 m pc ls ((av.map (qenc ad)).reverse ++ rest.map (qenc ad))))
    (HS1 : sc = true → ∀ (i x : Int32) (μ' : QM) (rest : List Value), call 9999 [qI i] μ = some (some (.inl x), μ') → decode cc pc = .ok (.iaload, 1) → W p l e R s m args below meth c H locs cells slots Q (F0 m (pc + 1) ls (.int x :: rest)) → W p l e R s m args below meth c H locs cells slots Q (F0 m pc ls (.int i :: .ref (ad (99, 0, 0)) :: rest)))
    (HS2 : sc = true → ∀ (x : Int32) (μ' : QM) (rest : List Value), call 9998 [] μ = some (some (.inl x), μ') → decode cc pc = .ok (.arraylength, 1) → W p l e R s m args below meth c H locs cells slots Q (F0 m (pc + 1) ls (.int x :: rest)) → W p l e R s m args below meth c H locs cells slots Q (F0 m pc ls (.ref (ad (99, 0, 0)) :: rest)))
    (HRi : ∀ x : Int32, decode cc pc = .ok (.ireturn, 1) → (ret = some .int ∨ (ret = some .boolean ∧ (x = 0 ∨ x = 1))) → res = (some (qI x), μ) → W p l e R s m args below meth c H locs cells slots Q (F0 m pc ls [.int x]))
    (HRl : ∀ x : Int64, decode cc pc = .ok (.lreturn, 1) → ret = some .long → res = (some (qL x), μ) → W p l e R s m args below meth c H locs cells slots Q (F0 m pc ls [.long x]))
    (HRa : ∀ x : Option QA, decode cc pc = .ok (.areturn, 1) → (∃ n, ret = some (.object n)) → res = (some (qO x), μ) → W p l e R s m args below meth c H locs cells slots Q (F0 m pc ls [va_rf (x.map ad)]))
    (HRv : decode cc pc = .ok (.return_, 1) → ret = none → res = (none, μ) → W p l e R s m args below meth c H locs cells slots Q (F0 m pc ls []))
    (Hnx : ∀ (ls : Array Slot) (L : QL) (st : List QV) (μ : QM) (H : Heap) (locs : List Loc), qSt ad sc nL cA D A H0 ls L st μ H locs → nx L st μ = some res → W p l e R s m args below meth c H locs cells slots Q (F0 m (pc + len) ls (st.map (qenc ad))))
    (Hjp : ∀ (off : Int) (t : Nat) (st : List QV), off ∈ qoffs o → (pc : Int) + off = (t : Int) → qSt ad sc nL cA D A H0 ls L st μ H locs → jp off L st μ = some res → W p l e R s m args below meth c H locs cells slots Q (F0 m t ls (st.map (qenc ad))))
    (h : qop call nx jp o L st μ = some res) : W p l e R s m args below meth c H locs cells slots Q (F0 m pc ls (st.map (qenc ad))) := by
  obtain ⟨hx, hb, hml, hown, hts, hK, hNs⟩ := E
  obtain ⟨hL, hst, hW⟩ := hS
  have jt : ∀ off ∈ qoffs o, ∃ t : Nat, (pc : Int) + off = (t : Int) := fun off ho => ⟨((pc : Int) + off).toNat, (Int.toNat_of_nonneg (hjo off ho)).symm⟩
  cases o
  case sipush n =>
    have hN := Hnx _ _ _ _ _ _ ⟨hL, q_cons (v := qI (Int32.ofInt n)) trivial hst, hW⟩ h
    rcases List.mem_append.mp hm with hm | hm
    · cases List.mem_singleton.mp hm
      exact lv_iconst hx hb hd rfl hN
    rcases List.mem_append.mp hm with hm | hm
    · obtain ⟨h1, h2⟩ := q_one hm
      cases h2
      exact lv_bipush hx hb hd h1 hN
    rcases List.mem_append.mp hm with hm | hm
    · obtain ⟨h1, h2⟩ := q_one hm
      cases h2
      exact lv_sipush hx hb hd h1 hN
    · obtain ⟨⟨o1, cp, v, idx⟩, he, h2⟩ := q_flat hm
      have h0 := qct_ok _ he
      by_cases hc : o1 = own ∧ v = n
      · rw [if_pos hc] at h2
        obtain ⟨rfl, rfl⟩ := hc
        rcases List.mem_cons.mp h2 with h2 | h2
        · cases h2
          exact lv_ldc hx hb hown (hts _ (gtb_at h0 rfl)) hd hN
        · cases List.mem_singleton.mp h2
          exact lv_ldcw hx hb hown (hts _ (gtb_at h0 rfl)) hd hN
      · rw [if_neg hc] at h2
        cases h2
  case goto_w n =>
    have hN := Hnx _ _ _ _ _ _ ⟨hL, q_cons (v := qL (Int64.ofInt n)) trivial hst, hW⟩ h
    rcases List.mem_append.mp hm with hm | hm
    · by_cases h0 : n = 0
      · rw [if_pos h0] at hm
        cases List.mem_singleton.mp hm
        subst h0
        exact lv_lconst hx hb hd rfl hN
      · rw [if_neg h0] at hm
        obtain ⟨h1, h2⟩ := q_one hm
        cases h2
        subst h1
        exact lv_lconst hx hb hd rfl hN
    · obtain ⟨⟨o1, cp, v, idx⟩, he, hm2⟩ := q_flat hm
      have h0 := qclt_ok _ he
      obtain ⟨⟨e1, e2⟩, h2⟩ := q_one hm2
      dsimp only at e1 e2 h0
      subst e1
      subst e2
      cases h2
      exact lv_ldc2 hx hb hown (hts _ (gtb_at h0 rfl)) hd hN
  case aconst_null =>
    cases List.mem_singleton.mp hm
    exact lv_null hx hb hd (Hnx _ _ _ _ _ _ ⟨hL, q_cons (v := qO none) trivial hst, hW⟩ h)
  case iload i =>
    rcases hq : L[i]? with _ | _ | x | x | x
    · simp only [qop, hq] at h
      exact q_no h
    · simp only [qop, hq] at h
      exact q_no h
    · simp only [qop, hq] at h
      obtain ⟨hv, hl⟩ := hL.2.2.2 _ _ hq
      have hN := Hnx _ _ _ _ _ _ ⟨hL, q_cons hv hst, hW⟩ h
      rcases q_done hm with ⟨hc, h2⟩ | h2
      · cases h2
        exact lv_iload_n hx hb hd rfl hl hN
      · cases h2
        exact lv_iload hx hb hd hl hN
    · simp only [qop, hq] at h
      exact q_no h
    · simp only [qop, hq] at h
      exact q_no h
  case lload i =>
    rcases hq : L[i]? with _ | _ | x | x | x
    · simp only [qop, hq] at h
      exact q_no h
    · simp only [qop, hq] at h
      exact q_no h
    · simp only [qop, hq] at h
      exact q_no h
    · simp only [qop, hq] at h
      obtain ⟨hv, hl⟩ := hL.2.2.2 _ _ hq
      have hN := Hnx _ _ _ _ _ _ ⟨hL, q_cons hv hst, hW⟩ h
      rcases q_done hm with ⟨hc, h2⟩ | h2
      · cases h2
        exact lv_lload_n hx hb hd rfl hl hN
      · cases h2
        exact lv_lload hx hb hd hl hN
    · simp only [qop, hq] at h
      exact q_no h
  case aload i =>
    rcases hq : L[i]? with _ | _ | x | x | x
    · simp only [qop, hq] at h
      exact q_no h
    · simp only [qop, hq] at h
      exact q_no h
    · simp only [qop, hq] at h
      exact q_no h
    · simp only [qop, hq] at h
      exact q_no h
    · simp only [qop, hq] at h
      obtain ⟨hv, hl⟩ := hL.2.2.2 _ _ hq
      have hN := Hnx _ _ _ _ _ _ ⟨hL, q_cons hv hst, hW⟩ h
      rcases q_done hm with ⟨hc, h2⟩ | h2
      · cases h2
        rcases x with _ | x
        · exact lv_aload_nN hx hb hd rfl hl hN
        · exact lv_aload_n hx hb hd rfl hl hN
      · cases h2
        rcases x with _ | x
        · exact lv_aloadN hx hb hd hl hN
        · exact lv_aload hx hb hd hl hN
  case istore i =>
    rcases st with _ | ⟨v0, t0⟩
    · exact q_no h
    rcases v0 with x0 | x0
    · obtain ⟨hi, h⟩ := q_ite h
      rw [hL.2.2.1] at hi
      have hv := hst _ List.mem_cons_self
      rcases q_done hm with ⟨hc, h2⟩ | h2
      · cases h2
        exact lv_istore_n hx hb hd rfl hL.has hi rfl (fun ls2 hl2 => Hnx _ _ _ _ _ _ ⟨hL.put1 hv hl2, q_tl hst, hW⟩ h)
      · cases h2
        exact lv_istore hx hb hd hL.has hi rfl (fun ls2 hl2 => Hnx _ _ _ _ _ _ ⟨hL.put1 hv hl2, q_tl hst, hW⟩ h)
    · exact q_no h
  case lstore i =>
    rcases st with _ | ⟨v0, t0⟩
    · exact q_no h
    rcases v0 with x0 | x0 | x0
    · exact q_no h
    · obtain ⟨hi, h⟩ := q_ite h
      rw [hL.2.2.1] at hi
      have hv := hst _ List.mem_cons_self
      rcases q_done hm with ⟨hc, h2⟩ | h2
      · cases h2
        exact lv_lstore_n hx hb hd rfl hL.has hi rfl (fun ls2 hl2 => Hnx _ _ _ _ _ _ ⟨hL.put2 hv hl2, q_tl hst, hW⟩ h)
      · cases h2
        exact lv_lstore hx hb hd hL.has hi rfl (fun ls2 hl2 => Hnx _ _ _ _ _ _ ⟨hL.put2 hv hl2, q_tl hst, hW⟩ h)
    · exact q_no h
  case astore i =>
    rcases st with _ | ⟨v0, t0⟩
    · exact q_no h
    rcases v0 with x0 | x0 | x0
    · exact q_no h
    · exact q_no h
    · obtain ⟨hi, h⟩ := q_ite h
      rw [hL.2.2.1] at hi
      have hv := hst _ List.mem_cons_self
      rcases q_done hm with ⟨hc, h2⟩ | h2
      · cases h2
        rcases x0 with _ | x0
        · exact lv_astore_nN hx hb hd rfl hL.has hi rfl (fun ls2 hl2 => Hnx _ _ _ _ _ _ ⟨hL.put1 hv hl2, q_tl hst, hW⟩ h)
        · exact lv_astore_n hx hb hd rfl hL.has hi rfl (fun ls2 hl2 => Hnx _ _ _ _ _ _ ⟨hL.put1 hv hl2, q_tl hst, hW⟩ h)
      · cases h2
        rcases x0 with _ | x0
        · exact lv_astoreN hx hb hd hL.has hi rfl (fun ls2 hl2 => Hnx _ _ _ _ _ _ ⟨hL.put1 hv hl2, q_tl hst, hW⟩ h)
        · exact lv_astore hx hb hd hL.has hi rfl (fun ls2 hl2 => Hnx _ _ _ _ _ _ ⟨hL.put1 hv hl2, q_tl hst, hW⟩ h)
  case iinc i n =>
    rcases hq : L[i]? with _ | _ | x | x | x
    · simp only [qop, hq] at h
      exact q_no h
    · simp only [qop, hq] at h
      exact q_no h
    · simp only [qop, hq] at h
      have hmem := (mem_qtoL (ad := ad) (L := L) (q := (i, Value.int x))).mpr ⟨qI x, hq, rfl⟩
      obtain ⟨k, hk⟩ := List.getElem?_of_mem hmem
      have hi : i < nL := by rw [← hL.2.2.1]; exact (List.getElem?_eq_some_iff.mp hq).1
      cases List.mem_singleton.mp hm
      exact lv_iinc hx hb hd hL.has hk rfl hi rfl (fun ls2 hl2 => Hnx _ _ _ _ _ _ ⟨hL.put1 (v := qI (x + Int32.ofInt n)) trivial hl2, hst, hW⟩ h)
    · simp only [qop, hq] at h
      exact q_no h
    · simp only [qop, hq] at h
      exact q_no h
  case dup =>
    cases List.mem_singleton.mp hm
    rcases st with _ | ⟨x | x | x, st⟩
    · exact q_no h
    · exact lv_dup hx hb hd rfl (Hnx _ _ _ _ _ _ ⟨hL, q_cons (v := qI x) trivial hst, hW⟩ h)
    · exact q_no h
    · exact lv_dup hx hb hd (by rw [qcat_enc]; rfl) (Hnx _ _ _ _ _ _ ⟨hL, q_cons (v := qO x) (hst _ List.mem_cons_self) hst, hW⟩ h)
  case pop =>
    cases List.mem_singleton.mp hm
    rcases st with _ | ⟨x | x | x, st⟩
    · exact q_no h
    · exact lv_pop hx hb hd rfl (Hnx _ _ _ _ _ _ ⟨hL, q_tl hst, hW⟩ h)
    · exact q_no h
    · exact lv_pop hx hb hd (by rw [qcat_enc]; rfl) (Hnx _ _ _ _ _ _ ⟨hL, q_tl hst, hW⟩ h)
  case dup2 =>
    cases List.mem_singleton.mp hm
    rcases st with _ | ⟨v0, t0⟩
    · exact q_no h
    rcases v0 with x0 | x0
    · rcases t0 with _ | ⟨v1, t1⟩
      · exact q_no h
      rcases v1 with x1 | x1 | x1
      · exact q_no h
      · exact q_no h
      · exact lv_dup2_11 hx hb hd rfl (by rw [qcat_enc]; rfl) (Hnx _ _ _ _ _ _ ⟨hL, q_cons (v := qI x0) trivial (q_cons (v := qO x1) (hst _ (List.mem_cons_of_mem _ List.mem_cons_self)) hst), hW⟩ h)
    · exact q_no h
  case iadd =>
    cases List.mem_singleton.mp hm
    rcases st with _ | ⟨v0, t0⟩
    · exact q_no h
    rcases v0 with x0 | x0
    · rcases t0 with _ | ⟨v1, t1⟩
      · exact q_no h
      rcases v1 with x1 | x1
      · exact lv_iadd hx hb hd (Hnx _ _ _ _ _ _ ⟨hL, q_cons (v := qI (x1 + x0)) trivial (q_tl (q_tl hst)), hW⟩ h)
      · exact q_no h
    · exact q_no h
  case isub =>
    cases List.mem_singleton.mp hm
    rcases st with _ | ⟨v0, t0⟩
    · exact q_no h
    rcases v0 with x0 | x0
    · rcases t0 with _ | ⟨v1, t1⟩
      · exact q_no h
      rcases v1 with x1 | x1
      · exact lv_isub hx hb hd (Hnx _ _ _ _ _ _ ⟨hL, q_cons (v := qI (x1 - x0)) trivial (q_tl (q_tl hst)), hW⟩ h)
      · exact q_no h
    · exact q_no h
  case imul =>
    cases List.mem_singleton.mp hm
    rcases st with _ | ⟨v0, t0⟩
    · exact q_no h
    rcases v0 with x0 | x0
    · rcases t0 with _ | ⟨v1, t1⟩
      · exact q_no h
      rcases v1 with x1 | x1
      · exact lv_imul hx hb hd (Hnx _ _ _ _ _ _ ⟨hL, q_cons (v := qI (x1 * x0)) trivial (q_tl (q_tl hst)), hW⟩ h)
      · exact q_no h
    · exact q_no h
  case iand =>
    cases List.mem_singleton.mp hm
    rcases st with _ | ⟨v0, t0⟩
    · exact q_no h
    rcases v0 with x0 | x0
    · rcases t0 with _ | ⟨v1, t1⟩
      · exact q_no h
      rcases v1 with x1 | x1
      · exact lv_iand hx hb hd (Hnx _ _ _ _ _ _ ⟨hL, q_cons (v := qI (x1 &&& x0)) trivial (q_tl (q_tl hst)), hW⟩ h)
      · exact q_no h
    · exact q_no h
  case ior =>
    cases List.mem_singleton.mp hm
    rcases st with _ | ⟨v0, t0⟩
    · exact q_no h
    rcases v0 with x0 | x0
    · rcases t0 with _ | ⟨v1, t1⟩
      · exact q_no h
      rcases v1 with x1 | x1
      · exact lv_ior hx hb hd (Hnx _ _ _ _ _ _ ⟨hL, q_cons (v := qI (x1 ||| x0)) trivial (q_tl (q_tl hst)), hW⟩ h)
      · exact q_no h
    · exact q_no h
  case ixor =>
    cases List.mem_singleton.mp hm
    rcases st with _ | ⟨v0, t0⟩
    · exact q_no h
    rcases v0 with x0 | x0
    · rcases t0 with _ | ⟨v1, t1⟩
      · exact q_no h
      rcases v1 with x1 | x1
      · exact lv_ixor hx hb hd (Hnx _ _ _ _ _ _ ⟨hL, q_cons (v := qI (x1 ^^^ x0)) trivial (q_tl (q_tl hst)), hW⟩ h)
      · exact q_no h
    · exact q_no h
  case ishl =>
    cases List.mem_singleton.mp hm
    rcases st with _ | ⟨v0, t0⟩
    · exact q_no h
    rcases v0 with x0 | x0
    · rcases t0 with _ | ⟨v1, t1⟩
      · exact q_no h
      rcases v1 with x1 | x1
      · exact lv_ishl hx hb hd (Hnx _ _ _ _ _ _ ⟨hL, q_cons (v := qI (x1 <<< (x0 &&& 31))) trivial (q_tl (q_tl hst)), hW⟩ h)
      · exact q_no h
    · exact q_no h
  case ishr =>
    cases List.mem_singleton.mp hm
    rcases st with _ | ⟨v0, t0⟩
    · exact q_no h
    rcases v0 with x0 | x0
    · rcases t0 with _ | ⟨v1, t1⟩
      · exact q_no h
      rcases v1 with x1 | x1
      · exact lv_ishr hx hb hd (Hnx _ _ _ _ _ _ ⟨hL, q_cons (v := qI (x1 >>> (x0 &&& 31))) trivial (q_tl (q_tl hst)), hW⟩ h)
      · exact q_no h
    · exact q_no h
  case iushr =>
    cases List.mem_singleton.mp hm
    rcases st with _ | ⟨v0, t0⟩
    · exact q_no h
    rcases v0 with x0 | x0
    · rcases t0 with _ | ⟨v1, t1⟩
      · exact q_no h
      rcases v1 with x1 | x1
      · exact lv_iushr hx hb hd rfl (Hnx _ _ _ _ _ _ ⟨hL, q_cons (v := qI (x1.toUInt32 >>> (x0.toUInt32 &&& Int32.toUInt32 31)).toInt32) trivial (q_tl (q_tl hst)), hW⟩ h)
      · exact q_no h
    · exact q_no h
  case idiv =>
    cases List.mem_singleton.mp hm
    rcases st with _ | ⟨v0, t0⟩
    · exact q_no h
    rcases v0 with x0 | x0
    · rcases t0 with _ | ⟨v1, t1⟩
      · exact q_no h
      rcases v1 with x1 | x1
      · obtain ⟨hne, h⟩ := q_iteN h
        exact lv_idiv hx hb hd hne (Hnx _ _ _ _ _ _ ⟨hL, q_cons (v := qI (x1 / x0)) trivial (q_tl (q_tl hst)), hW⟩ h)
      · exact q_no h
    · exact q_no h
  case irem =>
    cases List.mem_singleton.mp hm
    rcases st with _ | ⟨v0, t0⟩
    · exact q_no h
    rcases v0 with x0 | x0
    · rcases t0 with _ | ⟨v1, t1⟩
      · exact q_no h
      rcases v1 with x1 | x1
      · obtain ⟨hne, h⟩ := q_iteN h
        exact lv_irem hx hb hd hne (Hnx _ _ _ _ _ _ ⟨hL, q_cons (v := qI (x1 - x1 / x0 * x0)) trivial (q_tl (q_tl hst)), hW⟩ h)
      · exact q_no h
    · exact q_no h
  case ineg =>
    cases List.mem_singleton.mp hm
    rcases st with _ | ⟨v0, t0⟩
    · exact q_no h
    rcases v0 with x0 | x0
    · exact lv_ineg hx hb hd (Hnx _ _ _ _ _ _ ⟨hL, q_cons (v := qI (-x0)) trivial (q_tl hst), hW⟩ h)
    · exact q_no h
  case ladd =>
    cases List.mem_singleton.mp hm
    rcases st with _ | ⟨v0, t0⟩
    · exact q_no h
    rcases v0 with x0 | x0 | x0
    · exact q_no h
    · rcases t0 with _ | ⟨v1, t1⟩
      · exact q_no h
      rcases v1 with x1 | x1 | x1
      · exact q_no h
      · exact lv_ladd hx hb hd (Hnx _ _ _ _ _ _ ⟨hL, q_cons (v := qL (x1 + x0)) trivial (q_tl (q_tl hst)), hW⟩ h)
      · exact q_no h
    · exact q_no h
  case lsub =>
    cases List.mem_singleton.mp hm
    rcases st with _ | ⟨v0, t0⟩
    · exact q_no h
    rcases v0 with x0 | x0 | x0
    · exact q_no h
    · rcases t0 with _ | ⟨v1, t1⟩
      · exact q_no h
      rcases v1 with x1 | x1 | x1
      · exact q_no h
      · exact lv_lsub hx hb hd (Hnx _ _ _ _ _ _ ⟨hL, q_cons (v := qL (x1 - x0)) trivial (q_tl (q_tl hst)), hW⟩ h)
      · exact q_no h
    · exact q_no h
  case lmul =>
    cases List.mem_singleton.mp hm
    rcases st with _ | ⟨v0, t0⟩
    · exact q_no h
    rcases v0 with x0 | x0 | x0
    · exact q_no h
    · rcases t0 with _ | ⟨v1, t1⟩
      · exact q_no h
      rcases v1 with x1 | x1 | x1
      · exact q_no h
      · exact lv_lmul hx hb hd (Hnx _ _ _ _ _ _ ⟨hL, q_cons (v := qL (x1 * x0)) trivial (q_tl (q_tl hst)), hW⟩ h)
      · exact q_no h
    · exact q_no h
  case lor =>
    cases List.mem_singleton.mp hm
    rcases st with _ | ⟨v0, t0⟩
    · exact q_no h
    rcases v0 with x0 | x0 | x0
    · exact q_no h
    · rcases t0 with _ | ⟨v1, t1⟩
      · exact q_no h
      rcases v1 with x1 | x1 | x1
      · exact q_no h
      · exact lv_lor hx hb hd (Hnx _ _ _ _ _ _ ⟨hL, q_cons (v := qL (x1 ||| x0)) trivial (q_tl (q_tl hst)), hW⟩ h)
      · exact q_no h
    · exact q_no h
  case ldiv =>
    cases List.mem_singleton.mp hm
    rcases st with _ | ⟨v0, t0⟩
    · exact q_no h
    rcases v0 with x0 | x0 | x0
    · exact q_no h
    · rcases t0 with _ | ⟨v1, t1⟩
      · exact q_no h
      rcases v1 with x1 | x1 | x1
      · exact q_no h
      · obtain ⟨hne, h⟩ := q_iteN h
        exact lv_ldiv hx hb hd hne (Hnx _ _ _ _ _ _ ⟨hL, q_cons (v := qL (x1 / x0)) trivial (q_tl (q_tl hst)), hW⟩ h)
      · exact q_no h
    · exact q_no h
  case lrem =>
    cases List.mem_singleton.mp hm
    rcases st with _ | ⟨v0, t0⟩
    · exact q_no h
    rcases v0 with x0 | x0 | x0
    · exact q_no h
    · rcases t0 with _ | ⟨v1, t1⟩
      · exact q_no h
      rcases v1 with x1 | x1 | x1
      · exact q_no h
      · obtain ⟨hne, h⟩ := q_iteN h
        exact lv_lrem hx hb hd hne (Hnx _ _ _ _ _ _ ⟨hL, q_cons (v := qL (x1 - x1 / x0 * x0)) trivial (q_tl (q_tl hst)), hW⟩ h)
      · exact q_no h
    · exact q_no h
  case lshl =>
    cases List.mem_singleton.mp hm
    rcases st with _ | ⟨v0, t0⟩
    · exact q_no h
    rcases v0 with x0 | x0
    · rcases t0 with _ | ⟨v1, t1⟩
      · exact q_no h
      rcases v1 with x1 | x1 | x1
      · exact q_no h
      · exact lv_lshl hx hb hd rfl (Hnx _ _ _ _ _ _ ⟨hL, q_cons (v := qL (x1 <<< (x0.toInt64 &&& 63))) trivial (q_tl (q_tl hst)), hW⟩ h)
      · exact q_no h
    · exact q_no h
  case i2l =>
    cases List.mem_singleton.mp hm
    rcases st with _ | ⟨v0, t0⟩
    · exact q_no h
    rcases v0 with x0 | x0
    · exact lv_i2l hx hb hd rfl (Hnx _ _ _ _ _ _ ⟨hL, q_cons (v := qL x0.toInt64) trivial (q_tl hst), hW⟩ h)
    · exact q_no h
  case lcmp =>
    cases List.mem_singleton.mp hm
    rcases st with _ | ⟨v0, t0⟩
    · exact q_no h
    rcases v0 with x0 | x0 | x0
    · exact q_no h
    · rcases t0 with _ | ⟨v1, t1⟩
      · exact q_no h
      rcases v1 with x1 | x1 | x1
      · exact q_no h
      · exact W.lcmp hx hb hd (Hnx _ _ _ _ _ _ ⟨hL, q_cons (v := qI (lg_cmp x1 x0)) trivial (q_tl (q_tl hst)), hW⟩ h)
      · exact q_no h
    · exact q_no h
  case fadd =>
    obtain ⟨⟨o1, cp, v, idx⟩, he, hm2⟩ := q_flat hm
    have h0 := (qxt_ok _ he).2
    obtain ⟨⟨e1, hv0⟩, h2⟩ := q_one hm2
    dsimp only at h0 hv0 e1
    subst hv0
    subst e1
    cases h2
    rcases st with _ | ⟨v0, t0⟩
    · exact q_no h
    rcases v0 with x0 | x0
    · rcases t0 with _ | ⟨v1, t1⟩
      · exact q_no h
      rcases v1 with x1 | x1
      · obtain ⟨hwd, h⟩ := q_ite h
        exact va_mmax hx hb (hml.trans hL.1.symm) hown (hts _ (gtb_at h0 rfl)) (hts _ (gtb_of qx_max_st rfl)) (hts _ (gtb_of qx_ini rfl)) (hts _ (gtb_of qx_max_cd rfl)) hR.1 (by rw [qwd_enc]; omega) hR.2.2.1 hR.2.2.2 hd (Hnx _ _ _ _ _ _ ⟨hL, q_cons (v := qI (if x1 < x0 then x0 else x1)) trivial (q_tl (q_tl hst)), hW⟩ h)
      · exact q_no h
    · exact q_no h
  case fsub =>
    obtain ⟨⟨o1, cp, v, idx⟩, he, hm2⟩ := q_flat hm
    have h0 := (qxt_ok _ he).2
    obtain ⟨⟨e1, hv0⟩, h2⟩ := q_one hm2
    dsimp only at h0 hv0 e1
    subst hv0
    subst e1
    cases h2
    rcases st with _ | ⟨v0, t0⟩
    · exact q_no h
    rcases v0 with x0 | x0
    · rcases t0 with _ | ⟨v1, t1⟩
      · exact q_no h
      rcases v1 with x1 | x1
      · obtain ⟨hwd, h⟩ := q_ite h
        exact va_mmin hx hb (hml.trans hL.1.symm) hown (hts _ (gtb_at h0 rfl)) (hts _ (gtb_of qx_min_st rfl)) (hts _ (gtb_of qx_ini rfl)) (hts _ (gtb_of qx_min_cd rfl)) hR.1 (by rw [qwd_enc]; omega) hR.2.2.1 hR.2.2.2 hd (Hnx _ _ _ _ _ _ ⟨hL, q_cons (v := qI (if x0 < x1 then x0 else x1)) trivial (q_tl (q_tl hst)), hW⟩ h)
      · exact q_no h
    · exact q_no h
  case fneg =>
    obtain ⟨⟨o1, cp, v, idx⟩, he, hm2⟩ := q_flat hm
    have h0 := (qxt_ok _ he).2
    obtain ⟨⟨e1, hv0⟩, h2⟩ := q_one hm2
    dsimp only at h0 hv0 e1
    subst hv0
    subst e1
    cases h2
    rcases st with _ | ⟨v0, t0⟩
    · exact q_no h
    rcases v0 with x0 | x0
    · obtain ⟨hwd, h⟩ := q_ite h
      exact va_mabs hx hb (hml.trans hL.1.symm) hown (hts _ (gtb_at h0 rfl)) (hts _ (gtb_of qx_abs_st rfl)) (hts _ (gtb_of qx_ini rfl)) (hts _ (gtb_of qx_abs_cd rfl)) hR.1 (by rw [qwd_enc]; omega) hR.2.2.1 hR.2.2.2 hd (Hnx _ _ _ _ _ _ ⟨hL, q_cons (v := qI (if 0 ≤ x0 then x0 else 0 - x0)) trivial (q_tl hst), hW⟩ h)
    · exact q_no h
  case ifCond c off =>
    cases List.mem_singleton.mp hm
    rcases st with _ | ⟨v0, t0⟩
    · exact q_no h
    rcases v0 with x0 | x0
    · obtain ⟨t, ht⟩ := jt off (List.mem_singleton.mpr rfl)
      cases c <;> simp only [qop, qcond] at h
      · refine lv_if_eq hx hb hd ht (fun hc => ?_) (fun hc => ?_)
        · rw [if_pos hc] at h
          exact Hjp off t _ (List.mem_singleton.mpr rfl) ht ⟨hL, (q_tl hst), hW⟩ h
        · rw [if_neg hc] at h
          exact Hnx _ _ _ _ _ _ ⟨hL, (q_tl hst), hW⟩ h
      · refine lv_if_ne hx hb hd ht (fun hc => ?_) (fun hc => ?_)
        · rw [if_neg hc] at h
          exact Hjp off t _ (List.mem_singleton.mpr rfl) ht ⟨hL, (q_tl hst), hW⟩ h
        · rw [if_pos hc] at h
          exact Hnx _ _ _ _ _ _ ⟨hL, (q_tl hst), hW⟩ h
      · refine lv_if_lt hx hb hd ht (fun hc => ?_) (fun hc => ?_)
        · rw [if_pos hc] at h
          exact Hjp off t _ (List.mem_singleton.mpr rfl) ht ⟨hL, (q_tl hst), hW⟩ h
        · rw [if_neg hc] at h
          exact Hnx _ _ _ _ _ _ ⟨hL, (q_tl hst), hW⟩ h
      · refine lv_if_ge hx hb hd ht (fun hc => ?_) (fun hc => ?_)
        · rw [if_pos hc] at h
          exact Hjp off t _ (List.mem_singleton.mpr rfl) ht ⟨hL, (q_tl hst), hW⟩ h
        · rw [if_neg hc] at h
          exact Hnx _ _ _ _ _ _ ⟨hL, (q_tl hst), hW⟩ h
      · refine lv_if_gt hx hb hd ht (fun hc => ?_) (fun hc => ?_)
        · rw [if_pos hc] at h
          exact Hjp off t _ (List.mem_singleton.mpr rfl) ht ⟨hL, (q_tl hst), hW⟩ h
        · rw [if_neg hc] at h
          exact Hnx _ _ _ _ _ _ ⟨hL, (q_tl hst), hW⟩ h
      · refine lv_if_le hx hb hd ht (fun hc => ?_) (fun hc => ?_)
        · rw [if_pos hc] at h
          exact Hjp off t _ (List.mem_singleton.mpr rfl) ht ⟨hL, (q_tl hst), hW⟩ h
        · rw [if_neg hc] at h
          exact Hnx _ _ _ _ _ _ ⟨hL, (q_tl hst), hW⟩ h
    · exact q_no h
  case if_icmp c off =>
    cases List.mem_singleton.mp hm
    rcases st with _ | ⟨v0, t0⟩
    · exact q_no h
    rcases v0 with x0 | x0
    · rcases t0 with _ | ⟨v1, t1⟩
      · exact q_no h
      rcases v1 with x1 | x1
      · obtain ⟨t, ht⟩ := jt off (List.mem_singleton.mpr rfl)
        cases c <;> simp only [qop, qcond] at h
        · refine lv_icmp_eq hx hb hd ht (fun hc => ?_) (fun hc => ?_)
          · rw [if_pos hc] at h
            exact Hjp off t _ (List.mem_singleton.mpr rfl) ht ⟨hL, (q_tl (q_tl hst)), hW⟩ h
          · rw [if_neg hc] at h
            exact Hnx _ _ _ _ _ _ ⟨hL, (q_tl (q_tl hst)), hW⟩ h
        · refine lv_icmp_ne hx hb hd ht (fun hc => ?_) (fun hc => ?_)
          · rw [if_neg hc] at h
            exact Hjp off t _ (List.mem_singleton.mpr rfl) ht ⟨hL, (q_tl (q_tl hst)), hW⟩ h
          · rw [if_pos hc] at h
            exact Hnx _ _ _ _ _ _ ⟨hL, (q_tl (q_tl hst)), hW⟩ h
        · refine lv_icmp_lt hx hb hd ht (fun hc => ?_) (fun hc => ?_)
          · rw [if_pos hc] at h
            exact Hjp off t _ (List.mem_singleton.mpr rfl) ht ⟨hL, (q_tl (q_tl hst)), hW⟩ h
          · rw [if_neg hc] at h
            exact Hnx _ _ _ _ _ _ ⟨hL, (q_tl (q_tl hst)), hW⟩ h
        · refine lv_icmp_ge hx hb hd ht (fun hc => ?_) (fun hc => ?_)
          · rw [if_pos hc] at h
            exact Hjp off t _ (List.mem_singleton.mpr rfl) ht ⟨hL, (q_tl (q_tl hst)), hW⟩ h
          · rw [if_neg hc] at h
            exact Hnx _ _ _ _ _ _ ⟨hL, (q_tl (q_tl hst)), hW⟩ h
        · refine lv_icmp_gt hx hb hd ht (fun hc => ?_) (fun hc => ?_)
          · rw [if_pos hc] at h
            exact Hjp off t _ (List.mem_singleton.mpr rfl) ht ⟨hL, (q_tl (q_tl hst)), hW⟩ h
          · rw [if_neg hc] at h
            exact Hnx _ _ _ _ _ _ ⟨hL, (q_tl (q_tl hst)), hW⟩ h
        · refine lv_icmp_le hx hb hd ht (fun hc => ?_) (fun hc => ?_)
          · rw [if_pos hc] at h
            exact Hjp off t _ (List.mem_singleton.mpr rfl) ht ⟨hL, (q_tl (q_tl hst)), hW⟩ h
          · rw [if_neg hc] at h
            exact Hnx _ _ _ _ _ _ ⟨hL, (q_tl (q_tl hst)), hW⟩ h
      · exact q_no h
    · exact q_no h
  case if_acmp c off =>
    obtain ⟨h8, hm1⟩ := q_one hm
    cases hm1
    have hsc : ¬ sc = true := fun z => h8 (hs8 z)
    obtain ⟨t, ht⟩ := jt off (List.mem_singleton.mpr rfl)
    rcases st with _ | ⟨v0, t0⟩
    · exact q_no h
    rcases v0 with x0 | x0 | x0
    · exact q_no h
    · exact q_no h
    · rcases t0 with _ | ⟨v1, t1⟩
      · exact q_no h
      rcases v1 with x1 | x1 | x1
      · exact q_no h
      · exact q_no h
      · have hinj : x1.map ad = x0.map ad → x1 = x0 := by
          intro he
          have ok1 := hst _ (List.mem_cons_of_mem _ List.mem_cons_self)
          have ok0 := hst _ List.mem_cons_self
          rcases x1 with _ | x1 <;> rcases x0 with _ | x0
          · rfl
          · cases he
          · cases he
          · rcases ok1 with ok1 | ⟨z, -⟩
            · rcases ok0 with ok0 | ⟨z, -⟩
              · exact congrArg some (hW.inj ok1 ok0 (Option.some.inj he))
              · exact absurd z hsc
            · exact absurd z hsc
        cases c <;> simp only [qop] at h
        · refine lv_acmp_eq hx hb hd ht (fun hc => ?_) (fun hc => ?_)
          · rw [if_pos (hinj hc)] at h
            exact Hjp off t _ (List.mem_singleton.mpr rfl) ht ⟨hL, (q_tl (q_tl hst)), hW⟩ h
          · rw [if_neg (fun e => hc (by rw [e]))] at h
            exact Hnx _ _ _ _ _ _ ⟨hL, (q_tl (q_tl hst)), hW⟩ h
        · refine lv_acmp_ne hx hb hd ht (fun hc => ?_) (fun hc => ?_)
          · rw [if_neg (fun e => hc (by rw [e]))] at h
            exact Hjp off t _ (List.mem_singleton.mpr rfl) ht ⟨hL, (q_tl (q_tl hst)), hW⟩ h
          · rw [if_pos (hinj hc)] at h
            exact Hnx _ _ _ _ _ _ ⟨hL, (q_tl (q_tl hst)), hW⟩ h
  case ifnull off =>
    cases List.mem_singleton.mp hm
    obtain ⟨t, ht⟩ := jt off (List.mem_singleton.mpr rfl)
    rcases st with _ | ⟨x | x | _ | x, st⟩
    · exact q_no h
    · exact q_no h
    · exact q_no h
    · exact lv_ifnullN hx hb hd ht (Hjp off t _ (List.mem_singleton.mpr rfl) ht ⟨hL, q_tl hst, hW⟩ h)
    · exact lv_ifnull hx hb hd (Hnx _ _ _ _ _ _ ⟨hL, q_tl hst, hW⟩ h)
  case ifnonnull off =>
    cases List.mem_singleton.mp hm
    obtain ⟨t, ht⟩ := jt off (List.mem_singleton.mpr rfl)
    rcases st with _ | ⟨x | x | _ | x, st⟩
    · exact q_no h
    · exact q_no h
    · exact q_no h
    · exact lv_ifnonnullN hx hb hd (Hnx _ _ _ _ _ _ ⟨hL, q_tl hst, hW⟩ h)
    · exact lv_ifnonnull hx hb hd ht (Hjp off t _ (List.mem_singleton.mpr rfl) ht ⟨hL, q_tl hst, hW⟩ h)
  case goto off =>
    cases List.mem_singleton.mp hm
    obtain ⟨t, ht⟩ := jt off (List.mem_singleton.mpr rfl)
    exact lv_goto hx hb hd ht (Hjp off t _ (List.mem_singleton.mpr rfl) ht ⟨hL, hst, hW⟩ h)
  case tableswitch d lo hi offs =>
    obtain ⟨⟨hn, hlo, hhi⟩, h2⟩ := q_one hm
    cases h2
    rcases st with _ | ⟨v0, t0⟩
    · exact q_no h
    rcases v0 with x0 | x0
    · rcases qsw_tab offs.toList lo hlo (by omega) h with ⟨h3, h4⟩ | ⟨i, off, h3, h4, h5⟩
      · obtain ⟨t, ht⟩ := jt d List.mem_cons_self
        exact lv_tableOut hx hb hd (by omega) ht (Hjp d t _ List.mem_cons_self ht ⟨hL, q_tl hst, hW⟩ h4)
      · have hmem : off ∈ qoffs (.tableswitch d lo hi offs) := List.mem_cons_of_mem _ (List.mem_of_getElem? h3)
        obtain ⟨t, ht⟩ := jt off hmem
        have hi2 : i < offs.toList.length := (List.getElem?_eq_some_iff.mp h3).1
        refine lv_tableIn hx hb hd (by omega) (by omega) (off := off) ?_ ht (Hjp off t _ hmem ht ⟨hL, q_tl hst, hW⟩ h5)
        rw [show (x0.toInt - lo).toNat = i by omega, ← Array.getElem?_toList]
        exact h3
    · exact q_no h
  case lookupswitch d ps =>
    obtain ⟨⟨hp, hr⟩, h2⟩ := q_one hm
    cases h2
    rcases st with _ | ⟨v0, t0⟩
    · exact q_no h
    rcases v0 with x0 | x0
    · obtain ⟨off, h3, h4, h5⟩ := qsw_lk ps.toList hr h
      obtain ⟨t, ht⟩ := jt off h4
      exact lv_lookup hx hb hd hp h3 ht (Hjp off t _ h4 ht ⟨hL, q_tl hst, hW⟩ h5)
    · exact q_no h
  case getfield r =>
    obtain ⟨⟨o1, cp, r1, nest, idx⟩, he, hm2⟩ := q_flat hm
    obtain ⟨h0, hci, hk⟩ := qft_ok _ he
    obtain ⟨⟨e1, e2, h8⟩, h2⟩ := q_one hm2
    dsimp only at h0 hci hk e1 e2
    subst e1
    subst e2
    cases h2
    have hsc : ¬ sc = true := fun z => h8 (hs8 z)
    rcases st with _ | ⟨v0, t0⟩
    · exact q_no h
    rcases v0 with x0 | x0 | _ | x0
    · exact q_no h
    · exact q_no h
    · exact q_no h
    · obtain ⟨hta, h⟩ := q_ite h
      obtain ⟨ci, hci⟩ := Option.isSome_iff_exists.mp hci
      rw [hci] at hk
      change r1 % 64 < qN ci at hk
      have hdom : qdom x0 = true := by
        rcases hst _ List.mem_cons_self with z | ⟨z, -⟩
        · exact z
        · exact absurd z hsc
      have hlt : r1 / 64 < 50 := by rw [← hta]; exact qdom_lt hdom
      obtain ⟨hci8, hdec, hkind⟩ := qfK_of hlt hci hk
      have hk38 : r1 % 64 < 38 := Nat.lt_of_lt_of_le hk (qN_le ci hci8)
      obtain ⟨i, hi⟩ := qw_at hdom
      have hcell : ∀ μ : QM, qcell ad cA μ x0 = .inr (ci, (List.range (qN ci)).map (qfv ad μ x0)) := fun μ => by unfold qcell; rw [hta, hci]
      have hget := qw_get (ad := ad) (cA := cA) (μ := μ) hi
      rw [hcell] at hget
      have hin : ∀ w ∈ u_ws (qownS ci) (qT ci) (qN ci), w ∈ gtb := fun w hw => gtb_of (qin ci hci8 w hw).1 (qin ci hci8 w hw).2
      have hv : ((List.range (qN ci)).map (qfv ad μ x0))[r1 % 64]? = some (qfv ad μ x0 (r1 % 64)) := by rw [List.getElem?_map, List.getElem?_range hk]; rfl
      have key : W p l e R s m args below meth c H locs cells slots Q (F0 m (pc + 3) ls (qfv ad μ x0 (r1 % 64) :: t0.map (qenc ad))) := by
        rcases hkind with ⟨h3, -, -⟩ | ⟨h3, -, -⟩ | ⟨h3, -⟩
        · simp only [h3] at h
          rw [show qfv ad μ x0 (r1 % 64) = .int (μ.1 x0 (r1 % 64)) by unfold qfv; rw [hta, h3]; rfl]
          exact Hnx _ _ _ _ _ _ ⟨hL, q_cons (v := qI (μ.1 x0 (r1 % 64))) trivial (q_tl hst), hW⟩ h
        · simp only [h3] at h
          rw [show qfv ad μ x0 (r1 % 64) = .int (qbz (μ.1 x0 (r1 % 64))) by unfold qfv; rw [hta, h3]; rfl]
          exact Hnx _ _ _ _ _ _ ⟨hL, q_cons (v := qI (qbz (μ.1 x0 (r1 % 64)))) trivial (q_tl hst), hW⟩ h
        · simp only [h3] at h
          rw [show qfv ad μ x0 (r1 % 64) = va_rf ((qfR x0 (r1 % 64)).map ad) by unfold qfv; rw [hta, h3]; rfl]
          refine Hnx _ _ _ _ _ _ ⟨hL, q_cons (v := qO (qfR x0 (r1 % 64))) ?_ (q_tl hst), hW⟩ h
          cases hq : qfR x0 (r1 % 64) with
          | none => trivial
          | some b => exact Or.inl (qfR_dom hdom hk38 hq)
      cases nest
      · exact va_get (D := D) hx hb hts hin hown hK hW.1 i hget (qcl_get hci8) (r1 % 64) hk (hts _ (gtb_at (by rw [h0]; unfold qfw; rw [hci]; rfl) rfl)) (fun x hx2 => by rw [hdec] at hx2; exact hx2) hv hd key
      · exact va_getN (D := D) hx hb hts hin hown hK hW.1 i hget (qcl_get hci8) (r1 % 64) hk (va_Nw.use rfl (hNs _ (List.mem_of_getElem? (by rw [h0]; unfold qfw; rw [hci]; rfl)) rfl)) (fun x hx2 => by rw [hdec] at hx2; exact hx2) hv hd key
  case putfield r =>
    obtain ⟨⟨o1, cp, r1, nest, idx⟩, he, hm2⟩ := q_flat hm
    obtain ⟨h0, hci, hk⟩ := qft_ok _ he
    obtain ⟨⟨e1, e2, h8⟩, h2⟩ := q_one hm2
    dsimp only at h0 hci hk e1 e2
    subst e1
    subst e2
    cases h2
    have hsc : ¬ sc = true := fun z => h8 (hs8 z)
    rcases st with _ | ⟨v0, t0⟩
    · exact q_no h
    rcases v0 with x0 | x0
    · rcases t0 with _ | ⟨v1, t1⟩
      · exact q_no h
      rcases v1 with x1 | x1 | _ | x1
      · exact q_no h
      · exact q_no h
      · exact q_no h
      · obtain ⟨hta, h⟩ := q_ite h
        obtain ⟨ci, hci⟩ := Option.isSome_iff_exists.mp hci
        rw [hci] at hk
        change r1 % 64 < qN ci at hk
        have hdom : qdom x1 = true := by
          rcases hst _ (List.mem_cons_of_mem _ List.mem_cons_self) with z | ⟨z, -⟩
          · exact z
          · exact absurd z hsc
        have hlt : r1 / 64 < 50 := by rw [← hta]; exact qdom_lt hdom
        obtain ⟨hci8, hdec, hkind⟩ := qfK_of hlt hci hk
        have hk38 : r1 % 64 < 38 := Nat.lt_of_lt_of_le hk (qN_le ci hci8)
        obtain ⟨i, hi⟩ := qw_at hdom
        have hcell : ∀ μ : QM, qcell ad cA μ x1 = .inr (ci, (List.range (qN ci)).map (qfv ad μ x1)) := fun μ => by unfold qcell; rw [hta, hci]
        have hget := qw_get (ad := ad) (cA := cA) (μ := μ) hi
        rw [hcell] at hget
        have hin : ∀ w ∈ u_ws (qownS ci) (qT ci) (qN ci), w ∈ gtb := fun w hw => gtb_of (qin ci hci8 w hw).1 (qin ci hci8 w hw).2
        have hfl : r1 % 64 < ((List.range (qN ci)).map (qfv ad μ x1)).length := by rw [List.length_map, List.length_range]; exact hk
        have put : ∀ (ty : FieldType), (qT ci (r1 % 64)).2.2.2 = false → qty ci (r1 % 64) = ty → narrow ty (.int x0) = .int x0 → fits ty (.int x0) = true → qfv ad (qsi μ x1 (r1 % 64) x0) x1 (r1 % 64) = .int x0 → nx L t1 (qsi μ x1 (r1 % 64) x0) = some res → W p l e R s m args below meth c H locs cells slots Q (F0 m pc ls (.int x0 :: .ref (ad x1) :: t1.map (qenc ad))) := by
          intro ty hfin hty hn hft hv h
          have hd2 : parseFieldDescriptor (qT ci (r1 % 64)).2.2.1 = some ty := by rw [qtyok ci hci8 _ hk, hty]
          have hset : (qwld ad cA μ).set i (ad x1, .inr (ci, ((List.range (qN ci)).map (qfv ad μ x1)).set (r1 % 64) (.int x0))) = qwld ad cA (qsi μ x1 (r1 % 64) x0) := by
            refine qw_set hi ?_ (fun b hb => qcell_eq (qsi_ne hb) rfl rfl)
            rw [hcell]
            refine congrArg (fun z => Sum.inr (ci, z)) (List.ext_getElem? fun j => ?_)
            by_cases hj : j = r1 % 64
            · subst hj
              rw [List.getElem?_set_self hfl, List.getElem?_map, List.getElem?_range hk]
              exact congrArg some hv.symm
            · rw [List.getElem?_set_ne (Ne.symm hj), List.getElem?_map, List.getElem?_map]
              cases hq : (List.range (qN ci))[j]? with
              | none => rfl
              | some j2 =>
                have hj2 : j2 = j := by
                  obtain ⟨hlt2, he2⟩ := List.getElem?_eq_some_iff.mp hq
                  rw [← he2, List.getElem_range]
                subst hj2
                simp only [Option.map_some, Option.some.injEq]
                unfold qfv
                rw [show (qsi μ x1 (r1 % 64) x0).1 x1 j2 = μ.1 x1 j2 from if_neg (fun e => hj e.2)]
          cases nest
          · refine va_put (D := D) hx hb hts hin (qty ci) (qtyok ci hci8) (qnm ci hci8) hown hK hW.1 hW.2.1 hW.2.2 i hget (qcl_get hci8) (r1 % 64) hk (hts _ (gtb_at (by rw [h0]; unfold qfw; rw [hci]; rfl) rfl)) (fun x hx2 => by rw [hdec] at hx2; exact hx2) hfin hd2 hn hft hfl hd (fun H1 locs1 hP hD2 hS2 => ?_)
            rw [hset] at hP hD2
            exact Hnx _ _ _ _ _ _ ⟨hL, q_tl (q_tl hst), hP, hD2, hS2⟩ h
          · refine va_putN (D := D) hx hb hts hin (qty ci) (qtyok ci hci8) (qnm ci hci8) hown hK hW.1 hW.2.1 hW.2.2 i hget (qcl_get hci8) (r1 % 64) hk (va_Nw.use rfl (hNs _ (List.mem_of_getElem? (by rw [h0]; unfold qfw; rw [hci]; rfl)) rfl)) (fun x hx2 => by rw [hdec] at hx2; exact hx2) hfin hd2 hn hft hfl hd (fun H1 locs1 hP hD2 hS2 => ?_)
            rw [hset] at hP hD2
            exact Hnx _ _ _ _ _ _ ⟨hL, q_tl (q_tl hst), hP, hD2, hS2⟩ h
        have hnew : (qsi μ x1 (r1 % 64) x0).1 x1 (r1 % 64) = x0 := if_pos ⟨rfl, rfl⟩
        rcases hkind with ⟨h3, hty, hfin⟩ | ⟨h3, hty, hfin⟩ | ⟨h3, -⟩
        · simp only [h3] at h
          exact put .int hfin hty rfl rfl (by unfold qfv; rw [hta, h3, hnew]; rfl) h
        · simp only [h3] at h
          obtain ⟨h01, h⟩ := q_ite h
          refine put .boolean hfin hty ?_ ?_ (by unfold qfv; rw [hta, h3, hnew]; simp only [qbz_eq h01]) h
          · rcases h01 with rfl | rfl <;> rfl
          · rcases h01 with rfl | rfl <;> rfl
        · simp only [h3] at h
          exact q_no h
    · exact q_no h
  case arraylength =>
    obtain ⟨h8, hm1⟩ := q_one hm
    cases hm1
    have hsc : ¬ sc = true := fun z => h8 (hs8 z)
    rcases st with _ | ⟨v0, t0⟩
    · exact q_no h
    rcases v0 with x0 | x0 | _ | x0
    · exact q_no h
    · exact q_no h
    · exact q_no h
    · obtain ⟨hne, h⟩ := q_iteN h
      have hdom : qdom x0 = true := by
        rcases hst _ List.mem_cons_self with z | ⟨z, -⟩
        · exact z
        · exact absurd z hsc
      have hlt := qdom_lt hdom
      have hcell : ∀ μ : QM, qcell ad cA μ x0 = .inl (cA (qtk x0.1), qeL x0.1, qarrf ad μ x0) := fun μ => by unfold qcell; rw [qci_none x0.1 hlt hne]
      obtain ⟨i, hi⟩ := qw_at hdom
      have hget := qw_get (ad := ad) (cA := cA) (μ := μ) hi
      rw [hcell] at hget
      have hN := Hnx _ _ _ _ _ _ ⟨hL, q_cons (v := qI (Int32.ofInt (qeL x0.1 : Nat))) trivial (q_tl hst), hW⟩ h
      rcases qtk_ok x0.1 hlt hne with ⟨-, hk⟩ | ⟨-, hk⟩ | ⟨-, hk⟩ | ⟨-, ⟨hk, -⟩ | ⟨hk, -⟩ | ⟨hk, -⟩⟩ <;> rw [hk] at hget
      · exact va_alen hx hb hK hW.1 i 0 hget rfl rfl hd hN
      · exact va_alen hx hb hK hW.1 i 1 hget rfl rfl hd hN
      · exact va_alen hx hb hK hW.1 i 2 hget rfl rfl hd hN
      · exact va_alen hx hb hK hW.1 i 3 hget rfl rfl hd hN
      · exact va_alen hx hb hK hW.1 i 4 hget rfl rfl hd hN
      · exact va_alen hx hb hK hW.1 i 5 hget rfl rfl hd hN
  case iaload =>
    obtain ⟨h8, hm1⟩ := q_one hm
    cases hm1
    have hsc : ¬ sc = true := fun z => h8 (hs8 z)
    rcases st with _ | ⟨v0, t0⟩
    · exact q_no h
    rcases v0 with x0 | x0
    · rcases t0 with _ | ⟨v1, t1⟩
      · exact q_no h
      rcases v1 with x1 | x1 | _ | x1
      · exact q_no h
      · exact q_no h
      · exact q_no h
      · obtain ⟨hk, h⟩ := q_ite h
        obtain ⟨hoob, h⟩ := q_if h
        have hne : qeK x1.1 ≠ 0 := by rw [hk]; decide
        have hdom : qdom x1 = true := by
          rcases hst _ (List.mem_cons_of_mem _ List.mem_cons_self) with z | ⟨z, -⟩
          · exact z
          · exact absurd z hsc
        have hlt := qdom_lt hdom
        have hcell : ∀ μ : QM, qcell ad cA μ x1 = .inl (cA (qtk x1.1), qeL x1.1, qarrf ad μ x1) := fun μ => by unfold qcell; rw [qci_none x1.1 hlt hne]
        obtain ⟨i, hi⟩ := qw_at hdom
        have hget := qw_get (ad := ad) (cA := cA) (μ := μ) hi
        rw [hcell] at hget
        have hf : ∀ μ : QM, qarrf ad μ x1 = .inl (μ.1 x1) := fun μ => by unfold qarrf; simp [hk]
        rw [hf] at hget
        have htk : qtk x1.1 = 0 := by unfold qtk; simp [hk]
        rw [htk] at hget
        exact va_iald hx hb hK hW.1 i 0 hget rfl (qoob_in hoob) hd (Hnx _ _ _ _ _ _ ⟨hL, q_cons (v := qI (μ.1 x1 (qix x0))) trivial (q_tl (q_tl hst)), hW⟩ h)
    · exact q_no h
  case baload =>
    obtain ⟨h8, hm1⟩ := q_one hm
    cases hm1
    have hsc : ¬ sc = true := fun z => h8 (hs8 z)
    rcases st with _ | ⟨v0, t0⟩
    · exact q_no h
    rcases v0 with x0 | x0
    · rcases t0 with _ | ⟨v1, t1⟩
      · exact q_no h
      rcases v1 with x1 | x1 | _ | x1
      · exact q_no h
      · exact q_no h
      · exact q_no h
      · obtain ⟨hk, h⟩ := q_ite h
        obtain ⟨hoob, h⟩ := q_if h
        have hne : qeK x1.1 ≠ 0 := by rw [hk]; decide
        have hdom : qdom x1 = true := by
          rcases hst _ (List.mem_cons_of_mem _ List.mem_cons_self) with z | ⟨z, -⟩
          · exact z
          · exact absurd z hsc
        have hlt := qdom_lt hdom
        have hcell : ∀ μ : QM, qcell ad cA μ x1 = .inl (cA (qtk x1.1), qeL x1.1, qarrf ad μ x1) := fun μ => by unfold qcell; rw [qci_none x1.1 hlt hne]
        obtain ⟨i, hi⟩ := qw_at hdom
        have hget := qw_get (ad := ad) (cA := cA) (μ := μ) hi
        rw [hcell] at hget
        have hf : ∀ μ : QM, qarrf ad μ x1 = .inl (μ.1 x1) := fun μ => by unfold qarrf; simp [hk]
        rw [hf] at hget
        have htk : qtk x1.1 = 2 := by unfold qtk; simp [hk]
        rw [htk] at hget
        exact va_zald hx hb hK hW.1 i 2 hget rfl (qoob_in hoob) hd (Hnx _ _ _ _ _ _ ⟨hL, q_cons (v := qI (μ.1 x1 (qix x0))) trivial (q_tl (q_tl hst)), hW⟩ h)
    · exact q_no h
  case laload =>
    obtain ⟨h8, hm1⟩ := q_one hm
    cases hm1
    have hsc : ¬ sc = true := fun z => h8 (hs8 z)
    rcases st with _ | ⟨v0, t0⟩
    · exact q_no h
    rcases v0 with x0 | x0
    · rcases t0 with _ | ⟨v1, t1⟩
      · exact q_no h
      rcases v1 with x1 | x1 | _ | x1
      · exact q_no h
      · exact q_no h
      · exact q_no h
      · obtain ⟨hk, h⟩ := q_ite h
        obtain ⟨hoob, h⟩ := q_if h
        have hne : qeK x1.1 ≠ 0 := by rw [hk]; decide
        have hdom : qdom x1 = true := by
          rcases hst _ (List.mem_cons_of_mem _ List.mem_cons_self) with z | ⟨z, -⟩
          · exact z
          · exact absurd z hsc
        have hlt := qdom_lt hdom
        have hcell : ∀ μ : QM, qcell ad cA μ x1 = .inl (cA (qtk x1.1), qeL x1.1, qarrf ad μ x1) := fun μ => by unfold qcell; rw [qci_none x1.1 hlt hne]
        obtain ⟨i, hi⟩ := qw_at hdom
        have hget := qw_get (ad := ad) (cA := cA) (μ := μ) hi
        rw [hcell] at hget
        have hf : ∀ μ : QM, qarrf ad μ x1 = .inr (.inl (μ.2.1 x1)) := fun μ => by unfold qarrf; simp [hk]
        rw [hf] at hget
        have htk : qtk x1.1 = 1 := by unfold qtk; simp [hk]
        rw [htk] at hget
        exact va_lald hx hb hK hW.1 i 1 hget rfl (qoob_in hoob) hd (Hnx _ _ _ _ _ _ ⟨hL, q_cons (v := qL (μ.2.1 x1 (qix x0))) trivial (q_tl (q_tl hst)), hW⟩ h)
    · exact q_no h
  case iastore =>
    obtain ⟨h8, hm1⟩ := q_one hm
    cases hm1
    have hsc : ¬ sc = true := fun z => h8 (hs8 z)
    rcases st with _ | ⟨v0, t0⟩
    · exact q_no h
    rcases v0 with x0 | x0
    · rcases t0 with _ | ⟨v1, t1⟩
      · exact q_no h
      rcases v1 with x1 | x1
      · rcases t1 with _ | ⟨v2, t2⟩
        · exact q_no h
        rcases v2 with x2 | x2 | _ | x2
        · exact q_no h
        · exact q_no h
        · exact q_no h
        · obtain ⟨hk, h⟩ := q_ite h
          obtain ⟨hoob, h⟩ := q_if h
          have hne : qeK x2.1 ≠ 0 := by rw [hk]; decide
          have hdom : qdom x2 = true := by
            rcases hst _ (List.mem_cons_of_mem _ (List.mem_cons_of_mem _ List.mem_cons_self)) with z | ⟨z, -⟩
            · exact z
            · exact absurd z hsc
          have hlt := qdom_lt hdom
          have hcell : ∀ μ : QM, qcell ad cA μ x2 = .inl (cA (qtk x2.1), qeL x2.1, qarrf ad μ x2) := fun μ => by unfold qcell; rw [qci_none x2.1 hlt hne]
          obtain ⟨i, hi⟩ := qw_at hdom
          have hget := qw_get (ad := ad) (cA := cA) (μ := μ) hi
          rw [hcell] at hget
          have hf : ∀ μ : QM, qarrf ad μ x2 = .inl (μ.1 x2) := fun μ => by unfold qarrf; simp [hk]
          rw [hf] at hget
          have htk : qtk x2.1 = 0 := by unfold qtk; simp [hk]
          rw [htk] at hget
          refine va_iast hx hb hK hW.1 hW.2.1 hW.2.2 i 0 hget rfl (qoob_in hoob) hd (fun H1 locs1 hP hD2 hS2 => ?_)
          have hset : (qwld ad cA μ).set i (ad x2, .inl (cA 0, qeL x2.1, .inl (upd (μ.1 x2) (qix x1) x0))) = qwld ad cA (qsi μ x2 (qix x1) x0) := by
            refine qw_set hi ?_ (fun b hb => qcell_eq (qsi_ne hb) rfl rfl)
            rw [hcell, htk, hf]
            rw [qsi_up]
          rw [hset] at hP hD2
          exact Hnx _ _ _ _ _ _ ⟨hL, q_tl (q_tl (q_tl hst)), hP, hD2, hS2⟩ h
      · exact q_no h
    · exact q_no h
  case bastore =>
    obtain ⟨h8, hm1⟩ := q_one hm
    cases hm1
    have hsc : ¬ sc = true := fun z => h8 (hs8 z)
    rcases st with _ | ⟨v0, t0⟩
    · exact q_no h
    rcases v0 with x0 | x0
    · rcases t0 with _ | ⟨v1, t1⟩
      · exact q_no h
      rcases v1 with x1 | x1
      · rcases t1 with _ | ⟨v2, t2⟩
        · exact q_no h
        rcases v2 with x2 | x2 | _ | x2
        · exact q_no h
        · exact q_no h
        · exact q_no h
        · obtain ⟨⟨hk, h01⟩, h⟩ := q_ite h
          obtain ⟨hoob, h⟩ := q_if h
          have hne : qeK x2.1 ≠ 0 := by rw [hk]; decide
          have hdom : qdom x2 = true := by
            rcases hst _ (List.mem_cons_of_mem _ (List.mem_cons_of_mem _ List.mem_cons_self)) with z | ⟨z, -⟩
            · exact z
            · exact absurd z hsc
          have hlt := qdom_lt hdom
          have hcell : ∀ μ : QM, qcell ad cA μ x2 = .inl (cA (qtk x2.1), qeL x2.1, qarrf ad μ x2) := fun μ => by unfold qcell; rw [qci_none x2.1 hlt hne]
          obtain ⟨i, hi⟩ := qw_at hdom
          have hget := qw_get (ad := ad) (cA := cA) (μ := μ) hi
          rw [hcell] at hget
          have hf : ∀ μ : QM, qarrf ad μ x2 = .inl (μ.1 x2) := fun μ => by unfold qarrf; simp [hk]
          rw [hf] at hget
          have htk : qtk x2.1 = 2 := by unfold qtk; simp [hk]
          rw [htk] at hget
          refine va_zast hx hb hK hW.1 hW.2.1 hW.2.2 i 2 hget rfl (qoob_in hoob) hd (fun H1 locs1 hP hD2 hS2 => ?_)
          have hset : (qwld ad cA μ).set i (ad x2, .inl (cA 2, qeL x2.1, .inl (upd (μ.1 x2) (qix x1) (vp_nar .boolean x0)))) = qwld ad cA (qsi μ x2 (qix x1) x0) := by
            refine qw_set hi ?_ (fun b hb => qcell_eq (qsi_ne hb) rfl rfl)
            rw [hcell, htk, hf]
            rw [qsi_up]
            rcases h01 with rfl | rfl <;> rfl
          rw [hset] at hP hD2
          exact Hnx _ _ _ _ _ _ ⟨hL, q_tl (q_tl (q_tl hst)), hP, hD2, hS2⟩ h
      · exact q_no h
    · exact q_no h
  case lastore =>
    obtain ⟨h8, hm1⟩ := q_one hm
    cases hm1
    have hsc : ¬ sc = true := fun z => h8 (hs8 z)
    rcases st with _ | ⟨v0, t0⟩
    · exact q_no h
    rcases v0 with x0 | x0 | x0
    · exact q_no h
    · rcases t0 with _ | ⟨v1, t1⟩
      · exact q_no h
      rcases v1 with x1 | x1
      · rcases t1 with _ | ⟨v2, t2⟩
        · exact q_no h
        rcases v2 with x2 | x2 | _ | x2
        · exact q_no h
        · exact q_no h
        · exact q_no h
        · obtain ⟨hk, h⟩ := q_ite h
          obtain ⟨hoob, h⟩ := q_if h
          have hne : qeK x2.1 ≠ 0 := by rw [hk]; decide
          have hdom : qdom x2 = true := by
            rcases hst _ (List.mem_cons_of_mem _ (List.mem_cons_of_mem _ List.mem_cons_self)) with z | ⟨z, -⟩
            · exact z
            · exact absurd z hsc
          have hlt := qdom_lt hdom
          have hcell : ∀ μ : QM, qcell ad cA μ x2 = .inl (cA (qtk x2.1), qeL x2.1, qarrf ad μ x2) := fun μ => by unfold qcell; rw [qci_none x2.1 hlt hne]
          obtain ⟨i, hi⟩ := qw_at hdom
          have hget := qw_get (ad := ad) (cA := cA) (μ := μ) hi
          rw [hcell] at hget
          have hf : ∀ μ : QM, qarrf ad μ x2 = .inr (.inl (μ.2.1 x2)) := fun μ => by unfold qarrf; simp [hk]
          rw [hf] at hget
          have htk : qtk x2.1 = 1 := by unfold qtk; simp [hk]
          rw [htk] at hget
          refine va_last hx hb hK hW.1 hW.2.1 hW.2.2 i 1 hget rfl (qoob_in hoob) hd (fun H1 locs1 hP hD2 hS2 => ?_)
          have hset : (qwld ad cA μ).set i (ad x2, .inl (cA 1, qeL x2.1, .inr (.inl (vp_updL (μ.2.1 x2) (qix x1) x0)))) = qwld ad cA (qsl μ x2 (qix x1) x0) := by
            refine qw_set hi ?_ (fun b hb => qcell_eq rfl (qsl_ne hb) rfl)
            rw [hcell, htk, hf]
            rw [qsl_up]
          rw [hset] at hP hD2
          exact Hnx _ _ _ _ _ _ ⟨hL, q_tl (q_tl (q_tl hst)), hP, hD2, hS2⟩ h
      · exact q_no h
    · exact q_no h
  case aaload =>
    obtain ⟨h8, hm1⟩ := q_one hm
    cases hm1
    have hsc : ¬ sc = true := fun z => h8 (hs8 z)
    rcases st with _ | ⟨v0, t0⟩
    · exact q_no h
    rcases v0 with x0 | x0
    · rcases t0 with _ | ⟨v1, t1⟩
      · exact q_no h
      rcases v1 with x1 | x1 | _ | x1
      · exact q_no h
      · exact q_no h
      · exact q_no h
      · obtain ⟨hoob, h⟩ := q_if h
        by_cases hk : qeK x1.1 = 4
        · rw [if_pos hk] at h
          have hne : qeK x1.1 ≠ 0 := by rw [hk]; decide
          have hdom : qdom x1 = true := by
            rcases hst _ (List.mem_cons_of_mem _ List.mem_cons_self) with z | ⟨z, -⟩
            · exact z
            · exact absurd z hsc
          have hlt := qdom_lt hdom
          have hcell : ∀ μ : QM, qcell ad cA μ x1 = .inl (cA (qtk x1.1), qeL x1.1, qarrf ad μ x1) := fun μ => by unfold qcell; rw [qci_none x1.1 hlt hne]
          obtain ⟨i, hi⟩ := qw_at hdom
          have hget := qw_get (ad := ad) (cA := cA) (μ := μ) hi
          rw [hcell] at hget
          have hf : ∀ μ : QM, qarrf ad μ x1 = .inr (.inr (.inr (.inr (fun i => some (ad (qeT x1.1, x1.2.1, i)))))) := fun μ => by unfold qarrf; simp [hk]
          rw [hf] at hget
          have hin := qoob_in hoob
          have hlt2 : qix x0 < qeL x1.1 := Nat.lt_of_not_le fun z => hin (Or.inr z)
          have hok : qokv sc (qR (qeT x1.1, x1.2.1, qix x0)) := by
            refine Or.inl ?_
            obtain ⟨e1, e2⟩ := qel_ok x1.1 hlt hk
            simp only [qdom, Bool.and_eq_true, decide_eq_true_eq] at hdom ⊢
            exact ⟨by rw [e1]; exact hdom.1, by rw [e2]; exact hlt2⟩
          have hN := Hnx _ _ _ _ _ _ ⟨hL, q_cons hok (q_tl (q_tl hst)), hW⟩ h
          rcases qtk_ok x1.1 hlt hne with ⟨z, -⟩ | ⟨z, -⟩ | ⟨z, -⟩ | ⟨-, ⟨hq, -⟩ | ⟨hq, -⟩ | ⟨hq, -⟩⟩
          · rw [hk] at z; cases z
          · rw [hk] at z; cases z
          · rw [hk] at z; cases z
          · rw [hq] at hget
            exact va_aldq hx hb hK hW.1 i 3 hget rfl hin hd hN
          · rw [hq] at hget
            exact va_aldq hx hb hK hW.1 i 4 hget rfl hin hd hN
          · rw [hq] at hget
            exact va_aldq hx hb hK hW.1 i 5 hget rfl hin hd hN
        · rw [if_neg hk] at h
          obtain ⟨hk, h⟩ := q_ite h
          have hne : qeK x1.1 ≠ 0 := by rw [hk]; decide
          have hdom : qdom x1 = true := by
            rcases hst _ (List.mem_cons_of_mem _ List.mem_cons_self) with z | ⟨z, -⟩
            · exact z
            · exact absurd z hsc
          have hlt := qdom_lt hdom
          have hcell : ∀ μ : QM, qcell ad cA μ x1 = .inl (cA (qtk x1.1), qeL x1.1, qarrf ad μ x1) := fun μ => by unfold qcell; rw [qci_none x1.1 hlt hne]
          obtain ⟨i, hi⟩ := qw_at hdom
          have hget := qw_get (ad := ad) (cA := cA) (μ := μ) hi
          rw [hcell] at hget
          have hf : ∀ μ : QM, qarrf ad μ x1 = .inr (.inr (.inr (.inr (fun i => (μ.2.2 x1 i).map ad)))) := fun μ => by unfold qarrf; simp [hk]
          rw [hf] at hget
          have hin := qoob_in hoob
          have hN : W p l e R s m args below meth c H locs cells slots Q (F0 m (pc + 1) ls (va_rf ((μ.2.2 x1 (qix x0)).map ad) :: t1.map (qenc ad))) := by
            cases hq : μ.2.2 x1 (qix x0) with
            | none =>
              rw [hq] at h
              exact Hnx _ _ _ _ _ _ ⟨hL, q_cons (v := qO none) trivial (q_tl (q_tl hst)), hW⟩ h
            | some b =>
              rw [hq] at h
              obtain ⟨⟨hb1, hb2⟩, h⟩ := q_ite h
              obtain ⟨b1, b2, b3⟩ := b
              dsimp only at hb1 h
              rw [← hb1] at h
              exact Hnx _ _ _ _ _ _ ⟨hL, q_cons (v := qR (b1, b2, b3)) (Or.inl hb2) (q_tl (q_tl hst)), hW⟩ h
          rcases qtk_ok x1.1 hlt hne with ⟨z, -⟩ | ⟨z, -⟩ | ⟨z, -⟩ | ⟨-, ⟨hq, -⟩ | ⟨hq, -⟩ | ⟨hq, -⟩⟩
          · rw [hk] at z; cases z
          · rw [hk] at z; cases z
          · rw [hk] at z; cases z
          · rw [hq] at hget
            exact va_aldq hx hb hK hW.1 i 3 hget rfl hin hd hN
          · rw [hq] at hget
            exact va_aldq hx hb hK hW.1 i 4 hget rfl hin hd hN
          · rw [hq] at hget
            exact va_aldq hx hb hK hW.1 i 5 hget rfl hin hd hN
    · exact q_no h
  case aastore =>
    obtain ⟨h8, hm1⟩ := q_one hm
    cases hm1
    have hsc : ¬ sc = true := fun z => h8 (hs8 z)
    rcases st with _ | ⟨x | x | _ | x0, t0⟩
    · exact q_no h
    · exact q_no h
    · exact q_no h
    · rcases t0 with _ | ⟨v1, t1⟩
      · exact q_no h
      rcases v1 with x1 | x1
      · rcases t1 with _ | ⟨v2, t2⟩
        · exact q_no h
        rcases v2 with x2 | x2 | _ | x2
        · exact q_no h
        · exact q_no h
        · exact q_no h
        obtain ⟨hk, h⟩ := q_ite h
        obtain ⟨hoob, h⟩ := q_if h
        have hne : qeK x2.1 ≠ 0 := by rw [hk]; decide
        have hdom : qdom x2 = true := by
          rcases hst _ (List.mem_cons_of_mem _ (List.mem_cons_of_mem _ List.mem_cons_self)) with z | ⟨z, -⟩
          · exact z
          · exact absurd z hsc
        have hlt := qdom_lt hdom
        have hcell : ∀ μ : QM, qcell ad cA μ x2 = .inl (cA (qtk x2.1), qeL x2.1, qarrf ad μ x2) := fun μ => by unfold qcell; rw [qci_none x2.1 hlt hne]
        obtain ⟨i, hi⟩ := qw_at hdom
        have hget := qw_get (ad := ad) (cA := cA) (μ := μ) hi
        rw [hcell] at hget
        have hf : ∀ μ : QM, qarrf ad μ x2 = .inr (.inr (.inr (.inr (fun i => (μ.2.2 x2 i).map ad)))) := fun μ => by unfold qarrf; simp [hk]
        rw [hf] at hget
        have hset : ∀ t0 : Nat, qtk x2.1 = t0 → (qwld ad cA μ).set i (ad x2, .inl (cA t0, qeL x2.1, .inr (.inr (.inr (.inr (va_up (fun i => (μ.2.2 x2 i).map ad) (qix x1) none)))))) = qwld ad cA (qsr μ x2 (qix x1) none) := by
          intro t0 ht0
          refine qw_set hi ?_ (fun b hb => qcell_eq rfl rfl (qsr_ne hb))
          rw [hcell, ht0, hf, qsr_up]
          rfl
        have hN : ∀ (H1 : Heap) (locs1 : List Loc), QW ad cA D A H0 (qsr μ x2 (qix x1) none) H1 locs1 → W p l e R s m args below meth c H1 locs1 cells slots Q (F0 m (pc + 1) ls (t2.map (qenc ad))) := fun H1 locs1 hw => Hnx _ _ _ _ _ _ ⟨hL, q_tl (q_tl (q_tl hst)), hw⟩ h
        rcases qtk_ok x2.1 hlt hne with ⟨z, -⟩ | ⟨z, -⟩ | ⟨z, -⟩ | ⟨-, ⟨hq, -⟩ | ⟨hq, -⟩ | ⟨hq, -⟩⟩
        · rw [hk] at z; cases z
        · rw [hk] at z; cases z
        · rw [hk] at z; cases z
        · have hs := hset 3 hq
          rw [hq] at hget
          exact va_astqN hx hb hK hW.1 hW.2.1 hW.2.2 i 3 hget rfl (qoob_in hoob) hd (fun H1 locs1 hP hD2 hS2 => hN H1 locs1 ⟨hs ▸ hP, hs ▸ hD2, hS2⟩)
        · have hs := hset 4 hq
          rw [hq] at hget
          exact va_astqN hx hb hK hW.1 hW.2.1 hW.2.2 i 4 hget rfl (qoob_in hoob) hd (fun H1 locs1 hP hD2 hS2 => hN H1 locs1 ⟨hs ▸ hP, hs ▸ hD2, hS2⟩)
        · have hs := hset 5 hq
          rw [hq] at hget
          exact va_astqN hx hb hK hW.1 hW.2.1 hW.2.2 i 5 hget rfl (qoob_in hoob) hd (fun H1 locs1 hP hD2 hS2 => hN H1 locs1 ⟨hs ▸ hP, hs ▸ hD2, hS2⟩)
      · exact q_no h
    · rcases t0 with _ | ⟨v1, t1⟩
      · exact q_no h
      rcases v1 with x1 | x1
      · rcases t1 with _ | ⟨v2, t2⟩
        · exact q_no h
        rcases v2 with x2 | x2 | _ | x2
        · exact q_no h
        · exact q_no h
        · exact q_no h
        obtain ⟨⟨hk, hbt⟩, h⟩ := q_ite h
        obtain ⟨hoob, h⟩ := q_if h
        have hne : qeK x2.1 ≠ 0 := by rw [hk]; decide
        have hdom : qdom x2 = true := by
          rcases hst _ (List.mem_cons_of_mem _ (List.mem_cons_of_mem _ List.mem_cons_self)) with z | ⟨z, -⟩
          · exact z
          · exact absurd z hsc
        have hlt := qdom_lt hdom
        have hcell : ∀ μ : QM, qcell ad cA μ x2 = .inl (cA (qtk x2.1), qeL x2.1, qarrf ad μ x2) := fun μ => by unfold qcell; rw [qci_none x2.1 hlt hne]
        obtain ⟨i, hi⟩ := qw_at hdom
        have hget := qw_get (ad := ad) (cA := cA) (μ := μ) hi
        rw [hcell] at hget
        have hf : ∀ μ : QM, qarrf ad μ x2 = .inr (.inr (.inr (.inr (fun i => (μ.2.2 x2 i).map ad)))) := fun μ => by unfold qarrf; simp [hk]
        rw [hf] at hget
        have hset : ∀ t0 : Nat, qtk x2.1 = t0 → (qwld ad cA μ).set i (ad x2, .inl (cA t0, qeL x2.1, .inr (.inr (.inr (.inr (va_up (fun i => (μ.2.2 x2 i).map ad) (qix x1) (some (ad x0)))))))) = qwld ad cA (qsr μ x2 (qix x1) (some x0)) := by
          intro t0 ht0
          refine qw_set hi ?_ (fun b hb => qcell_eq rfl rfl (qsr_ne hb))
          rw [hcell, ht0, hf, qsr_up]
          rfl
        have hdb : qdom x0 = true := by
          rcases hst _ List.mem_cons_self with z | ⟨z, -⟩
          · exact z
          · exact absurd z hsc
        obtain ⟨ib, hib⟩ := qw_at hdb
        have hgb := qw_get (ad := ad) (cA := cA) (μ := μ) hib
        have hN : ∀ (H1 : Heap) (locs1 : List Loc), QW ad cA D A H0 (qsr μ x2 (qix x1) (some x0)) H1 locs1 → W p l e R s m args below meth c H1 locs1 cells slots Q (F0 m (pc + 1) ls (t2.map (qenc ad))) := fun H1 locs1 hw => Hnx _ _ _ _ _ _ ⟨hL, q_tl (q_tl (q_tl hst)), hw⟩ h
        rcases qtk_ok x2.1 hlt hne with ⟨z, -⟩ | ⟨z, -⟩ | ⟨z, -⟩ | ⟨-, ⟨hq, ht⟩ | ⟨hq, ht⟩ | ⟨hq, ht⟩⟩
        · rw [hk] at z; cases z
        · rw [hk] at z; cases z
        · rw [hk] at z; cases z
        · have hs := hset 3 hq
          rw [hq] at hget
          rw [ht] at hbt
          rw [show qcell ad cA μ x0 = .inr (1, (List.range (qN 1)).map (qfv ad μ x0)) by unfold qcell; rw [hbt]; rfl] at hgb
          exact va_astq (r := (qownS 1, qT 1, qN 1)) hx hb hK hW.1 hW.2.1 hW.2.2 i 3 ib 1 hget rfl hgb (qcl_get (by decide)) (qoob_in hoob) hd (fun H1 locs1 hP hD2 hS2 => hN H1 locs1 ⟨hs ▸ hP, hs ▸ hD2, hS2⟩)
        · have hs := hset 4 hq
          rw [hq] at hget
          rw [ht] at hbt
          rw [show qcell ad cA μ x0 = .inr (5, (List.range (qN 5)).map (qfv ad μ x0)) by unfold qcell; rw [hbt]; rfl] at hgb
          exact va_astq (r := (qownS 5, qT 5, qN 5)) hx hb hK hW.1 hW.2.1 hW.2.2 i 4 ib 5 hget rfl hgb (qcl_get (by decide)) (qoob_in hoob) hd (fun H1 locs1 hP hD2 hS2 => hN H1 locs1 ⟨hs ▸ hP, hs ▸ hD2, hS2⟩)
        · have hs := hset 5 hq
          rw [hq] at hget
          rw [ht] at hbt
          rw [show qcell ad cA μ x0 = .inr (2, (List.range (qN 2)).map (qfv ad μ x0)) by unfold qcell; rw [hbt]; rfl] at hgb
          exact va_astq (r := (qownS 2, qT 2, qN 2)) hx hb hK hW.1 hW.2.1 hW.2.2 i 5 ib 2 hget rfl hgb (qcl_get (by decide)) (qoob_in hoob) hd (fun H1 locs1 hP hD2 hS2 => hN H1 locs1 ⟨hs ▸ hP, hs ▸ hD2, hS2⟩)
      · exact q_no h
  case faload =>
    cases List.mem_singleton.mp hm
    rcases st with _ | ⟨v0, t0⟩
    · exact q_no h
    rcases v0 with x0 | x0
    · rcases t0 with _ | ⟨v1, t1⟩
      · exact q_no h
      rcases v1 with x1 | x1 | _ | x1
      · exact q_no h
      · exact q_no h
      · exact q_no h
      · obtain ⟨ha, h⟩ := q_ite h
        subst ha
        have h : qbI (call 9999 [qI x0] μ) (fun x _ => nx L (qI x :: t1) μ) = some res := h
        rcases hq : call 9999 [qI x0] μ with _ | ⟨_ | v | v | v, μ2⟩
        · rw [hq] at h; exact q_no h
        · rw [hq] at h; exact q_no h
        · rw [hq] at h
          rcases hst _ (List.mem_cons_of_mem _ List.mem_cons_self) with z | ⟨z, -⟩
          · exact absurd z (by decide)
          · exact HS1 z x0 v μ2 _ hq hd (Hnx _ _ _ _ _ _ ⟨hL, q_cons (v := qI v) trivial (q_tl (q_tl hst)), hW⟩ h)
        · rw [hq] at h; exact q_no h
        · rw [hq] at h; exact q_no h
    · exact q_no h
  case fload i =>
    cases List.mem_singleton.mp hm
    rcases st with _ | ⟨v0, t0⟩
    · exact q_no h
    rcases v0 with x0 | x0 | _ | x0
    · exact q_no h
    · exact q_no h
    · exact q_no h
    · obtain ⟨ha, h⟩ := q_ite h
      subst ha
      have h : qbI (call 9998 [] μ) (fun x _ => nx L (qI x :: t0) μ) = some res := h
      rcases hq : call 9998 [] μ with _ | ⟨_ | v | v | v, μ2⟩
      · rw [hq] at h; exact q_no h
      · rw [hq] at h; exact q_no h
      · rw [hq] at h
        rcases hst _ List.mem_cons_self with z | ⟨z, -⟩
        · exact absurd z (by decide)
        · exact HS2 z v μ2 _ hq hd (Hnx _ _ _ _ _ _ ⟨hL, q_cons (v := qI v) trivial (q_tl hst), hW⟩ h)
      · rw [hq] at h; exact q_no h
      · rw [hq] at h; exact q_no h
  case invokeinterface y cn =>
    obtain ⟨⟨o1, cp, y1, nest, idx⟩, he, hm2⟩ := q_flat hm
    obtain ⟨⟨e1, e2, hn⟩, h2⟩ := q_one hm2
    dsimp only at e1 e2
    subst e1
    subst e2
    rcases hp : qpop (cn / 8 % 8) st [] with _ | ⟨av, st2⟩
    · simp only [qop, hp] at h
      exact q_no h
    simp only [qop, hp] at h
    obtain ⟨hwd, h⟩ := q_ite h
    obtain ⟨pre, hp1, hp2, hp3⟩ := qpop_spec _ _ _ _ _ hp
    rw [List.append_nil] at hp2
    cases hq : qmis[y1]? with
    | none =>
      have hz : qnargs y1 = 99 := by unfold qnargs; rw [hq]; rfl
      omega
    | some q =>
      have hnq : qnargs y1 = q.2.2.2.2.2.2.2.2.2 := by unfold qnargs; rw [hq]; rfl
      have hsq : qstat y1 = q.2.2.2.2.1 := by unfold qstat; rw [hq]; rfl
      rw [hsq] at h2
      cases h2
      have hav : ∀ v ∈ av, qokv sc v := fun v hv => hst v (by rw [hp1]; rw [hp2] at hv; exact List.mem_append_left _ (List.mem_reverse.mp hv))
      have hrest : ∀ v ∈ st2, qokv sc v := fun v hv => hst v (by rw [hp1]; exact List.mem_append_right _ hv)
      have hlen : av.length = q.2.2.2.2.2.2.2.2.2 := by rw [hp2, List.length_reverse, hp3, hn, hnq]
      have hstk : st.map (qenc ad) = (av.map (qenc ad)).reverse ++ st2.map (qenc ad) := by rw [hp1, hp2, List.map_append, List.map_reverse, List.reverse_reverse]
      rw [hstk]
      have HC2 := HC y1 cp q nest idx hq he hd av st2
      generalize hk : cn % 8 = kd at h
      rcases hcl : call y1 av μ with _ | ⟨r, μ2⟩
      · rw [hcl] at h
        match kd, h with
        | 0, h => exact q_no h
        | 1, h => exact q_no h
        | 2, h => exact q_no h
        | 3, h => exact q_no h
        | 4, h => exact q_no h
        | _ + 5, h => exact q_no h
      rw [hcl] at h
      refine HC2 r μ2 hlen hcl hav hwd (fun H2 locs2 hW2 => ?_)
      match kd, h with
      | 0, h =>
        rcases r with _ | v
        · exact Hnx _ _ _ _ _ _ ⟨hL, hrest, hW2⟩ h
        · exact q_no h
      | 1, h =>
        rcases r with _ | v | v | v
        · exact q_no h
        · exact Hnx _ _ _ _ _ _ ⟨hL, q_cons (v := qI v) trivial hrest, hW2⟩ h
        · exact q_no h
        · exact q_no h
      | 2, h =>
        rcases r with _ | v | v | v
        · exact q_no h
        · exact q_no h
        · exact Hnx _ _ _ _ _ _ ⟨hL, q_cons (v := qL v) trivial hrest, hW2⟩ h
        · exact q_no h
      | 3, h =>
        rcases r with _ | v | v | _ | v
        · exact q_no h
        · exact q_no h
        · exact q_no h
        · exact q_no h
        · obtain ⟨⟨h1, h2⟩, h⟩ := q_ite h
          obtain ⟨v1, v2, v3⟩ := v
          dsimp only at h1 h
          rw [← h1] at h
          exact Hnx _ _ _ _ _ _ ⟨hL, q_cons (v := qR (v1, v2, v3)) (Or.inl h2) hrest, hW2⟩ h
      | 4, h =>
        rcases r with _ | v | v | _ | v
        · exact q_no h
        · exact q_no h
        · exact q_no h
        · exact Hnx _ _ _ _ _ _ ⟨hL, q_cons (v := qO none) trivial hrest, hW2⟩ h
        · obtain ⟨⟨h1, h2⟩, h⟩ := q_ite h
          obtain ⟨v1, v2, v3⟩ := v
          dsimp only at h1 h
          rw [← h1] at h
          exact Hnx _ _ _ _ _ _ ⟨hL, q_cons (v := qR (v1, v2, v3)) (Or.inl h2) hrest, hW2⟩ h
      | _ + 5, h => exact q_no h
  case ireturn =>
    obtain ⟨hr, h2⟩ := q_one hm
    cases h2
    rcases st with _ | ⟨v0, t0⟩
    · exact q_no h
    rcases v0 with x0 | x0
    · rcases t0 with _ | ⟨z, zs⟩
      · exact HRi x0 hd (Or.inl hr) (Option.some.inj h).symm
      · exact q_no h
    · exact q_no h
  case freturn =>
    obtain ⟨hr, h2⟩ := q_one hm
    cases h2
    rcases st with _ | ⟨v0, t0⟩
    · exact q_no h
    rcases v0 with x0 | x0
    · rcases t0 with _ | ⟨z, zs⟩
      · obtain ⟨h01, h⟩ := q_ite h
        exact HRi x0 hd (Or.inr ⟨hr, h01⟩) (Option.some.inj h).symm
      · exact q_no h
    · exact q_no h
  case lreturn =>
    obtain ⟨hr, h2⟩ := q_one hm
    cases h2
    rcases st with _ | ⟨v0, t0⟩
    · exact q_no h
    rcases v0 with x0 | x0 | x0
    · exact q_no h
    · rcases t0 with _ | ⟨z, zs⟩
      · exact HRl x0 hd hr (Option.some.inj h).symm
      · exact q_no h
    · exact q_no h
  case areturn =>
    rcases ret with _ | ty
    · cases hm
    cases ty with
    | object nm =>
      cases List.mem_singleton.mp hm
      rcases st with _ | ⟨v0, t0⟩
      · exact q_no h
      rcases v0 with x0 | x0 | x0
      · exact q_no h
      · exact q_no h
      · rcases t0 with _ | ⟨z, zs⟩
        · exact HRa x0 hd ⟨nm, rfl⟩ (Option.some.inj h).symm
        · exact q_no h
    | _ => cases hm
  case return_ =>
    obtain ⟨hr, h2⟩ := q_one hm
    cases h2
    rcases st with _ | ⟨z, zs⟩
    · exact HRv hd hr (Option.some.inj h).symm
    · exact q_no h
  all_goals exact q_no h
end QS
