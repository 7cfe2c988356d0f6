/-! THE CLAIM OUT OF ONE WALK OF THE LAW'S BODY. Your part is whole_start (and what it stands on); all else here is the same for every law, but numbers. -/
def R_law : String := "JealousByCalendarLaw"
def lw_P (b : Addr) (xs : List Int32) (args : Array Value) (s : State) : Prop := args = #[.ref b] ∧ s.IntsAt b xs ∧ xs.length ≤ 2560 ∧ (Jvm.Cond.and given_1 narrow_1).before args s = true
def lw_Q (_ : Array Value) (s : State) (o : Outcome) (t : State) : Prop := o = .returned (some (.int 1)) ∧ Framed s o t [] 600000 7302250
def lw_Z (below : List Frame) (a : Array Value) (s : State) : State → Prop := fun t => ∃ o, t.status = .running ∧ Ended t below o ∧ lw_Q a s o t
/-- the law's own end, with 1 on the stack, nothing written that was there before, its room as the claim has it -/
theorem lw_ret {p : Program} {l : Launch} {e : Env} {s : State} {m : MethodId} {below : List Frame} {meth : Method} {c : Code} {b : Nat} (hx : p.tables.exec = Jvm.exec) (hb : c.code = code) (hr : meth.sig.returnType = ret) (hlocks : meth.locks = false) {pc : Nat} {H : Heap} {ls : Array Slot} (hdg : decode code pc = .ok (.ireturn, 1)) : W p l e room_1 s m #[Value.ref b] below meth c H [] 600000 7302250 (lw_Z below #[Value.ref b] s) (F0 m pc ls [.int 1]) := by
  intro T hT X
  obtain ⟨fs, hret, hrun, hended, hW, hframe⟩ := X.leave (v := some (.int 1)) (hlocks := hlocks) (fun h => by rw [hr] at h; cases h)
  have hmeth' : T.vm.method? m = some meth := X.method'
  refine ⟨T.setFrames fs, ?_, .returned (some (.int 1)), hrun, hended, rfl, ⟨_, rfl⟩, hW, hframe⟩
  jvm_step X.here [X.here.top, hx, hb, hdg, hmeth', hr, ret, narrow_b1]
  (try refine ⟨rfl, ?_⟩); (try refine ⟨rfl, ?_⟩)
  first | (intro acts; rw [hret _ acts rfl rfl rfl]) | rw [hret _ _ rfl rfl rfl]
  exact Steps.refl _
/-- what holds at the law's entry: the machine, the code, the tables' words (any of lw_tbl by 'hts w (by decide +kernel)'), the script of L ints xs at the cell b, what the Statement gives of the start (any of its parts by flat_of_before) -/
def lw_At (p : Program) (s : State) (m : MethodId) (meth : Method) (c : Code) (b L : Nat) (xs : Nat → Int32) : Prop :=
  p.tables.exec = Jvm.exec ∧ c.code = code ∧ meth.sig.returnType = ret ∧ c.maxLocals = 4 ∧ s.vm.findClass R_law = some m.cls ∧ (∀ w ∈ lw_tbl, w.before #[Value.ref b] s = true) ∧ va_X b L xs s s.heap ∧ b < s.heap.size ∧ meth.locks = false ∧ (Jvm.Cond.and given_1 narrow_1).before #[Value.ref b] s = true

/-! the classes, the arrays' classes, as the tables' words have them -/
theorem st_inst : ∀ ci, ci < 8 → lw_tbl[[159, 206, 167, 173, 271, 278, 336, 1052].getD ci 0]? = some (.instantiable (qownS ci) (qN ci)) := by decide +kernel
theorem st_obj {s : State} {args : Array Value} {C : String} (h : (Cond.arrayOver (.object C)).before args s = true) : ∃ cA : ClassId, ArrOfT s cA (.object C) ∧ va_RA s cA (.object C) := by
  obtain ⟨comp, c, k, f1, f2, f3, f4, f5⟩ := Cond.arrayOver_spec h
  exact ⟨c, fun N z => ⟨fun k h => (by cases h), k, f3, comp, f4⟩, k, comp, f3, f4, f1, f5⟩
theorem st_K {s : State} {args : Array Value} (hts : ∀ w ∈ lw_tbl, w.before args s = true) : ∃ (D : va_G) (cA : Nat → ClassId), va_K D qcl (qtys cA) s ∧ kAO s := by
  have h1 : ∀ ci, ci < 8 → ∃ x : ClassId × (Nat → Nat), u_Kn s (qownS ci) (qT ci) (qN ci) x.1 x.2 := fun ci h => by
    obtain ⟨cC, iS, hk⟩ := u_known hts (fun w hw => (qin ci h w hw).1) (hts _ (List.mem_of_getElem? (st_inst ci h)))
    exact ⟨(cC, iS), hk⟩
  have e : ∀ ci, ci < 8 → u_Kn s (qownS ci) (qT ci) (qN ci) (if h : ci < 8 then (h1 ci h).choose else (h1 0 (by decide)).choose).1 (if h : ci < 8 then (h1 ci h).choose else (h1 0 (by decide)).choose).2 := fun ci h => by
    rw [dif_pos h]
    exact (h1 ci h).choose_spec
  have w3 : (Cond.arrayOver (.object "JealousByCalendar$Cause")).before args s = true := hts _ (List.mem_of_getElem? (i := 205) (by decide +kernel))
  have w4 : (Cond.arrayOver (.object "JealousByCalendar$Choice")).before args s = true := hts _ (List.mem_of_getElem? (i := 277) (by decide +kernel))
  have w5 : (Cond.arrayOver (.object "JealousByCalendar$Affair")).before args s = true := hts _ (List.mem_of_getElem? (i := 269) (by decide +kernel))
  have w0 : (Cond.arrayClass .int).before args s = true := hts _ (List.mem_of_getElem? (i := 296) (by decide +kernel))
  have w1 : (Cond.arrayClass .long).before args s = true := hts _ (List.mem_of_getElem? (i := 354) (by decide +kernel))
  have w2 : (Cond.arrayClass .boolean).before args s = true := hts _ (List.mem_of_getElem? (i := 355) (by decide +kernel))
  obtain ⟨c0, k0, p0, i0, j0, l0⟩ := Cond.arrayClass_spec w0
  obtain ⟨c1, k1, p1, i1, j1, l1⟩ := Cond.arrayClass_spec w1
  obtain ⟨c2, k2, p2, i2, j2, l2⟩ := Cond.arrayClass_spec w2
  obtain ⟨c3, a3⟩ := st_obj w3
  obtain ⟨c4, a4⟩ := st_obj w4
  obtain ⟨c5, a5⟩ := st_obj w5
  have a0 : ArrOfT s c0 .int ∧ va_RA s c0 .int := ⟨fun N z => ⟨fun k h => (by cases h), k0, j0, p0, l0⟩, i0⟩
  have a1 : ArrOfT s c1 .long ∧ va_RA s c1 .long := ⟨fun N z => ⟨fun k h => (by cases h), k1, j1, p1, l1⟩, i1⟩
  have a2 : ArrOfT s c2 .boolean ∧ va_RA s c2 .boolean := ⟨fun N z => ⟨fun k h => (by cases h), k2, j2, p2, l2⟩, i2⟩
  refine ⟨(fun ci => (if h : ci < 8 then (h1 ci h).choose else (h1 0 (by decide)).choose).1, fun ci => (if h : ci < 8 then (h1 ci h).choose else (h1 0 (by decide)).choose).2), fun k => if k = 0 then c0 else if k = 1 then c1 else if k = 2 then c2 else if k = 3 then c3 else if k = 4 then c4 else c5, ⟨fun k q hq => ?_, fun k q hq => ?_⟩, va_AO.of w3, va_AO.of w4, va_AO.of w5⟩
  · have hk : k < 8 := (List.getElem?_eq_some_iff.mp hq).1
    cases (qcl_get hk).symm.trans hq
    exact e k hk
  · match k, hq with
    | 0, hq => cases hq; exact a0
    | 1, hq => cases hq; exact a1
    | 2, hq => cases hq; exact a2
    | 3, hq => cases hq; exact a3
    | 4, hq => cases hq; exact a4
    | 5, hq => cases hq; exact a5
    | k + 6, hq => cases hq
theorem kd_L_0 : decode code 0 = .ok (.new 7, 3) := by decide +kernel
theorem kd_L_3 : decode code 3 = .ok (.dup, 1) := by decide +kernel
theorem kd_L_4 : decode code 4 = .ok (.invokespecial 9, 3) := by decide +kernel
theorem kd_L_7 : decode code 7 = .ok (.astore_n 1, 1) := by decide +kernel
theorem kd_L_8 : decode code 8 = .ok (.new 10, 3) := by decide +kernel
theorem kd_L_11 : decode code 11 = .ok (.dup, 1) := by decide +kernel
theorem kd_L_12 : decode code 12 = .ok (.invokespecial 12, 3) := by decide +kernel
theorem kd_L_15 : decode code 15 = .ok (.astore_n 2, 1) := by decide +kernel
theorem qmis_len : qmis.length = 266 := by decide +kernel
theorem zI_is1 : zI 1 = 1 := by decide +kernel
/-- the law's body from its loop's beginning -/
theorem st_body {p : Program} {e : Env} {s : State} {m : MethodId} {below : List Frame} {meth : Method} {c : Code} {l : Launch} {b L : Nat} {xs : Nat → Int32} (hL : L ≤ 2560) {D : va_G} {cA : Nat → ClassId} (E : qEnv p s m #[Value.ref b] c code 4 8 D cA) (hr : meth.sig.returnType = ret) (hlocks : meth.locks = false) (hX : va_X b L xs s s.heap) (hbl : b < s.heap.size)
    {ad : QA → Nat} (had : ad (99, 0, 0) = b) {ls : Array Slot} {H : Heap} {locs : List Loc} (hW : QW ad cA D (fun q => s.heap.size ≤ q) s.heap mu0 H locs) (hl : lv_has ls 4 [(2, .ref (ad (24, 0, 0))), (1, .ref (ad (0, 0, 0))), (0, .ref b)]) {cells slots : Nat} (hc : cells ≤ 600000) (hsl : slots ≤ 7302250) :
    W p l e room_1 s m #[Value.ref b] below meth c H locs cells slots (lw_Z below #[Value.ref b] s) (F0 m 16 ls []) := by
  obtain ⟨μ', hrun⟩ := law_loop 0 L xs hL 512 0 gs0 mu0 (by omega) (Nat.zero_le L) CI_0 MI_0 GOK_0
  have h : qrun (lwc (0 + 30) L xs) qc_L 16 [some (qR (99, 0, 0)), some (qR (0, 0, 0)), some (qR (24, 0, 0)), none] [] mu0 = some (some (qI (zI 1)), μ') := (ql_16 (0 + 30) L xs mu0).trans hrun
  have hbA : ¬ s.heap.size ≤ b := Nat.not_le.mpr hbl
  have hLr : QLr ad true ls 4 [some (qR (99, 0, 0)), some (qR (0, 0, 0)), some (qR (24, 0, 0)), none] := by
    refine ⟨hl.1, hl.2.1, rfl, fun i v hi => ?_⟩
    match i, hi with
    | 0, hi => cases hi; exact ⟨Or.inr ⟨rfl, rfl⟩, by have := lv_at hl 2 rfl; rw [← had] at this; exact this⟩
    | 1, hi => cases hi; exact ⟨Or.inl (by decide), lv_at hl 1 rfl⟩
    | 2, hi => cases hi; exact ⟨Or.inl (by decide), lv_at hl 0 rfl⟩
    | 3, hi => cases hi
    | i + 4, hi => cases hi
  have X : qCtx p l e room_1 s m #[Value.ref b] below meth c (lw_Z below #[Value.ref b] s) cells slots 8 code 4 ret D cA ad (fun q => s.heap.size ≤ q) s.heap true (some (qI (zI 1)), μ') (lwc (0 + 30) L xs) := by
    refine ⟨fun pc ls μ1 H locs hsz hW1 y cp q nest idx hq he hdd av rest r1 μ2 hlen hcl hokv hwd kk => ?_, fun pc ls μ1 H locs hW1 _ i x μ2 rest hcl hdd kk => ?_, fun pc ls μ1 H locs hW1 _ x μ2 rest hcl hdd kk => ?_, fun pc ls μ1 H locs hW1 => ⟨fun x hdg _ he => ?_, fun x _ _ he => (by cases he), fun x _ _ he => (by cases he), fun _ _ he => (by cases he)⟩⟩
    · have hy : y < 9000 := by
        have := (List.getElem?_eq_some_iff.mp hq).1
        rw [qmis_len] at this
        omega
      rw [lwc_cl hy] at hcl
      obtain ⟨q2, pr2, hq2, hp2, hk2, hga2, hM2⟩ := qmet l ad cA D qprogs qprogs_ok (by rw [qprogs_len]; decide) 30 y av μ1 r1 μ2 hcl
      cases hq.symm.trans hq2
      refine q_call E (d := 30) ⟨Nat.le_of_ble_eq_true rfl, Nat.le_of_ble_eq_true rfl, hc, hsl⟩ hsz hW1 hq he hdd hlen hM2 ?_ hwd kk
      intro hst
      unfold qpok at hk2
      rw [hq] at hk2
      simp only [Bool.and_eq_true, decide_eq_true_eq, hst, Bool.false_or] at hk2
      obtain ⟨⟨⟨⟨⟨j1, -⟩, -⟩, -⟩, j5⟩, -⟩ := hk2
      cases hsg : pr2.2.1 with
      | nil => rw [hsg] at j5; cases j5
      | cons sg ss =>
        rw [hsg] at j5 hga2
        simp only [Bool.and_eq_true, decide_eq_true_eq] at j5
        obtain ⟨⟨⟨j6, j7⟩, j8⟩, j9⟩ := j5
        cases av with
        | nil => cases hga2
        | cons u us =>
          simp only [qargs, Bool.and_eq_true] at hga2
          rcases u with x | x | _ | a
          · simp only [qarg1, beq_iff_eq] at hga2; omega
          · simp only [qarg1, beq_iff_eq] at hga2; omega
          · simp [qarg1] at hga2
          · simp only [qarg1, Bool.and_eq_true, Bool.or_eq_true, beq_iff_eq] at hga2
            obtain ⟨⟨h1, h2⟩, -⟩ := hga2
            refine ⟨a, us, pr2.1, rfl, h2, ?_, j9, j1⟩
            rw [show a.1 = sg - 2 by omega]
            exact j8
    · have hcl : (bif qoob i L then none else some (some (qI (xs (qix i))), μ1)) = some (some (.inl x), μ2) := hcl
      cases ho : qoob i L with
      | true => rw [ho] at hcl; cases hcl
      | false =>
        rw [ho] at hcl
        cases hcl
        rw [had]
        exact va_sld E.1 E.2.1 hX hbl hbA hW1.2.2 (vin_of ho) hdd kk
    · have hcl : some (some (qI (Int32.ofNat L)), μ1) = some (some (.inl x), μ2) := hcl
      cases hcl
      rw [had]
      exact va_slen E.1 E.2.1 hX hbl hbA hW1.2.2 hdd kk
    · cases he
      rw [zI_is1]
      refine va_forget (fun q hq => hW1.2.2.2.2 q hq) ?_
      refine W.widen (k := 600000) (n := 7302250) hc hsl ?_
      exact lw_ret E.1 E.2.1 hr hlocks hdg
  exact qrun_sound E (fun _ => rfl) ⟨Nat.le_of_ble_eq_true rfl, Nat.le_of_ble_eq_true rfl, hc, hsl⟩ X qc_L_ok (st := []) ⟨hLr, fun v hv => (by cases hv), hW⟩ h
set_option maxHeartbeats 4000000 in
set_option maxRecDepth 100000 in
theorem whole_start {p : Program} {e : Env} {s : State} {m : MethodId} {below : List Frame} {meth : Method} {c : Code} (l : Launch) (hflags : l.flags = flags0) {b L : Nat} {xs : Nat → Int32} (hL : L ≤ 2560) (C0 : lw_At p s m meth c b L xs) : W p l e room_1 s m #[Value.ref b] below meth c s.heap [] 0 0 (lw_Z below #[Value.ref b] s) (entryFrame m ([Value.ref b] : List Value).toArray 4) := by
  obtain ⟨hx, hb, hr, hml, hown, hts, hX, hbl, hlocks, -⟩ := C0
  obtain ⟨D, cA, hK, hAO⟩ := st_K hts
  have E : kE p s m #[Value.ref b] c code 4 8 D cA := ⟨⟨hx, hb, hml, hown, fun w hw => hts w (List.mem_filter.mp hw).1, hK, qNst.of hts⟩, hAO⟩
  have hl := lv_entry [Value.ref b] (n := 4) (Nat.le_of_ble_eq_true rfl)
  rw [lg_entry_eq]
  generalize (lg_sl [Value.ref b] ++ List.replicate (4 - (lg_sl [Value.ref b]).length) Slot.unset).toArray = ls at hl ⊢
  have hl : lv_has ls 4 [(0, .ref b)] := hl
  have hA : ∀ q, s.heap.size ≤ q → (fun q : Nat => s.heap.size ≤ q) q := fun q h => h
  have hW : kC D (fun q : Nat => s.heap.size ≤ q) s.heap [] s.heap [] := ⟨fun k q h => (by cases h), ⟨fun i j x y h => (by cases h), fun k q h => (by cases h)⟩, va_S.rf⟩
  refine k_new E hW hA (ci := 0) (i1 := 158) (i2 := 159) (i3 := 148) (by decide) (by decide +kernel) (by decide +kernel) (by decide +kernel) ⟨(Nat.le_of_ble_eq_true rfl), (Nat.le_of_ble_eq_true rfl)⟩ kd_L_0 (fun qJ H hW => ?_)
  refine lv_dup E.1.1 E.1.2.1 kd_L_3 rfl ?_
  refine k_call E (S := (Nat → Nat) × (Nat → Nat → Nat)) (i1 := 160) (i2 := 161) (i3 := 162) (i4 := 148) (As := []) (rest := [.ref qJ]) (X := []) false (c_J_init l D cA qJ H.size) hW hA hl.1 (by decide +kernel) (by decide +kernel) (by decide +kernel) (by decide +kernel) ⟨rfl, by decide, by decide, by decide +kernel⟩ ⟨(Nat.le_of_ble_eq_true rfl), (Nat.le_of_ble_eq_true rfl), (Nat.le_of_ble_eq_true rfl), (Nat.le_of_ble_eq_true rfl)⟩ (Nat.le_of_ble_eq_true rfl) kd_L_4 (fun u H locs hW => ?_)
  have hW : kC D (fun q : Nat => s.heap.size ≤ q) s.heap (wJ cA qJ u.1 u.2 (gAf 3 u.1 8) 8) H locs := hW
  refine lv_astore_n (i := 1) E.1.1 E.1.2.1 kd_L_7 rfl hl (by decide) rfl (fun ls hl => ?_)
  refine k_new E hW hA (ci := 7) (i1 := 1051) (i2 := 1052) (i3 := 155) (by decide) (by decide +kernel) (by decide +kernel) (by decide +kernel) ⟨(Nat.le_of_ble_eq_true rfl), (Nat.le_of_ble_eq_true rfl)⟩ kd_L_8 (fun qM H hW => ?_)
  refine lv_dup E.1.1 E.1.2.1 kd_L_11 rfl ?_
  refine k_call E (S := Nat → Nat) (i1 := 1053) (i2 := 1054) (i3 := 1055) (i4 := 155) (As := []) (rest := [.ref qM]) (X := wJ cA qJ u.1 u.2 (gAf 3 u.1 8) 8) false (c_M_init l D cA qM H.size) hW hA hl.1 (by decide +kernel) (by decide +kernel) (by decide +kernel) (by decide +kernel) ⟨rfl, by decide, by decide, by decide +kernel⟩ ⟨(Nat.le_of_ble_eq_true rfl), (Nat.le_of_ble_eq_true rfl), (Nat.le_of_ble_eq_true rfl), (Nat.le_of_ble_eq_true rfl)⟩ (Nat.le_of_ble_eq_true rfl) kd_L_12 (fun v H locs hW => ?_)
  refine lv_astore_n (i := 2) E.1.1 E.1.2.1 kd_L_15 rfl hl (by decide) rfl (fun ls hl => ?_)
  exact st_body (ad := adr qJ qM b u.1 u.2 v) hL E.1 hr hlocks hX hbl rfl (hW.conv b) hl (Nat.le_of_ble_eq_true rfl) (Nat.le_of_ble_eq_true rfl)
