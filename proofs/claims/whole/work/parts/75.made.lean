section
/-! making objects: rows over a world whose first cell is the object being made -/
variable {p : Program} {l : Launch} {e : Env} {R : Room} {s : State} {m : MethodId} {args : Array Value} {below : List Frame} {meth : Method} {c : Code} {H : Heap} {locs : List Loc} {cells slots : Nat} {Q : State → Prop}
variable {own : Nat} {cc : ByteArray} {nL : Nat} {D : va_G} {cA : Nat → ClassId} {A : Nat → Prop} {H0 : Heap} {pc : Nat} {ls : Array Slot} {rest : List Value} {ws : va_W}
def kAO (s : State) : Prop := va_AO "JealousByCalendar$Cause" s ∧ va_AO "JealousByCalendar$Choice" s ∧ va_AO "JealousByCalendar$Affair" s
theorem kAO.moved {u U : State} (hvm : u.vm.Alike U.vm) (h : kAO u) : kAO U := ⟨h.1.moved hvm, h.2.1.moved hvm, h.2.2.moved hvm⟩
def kE (p : Program) (s : State) (m : MethodId) (args : Array Value) (c : Code) (cc : ByteArray) (nL own : Nat) (D : va_G) (cA : Nat → ClassId) : Prop := qEnv p s m args c cc nL own D cA ∧ kAO s
def kC (D : va_G) (A : Nat → Prop) (H0 : Heap) (ws : va_W) (H : Heap) (locs : List Loc) : Prop := va_P D qcl ws H ∧ va_D A ws ∧ va_S A H0 H locs
def k0 (ci : Nat) : List Value := (List.range (qN ci)).map fun k => defaultValue (qty ci k)
theorem k0_at {ci j : Nat} (h : j < qN ci) : defaultValue (qty ci j) = vp_V (k0 ci) j := by
  unfold vp_V k0
  rw [List.getD_eq_getElem?_getD, List.getElem?_map, List.getElem?_range h]
  rfl
theorem kE.w (E : kE p s m args c cc nL own D cA) {i : Nat} {w : Cond} (h : lw_tbl[i]? = some w) (hg : goodWord w = true) : w.before args s = true := E.1.2.2.2.2.1 _ (gtb_at h hg)
theorem k_new (E : kE p s m args c cc nL own D cA) (hW : kC D A H0 ws H locs) (hA : ∀ q, H0.size ≤ q → A q) {ci index i1 i2 i3 : Nat} (hci : ci < 8) (h1 : lw_tbl[i1]? = some (.classLink (qownS own) index (qownS ci))) (h2 : lw_tbl[i2]? = some (.instantiable (qownS ci) (qN ci))) (h3 : lw_tbl[i3]? = some (.initialized (qownS ci)))
    (hc : cells + 1 ≤ R.cells ∧ slots + qN ci ≤ R.slots) (hdg : decode cc pc = .ok (.new index, 3))
    (kk : ∀ (q : Nat) (H1 : Heap), kC D A H0 (ws ++ [(q, .inr (ci, k0 ci))]) H1 locs → W p l e R s m args below meth c H1 locs (cells + 1) (slots + qN ci) Q (F0 m (pc + 3) ls (.ref q :: rest))) : W p l e R s m args below meth c H locs cells slots Q (F0 m pc ls rest) :=
  va_new (ci := ci) (fs := k0 ci) (C := qownS ci) (T := qT ci) (N := qN ci) E.1.1 E.1.2.1 E.1.2.2.2.2.1 (fun w hw => gtb_of (qin ci hci w hw).1 (qin ci hci w hw).2) (qty ci) (qtyok ci hci) E.1.2.2.2.1 (E.w h1 rfl) (E.w h2 rfl) (E.w h3 rfl) E.1.2.2.2.2.2.1 hW.1 hW.2.1 hW.2.2 hA (qcl_get hci) (fun j hj => k0_at hj) hc.1 hc.2 hdg fun q H1 hP hD hS => kk q H1 ⟨hP, hD, hS⟩
theorem kE.arr (E : kE p s m args c cc nL own D cA) {cA' : ClassId} {k : Nat} {ty : FieldType} (hk : (qtys cA)[k]? = some (cA k, ty)) (h : va_K D qcl (qtys cA ++ [(cA', ty)]) s) : cA' = cA k := by
  have h1 := (h.2 6 (cA', ty) (by rw [List.getElem?_append_right (by show 6 ≤ 6; decide)]; rfl)).2
  have h2 := (E.1.2.2.2.2.2.1.2 k _ hk).2
  cases ty with
  | object C =>
    obtain ⟨-, -, -, -, -, f1⟩ := h1
    obtain ⟨-, -, -, -, -, f2⟩ := h2
    exact Option.some.inj (f1.symm.trans f2)
  | _ => exact Option.some.inj (Eq.trans (Eq.symm h1) h2)
theorem k_newi (E : kE p s m args c cc nL own D cA) (hW : kC D A H0 ws H locs) (hA : ∀ q, H0.size ≤ q → A q) {n : Int32} {N : Nat} (hn : ¬ n < 0) (hN : n.toNatClampNeg = N) (hb : N ≤ 100000) (hc : cells + 1 ≤ R.cells ∧ slots + N ≤ R.slots) (hdg : decode cc pc = .ok (.newarray .int, 2))
    (kk : ∀ (q : Nat) (H1 : Heap), kC D A H0 (ws ++ [(q, .inl (cA 0, N, .inl (fun _ => 0)))]) H1 locs → W p l e R s m args below meth c H1 locs (cells + 1) (slots + N) Q (F0 m (pc + 2) ls (.ref q :: rest))) : W p l e R s m args below meth c H locs cells slots Q (F0 m pc ls (.int n :: rest)) :=
  va_newa (atype := .int) E.1.1 E.1.2.1 (E.w (i := 296) (by decide +kernel) rfl) (ty := .int) rfl E.1.2.2.2.2.2.1 hW.1 hW.2.1 hW.2.2 hA (a0 := (N, .inl (fun _ => 0))) (fun _ => rfl) hn hN (Nat.le_trans (Nat.mul_le_mul_right _ hb) (by decide)) hc.1 hc.2 hdg fun q cA' H1 hK hP hD hS => by
    have e := E.arr (k := 0) rfl hK
    subst e
    exact kk q H1 ⟨hP, hD, hS⟩
theorem k_newl (E : kE p s m args c cc nL own D cA) (hW : kC D A H0 ws H locs) (hA : ∀ q, H0.size ≤ q → A q) {n : Int32} {N : Nat} (hn : ¬ n < 0) (hN : n.toNatClampNeg = N) (hb : N ≤ 100000) (hc : cells + 1 ≤ R.cells ∧ slots + N ≤ R.slots) (hdg : decode cc pc = .ok (.newarray .long, 2))
    (kk : ∀ (q : Nat) (H1 : Heap), kC D A H0 (ws ++ [(q, .inl (cA 1, N, .inr (.inl (fun _ => 0))))]) H1 locs → W p l e R s m args below meth c H1 locs (cells + 1) (slots + N) Q (F0 m (pc + 2) ls (.ref q :: rest))) : W p l e R s m args below meth c H locs cells slots Q (F0 m pc ls (.int n :: rest)) :=
  va_newa (atype := .long) E.1.1 E.1.2.1 (E.w (i := 354) (by decide +kernel) rfl) (ty := .long) rfl E.1.2.2.2.2.2.1 hW.1 hW.2.1 hW.2.2 hA (a0 := (N, .inr (.inl (fun _ => 0)))) (fun _ => rfl) hn hN (Nat.le_trans (Nat.mul_le_mul_right _ hb) (by decide)) hc.1 hc.2 hdg fun q cA' H1 hK hP hD hS => by
    have e := E.arr (k := 1) rfl hK
    subst e
    exact kk q H1 ⟨hP, hD, hS⟩
theorem k_newz (E : kE p s m args c cc nL own D cA) (hW : kC D A H0 ws H locs) (hA : ∀ q, H0.size ≤ q → A q) {n : Int32} {N : Nat} (hn : ¬ n < 0) (hN : n.toNatClampNeg = N) (hb : N ≤ 100000) (hc : cells + 1 ≤ R.cells ∧ slots + N ≤ R.slots) (hdg : decode cc pc = .ok (.newarray .boolean, 2))
    (kk : ∀ (q : Nat) (H1 : Heap), kC D A H0 (ws ++ [(q, .inl (cA 2, N, .inl (fun _ => 0)))]) H1 locs → W p l e R s m args below meth c H1 locs (cells + 1) (slots + N) Q (F0 m (pc + 2) ls (.ref q :: rest))) : W p l e R s m args below meth c H locs cells slots Q (F0 m pc ls (.int n :: rest)) :=
  va_newa (atype := .boolean) E.1.1 E.1.2.1 (E.w (i := 355) (by decide +kernel) rfl) (ty := .boolean) rfl E.1.2.2.2.2.2.1 hW.1 hW.2.1 hW.2.2 hA (a0 := (N, .inl (fun _ => 0))) (fun _ => rfl) hn hN (Nat.le_trans (Nat.mul_le_mul_right _ hb) (by decide)) hc.1 hc.2 hdg fun q cA' H1 hK hP hD hS => by
    have e := E.arr (k := 2) rfl hK
    subst e
    exact kk q H1 ⟨hP, hD, hS⟩
theorem k_newq (E : kE p s m args c cc nL own D cA) (hW : kC D A H0 ws H locs) (hA : ∀ q, H0.size ≤ q → A q) {n : Int32} {N k index i1 : Nat} {C : String} (hk : (qtys cA)[k]? = some (cA k, .object C)) (ho : va_AO C s) (h1 : lw_tbl[i1]? = some (.classLink (qownS own) index C)) (hn : ¬ n < 0) (hN : n.toNatClampNeg = N) (hb : N ≤ 100000) (hc : cells + 1 ≤ R.cells ∧ slots + N ≤ R.slots) (hdg : decode cc pc = .ok (.anewarray index, 3))
    (kk : ∀ (q : Nat) (H1 : Heap), kC D A H0 (ws ++ [(q, .inl (cA k, N, .inr (.inr (.inr (.inr (fun _ => none))))))]) H1 locs → W p l e R s m args below meth c H1 locs (cells + 1) (slots + N) Q (F0 m (pc + 3) ls (.ref q :: rest))) : W p l e R s m args below meth c H locs cells slots Q (F0 m pc ls (.int n :: rest)) :=
  va_newq E.1.1 E.1.2.1 E.1.2.2.2.1 (E.w h1 rfl) ho E.1.2.2.2.2.2.1 hW.1 hW.2.1 hW.2.2 hA hn hN (Nat.le_trans (Nat.mul_le_mul_right _ hb) (by decide)) hc.1 hc.2 hdg fun q cA' H1 hK hP hD hS => by
    have e := E.arr hk hK
    subst e
    exact kk q H1 ⟨hP, hD, hS⟩
theorem k_putF (E : kE p s m args c cc nL own D cA) (hin : meth.name = "<init>") {h0 ci k i1 index : Nat} {fs : List Value} {X : va_W} (hW : kC D A H0 ((h0, .inr (ci, fs)) :: X) H locs) (hci : ci < 8) (hk : k < qN ci) (h1 : lw_tbl[i1]? = some (.fieldLink (qownS own) index (qownS ci) (qT ci k).2.1 (qT ci k).2.2.1)) (hfin : (qT ci k).2.2.2 = true) (hdecl : (qT ci k).1 = qownS own ∧ qownS ci = (qT ci k).1) {v : Value} (hn : narrow (qty ci k) v = v) (hfit : fits (qty ci k) v = true) (hl : k < fs.length) (hdg : decode cc pc = .ok (.putfield index, 3))
    (kk : ∀ (H1 : Heap) (locs1 : List Loc), kC D A H0 ((h0, .inr (ci, fs.set k v)) :: X) H1 locs1 → W p l e R s m args below meth c H1 locs1 cells slots Q (F0 m (pc + 3) ls rest)) : W p l e R s m args below meth c H locs cells slots Q (F0 m pc ls (v :: .ref h0 :: rest)) :=
  va_putF (ci := ci) (C := qownS ci) (T := qT ci) (N := qN ci) (ref := qownS ci) E.1.1 E.1.2.1 E.1.2.2.2.2.1 (fun w hw => gtb_of (qin ci hci w hw).1 (qin ci hci w hw).2) (qty ci) (qtyok ci hci) (qnm ci hci) E.1.2.2.2.1 E.1.2.2.2.2.2.1 hW.1 hW.2.1 hW.2.2 0 rfl (qcl_get hci) k hk (E.w h1 rfl) (fun x h => by rw [hdecl.2]; exact h) hfin hin hdecl.1 (qtyok ci hci k hk) hn hfit hl hdg fun H1 locs1 hP hD hS => kk H1 locs1 ⟨hP, hD, hS⟩
theorem k_put (E : kE p s m args c cc nL own D cA) {h0 ci k i1 index : Nat} {fs : List Value} {X : va_W} (hW : kC D A H0 ((h0, .inr (ci, fs)) :: X) H locs) (hci : ci < 8) (hk : k < qN ci) (h1 : lw_tbl[i1]? = some (.fieldLink (qownS own) index (qownS ci) (qT ci k).2.1 (qT ci k).2.2.1)) (hfin : (qT ci k).2.2.2 = false) (hdecl : qownS ci = (qT ci k).1) {v : Value} (hn : narrow (qty ci k) v = v) (hfit : fits (qty ci k) v = true) (hl : k < fs.length) (hdg : decode cc pc = .ok (.putfield index, 3))
    (kk : ∀ (H1 : Heap) (locs1 : List Loc), kC D A H0 ((h0, .inr (ci, fs.set k v)) :: X) H1 locs1 → W p l e R s m args below meth c H1 locs1 cells slots Q (F0 m (pc + 3) ls rest)) : W p l e R s m args below meth c H locs cells slots Q (F0 m pc ls (v :: .ref h0 :: rest)) :=
  va_put (ci := ci) (C := qownS ci) (T := qT ci) (N := qN ci) (ref := qownS ci) E.1.1 E.1.2.1 E.1.2.2.2.2.1 (fun w hw => gtb_of (qin ci hci w hw).1 (qin ci hci w hw).2) (qty ci) (qtyok ci hci) (qnm ci hci) E.1.2.2.2.1 E.1.2.2.2.2.2.1 hW.1 hW.2.1 hW.2.2 0 rfl (qcl_get hci) k hk (E.w h1 rfl) (fun x h => by rw [hdecl]; exact h) hfin (qtyok ci hci k hk) hn hfit hl hdg fun H1 locs1 hP hD hS => kk H1 locs1 ⟨hP, hD, hS⟩
theorem k_get (E : kE p s m args c cc nL own D cA) {h0 ci k i1 index : Nat} {fs : List Value} {X : va_W} (hW : kC D A H0 ((h0, .inr (ci, fs)) :: X) H locs) (hci : ci < 8) (hk : k < qN ci) (h1 : lw_tbl[i1]? = some (.fieldLink (qownS own) index (qownS ci) (qT ci k).2.1 (qT ci k).2.2.1)) (hdecl : qownS ci = (qT ci k).1) {v : Value} (hv : fs[k]? = some v) (hdg : decode cc pc = .ok (.getfield index, 3))
    (kk : W p l e R s m args below meth c H locs cells slots Q (F0 m (pc + 3) ls (v :: rest))) : W p l e R s m args below meth c H locs cells slots Q (F0 m pc ls (.ref h0 :: rest)) :=
  va_get (ci := ci) (C := qownS ci) (T := qT ci) (N := qN ci) (ref := qownS ci) E.1.1 E.1.2.1 E.1.2.2.2.2.1 (fun w hw => gtb_of (qin ci hci w hw).1 (qin ci hci w hw).2) E.1.2.2.2.1 E.1.2.2.2.2.2.1 hW.1 0 rfl (qcl_get hci) k hk (E.w h1 rfl) (fun x h => by rw [hdecl]; exact h) hv hdg kk
theorem k_obj (E : kE p s m args c cc nL own D cA) {idx i1 h0 : Nat} (h1 : lw_tbl[i1]? = some (.methodLink (qownS own) idx Lib.objectInit)) (hsz : ls.size = nL) (hR : 1 ≤ R.frames ∧ 60 ≤ R.locals) (hdg : decode cc pc = .ok (.invokespecial idx, 3)) (kk : W p l e R s m args below meth c H locs cells slots Q (F0 m (pc + 3) ls [])) : W p l e R s m args below meth c H locs cells slots Q (F0 m pc ls [.ref h0]) :=
  W.objInit (rest := []) E.1.1 E.1.2.1 E.1.2.2.2.1 (E.w h1 rfl) (E.w (i := 164) (by decide +kernel) rfl) (E.w (w := Cond.code Lib.objectInit ⟨#[0xb1]⟩ 1 none) (i := 165) (by decide +kernel) rfl) rfl (by rw [E.1.2.2.1]; exact hsz) rfl hdg hR.1 (Nat.le_trans (by show 2 * _ + 0 + 12 ≤ 60; exact Nat.le_of_ble_eq_true rfl) hR.2) kk
/-! contracts of constructors -/
def kPre (D : va_G) (cA : Nat → ClassId) (h0 ci sz : Nat) : State → Prop := fun U => U.heap.size = sz ∧ va_P D qcl [(h0, .inr (ci, k0 ci))] U.heap ∧ va_K D qcl (qtys cA) U ∧ qNst U ∧ kAO U
abbrev kA0 (h0 ci sz : Nat) : Nat → Prop := va_A [(h0, .inr (ci, k0 ci))] sz
def kPost {S : Type} (D : va_G) (A : Nat → Prop) (w : S → va_W) : Array Value → State → Outcome → State → Prop := va_Qv (fun _ : S => True) (fun u t => va_P D qcl (w u) t.heap ∧ va_D A (w u)) A
def kMet {S : Type} (l : Launch) (D : va_G) (cA : Nat → ClassId) (y : MethodName) (bytes : ByteArray) (maxL d h0 ci sz : Nat) (As : List Value) (mc ms : Nat) (w : S → va_W) : Prop :=
  Met l y (Cond.code y bytes maxL none :: gtb) { frames := d, cells := mc, slots := ms, locals := 64 * d } (va_Pc (.ref h0 :: As) (kPre D cA h0 ci sz)) (kPost D (kA0 h0 ci sz) w) mc ms (kA0 h0 ci sz)
theorem va_D.one {A : Nat → Prop} {a : Nat} {x : va_E} (h : A a) : va_D A [(a, x)] := ⟨fun i j p q hi hj _ => by
    have h1 : i < 1 := (List.getElem?_eq_some_iff.mp hi).1
    have h2 : j < 1 := (List.getElem?_eq_some_iff.mp hj).1
    omega, fun k q hk => by
    have h1 : k < 1 := (List.getElem?_eq_some_iff.mp hk).1
    rw [show k = 0 by omega] at hk
    cases hk
    exact h⟩
theorem kPre.blind {h0 ci sz : Nat} {as : List Value} : FrameBlind (va_Pc as (kPre D cA h0 ci sz)) := by
  intro a U g mk h
  obtain ⟨q0, q1, q2, q3, q4, q5⟩ := h
  exact ⟨q0, q1, q2, va_K.moved (u := U) (U := U.calling g mk a) (Vm.Alike.refl U.vm) q3, qNst.same (s := U) (U := U.calling g mk a) rfl q4, kAO.moved (u := U) (U := U.calling g mk a) (Vm.Alike.refl U.vm) q5⟩
theorem k_met {S : Type} {y : MethodName} {bytes : ByteArray} {maxL d h0 ci sz mc ms : Nat} {As : List Value} {w : S → va_W} (hy : plainFor y = true) (hcls : qownS ci = y.cls) (hlen : (lg_sl (.ref h0 :: As)).length ≤ maxL)
    (body : ∀ (p : Program) (e : Env) (s : State) (m : MethodId) (below : List Frame) (meth : Method) (c : Code) (ls : Array Slot), kE p s m (Value.ref h0 :: As).toArray c bytes maxL ci D cA → meth.name = y.name → meth.sig.returnType = none → meth.locks = false → lv_has ls maxL (lv_args 0 (.ref h0 :: As)) → kC D (kA0 h0 ci sz) s.heap [(h0, .inr (ci, k0 ci))] s.heap [] → (∀ q, s.heap.size ≤ q → kA0 h0 ci sz q) →
      W p l e { frames := d, cells := mc, slots := ms, locals := 64 * d } s m (Value.ref h0 :: As).toArray below meth c s.heap [] 0 0 (MQ below (kPost D (kA0 h0 ci sz) w) (Value.ref h0 :: As).toArray s mc ms (kA0 h0 ci sz)) (F0 m 0 ls [])) : kMet l D cA y bytes maxL d h0 ci sz As mc ms w := by
  refine va_MetF (cc := bytes) (maxL := maxL) (ret := none) hy rfl ?_
  intro p e s m args below meth c s₁ B hml hv
  obtain ⟨rfl, hsz, hP, hK, hN, hO⟩ := hv
  have hts := atoms_spec (ws := Cond.code y bytes maxL none :: gtb) B.pre
  have hown : s.vm.findClass (qownS ci) = some m.cls := by rw [hcls]; exact findClass_of_methodNamed B.named
  have hl := lv_entry (.ref h0 :: As) (n := maxL) hlen
  rw [lg_entry_eq]
  generalize (lg_sl (.ref h0 :: As) ++ List.replicate (maxL - (lg_sl (.ref h0 :: As)).length) Slot.unset).toArray = ls at hl ⊢
  exact body p e s m below meth c ls ⟨⟨B.exec, B.bytes, hml, hown, fun w hw => hts w (List.mem_cons_of_mem _ hw), hK, hN⟩, hO⟩ (name_of_methodNamed B.named B.method).1 B.returns B.notSynchronized hl ⟨hP, va_D.one (Or.inl ⟨0, _, rfl⟩), va_S.rf⟩ (fun q h => Or.inr (by rw [← hsz]; exact h))
theorem k_ret {S : Type} {D : va_G} {w : S → va_W} {h0 ci sz : Nat} (E : kE p s m args c cc nL own D cA) (hr : meth.sig.returnType = none) (hlocks : meth.locks = false) (u : S) (hW : kC D (kA0 h0 ci sz) s.heap (w u) H locs) (hdg : decode cc pc = .ok (.return_, 1)) :
    W p l e R s m args below meth c H locs cells slots (MQ below (kPost D (kA0 h0 ci sz) w) args s cells slots (kA0 h0 ci sz)) (F0 m pc ls []) :=
  W.vret E.1.1 E.1.2.1 hr (fun t ht _ => ⟨⟨u, rfl, trivial, by rw [ht]; exact hW.1, hW.2.1⟩, hW.2.2.F ht⟩) hW.2.2.2.2 hdg hlocks
/-! worlds as sets of cells -/
theorem va_P_mem {cl : List vw_C} {ws : va_W} : va_P D cl ws H ↔ ∀ q ∈ ws, va_at D cl q H := ⟨fun h q hq => by obtain ⟨k, hk⟩ := List.getElem?_of_mem hq; exact h k q hk, fun h k q hk => h q (List.mem_of_getElem? hk)⟩
theorem va_P.right {cl : List vw_C} {X Y : va_W} (h : va_P D cl (X ++ Y) H) : va_P D cl Y H := va_P_mem.mpr fun q hq => va_P_mem.mp h q (List.mem_append_right _ hq)
theorem va_D.right {X Y : va_W} (h : va_D A (X ++ Y)) : va_D A Y := ⟨fun i j p q hi hj e => by
    have := h.1 (X.length + i) (X.length + j) p q (by rw [List.getElem?_append_right (by omega), Nat.add_sub_cancel_left]; exact hi) (by rw [List.getElem?_append_right (by omega), Nat.add_sub_cancel_left]; exact hj) e
    omega, fun k q hk => h.2 (X.length + k) q (by rw [List.getElem?_append_right (by omega), Nat.add_sub_cancel_left]; exact hk)⟩
theorem va_nd_of {l : List Nat} (h : l.Nodup) : va_nd l = true := by
  induction l with
  | nil => rfl
  | cons a l ih =>
    rw [List.nodup_cons] at h
    show (decide (a ∉ l) && va_nd l) = true
    rw [decide_eq_true h.1, ih h.2]
    rfl
/-- behind a call on the last cell -/
theorem k_join {X w1 : va_W} {q : Nat} {x : va_E} {H1 : Heap} (hP : va_P D qcl (X ++ [(q, x)]) H) (hD : va_D A (X ++ [(q, x)])) (hk : ∀ r : Nat, r < H.size → ¬ va_A [(q, x)] H.size r → H1[r]? = H[r]?) (hF : ∀ r, va_A [(q, x)] H.size r → A r) (hP1 : va_P D qcl w1 H1) (hD1 : va_D (va_A [(q, x)] H.size) w1) : va_P D qcl (X ++ w1) H1 ∧ va_D A (X ++ w1) := by
  refine va_join hP hD [X.length] (List.range X.length) ?_ ?_ (va_nd_of List.nodup_range) (fun i hi => ?_) hk hF hP1 hD1
  · simp
  · apply List.ext_getElem?
    intro i
    rw [List.getElem?_map, List.getElem?_map]
    by_cases h : i < X.length
    · rw [List.getElem?_range h, List.getElem?_eq_getElem h]
      show some ((X ++ [(q, x)])[i]?) = some (some X[i])
      rw [List.getElem?_append_left h, List.getElem?_eq_getElem h]
    · rw [List.getElem?_eq_none (by rw [List.length_range]; omega), List.getElem?_eq_none (by omega)]
      rfl
  · have := List.mem_range.mp hi
    simp
    omega
theorem k_call {S : Type} {w : S → va_W} (E : kE p s m args c cc nL own D cA) {y : MethodName} {bytes : ByteArray} {maxL d ci q mc ms index i1 i2 i3 i4 : Nat} {As rest : List Value} {X : va_W} (nest : Bool) (hM : kMet l D cA y bytes maxL d q ci H.size As mc ms w)
    (hW : kC D A H0 (X ++ [(q, .inr (ci, k0 ci))]) H locs) (hA : ∀ q, H0.size ≤ q → A q) (hsz : ls.size = nL)
    (h1 : lw_tbl[i1]? = some (if nest = true then .methodLinkNest (qownS own) index y "JealousByCalendar" else .methodLink (qownS own) index y)) (h2 : lw_tbl[i2]? = some (.instanceMethod y)) (h3 : lw_tbl[i3]? = some (.code y bytes maxL none)) (h4 : lw_tbl[i4]? = some (.initialized y.cls))
    (hy : y.name = "<init>" ∧ y.cls ≠ "java/lang/invoke/MethodHandle" ∧ y.cls ≠ "java/lang/invoke/VarHandle" ∧ (parseMethodDescriptor y.desc).map (fun d => d.parameters.length) = some As.length) (hR : d + 1 ≤ R.frames ∧ 8 + (maxL + 11) + 64 * d ≤ R.locals ∧ cells + mc ≤ R.cells ∧ slots + ms ≤ R.slots)
    (hwd : (rest.map fun v => v.category).sum ≤ 8) (hdg : decode cc pc = .ok (.invokespecial index, 3))
    (kk : ∀ (u : S) (H1 : Heap) (locs1 : List Loc), kC D A H0 (X ++ w u) H1 locs1 → W p l e R s m args below meth c H1 locs1 (cells + mc) (slots + ms) Q (F0 m (pc + 3) ls rest)) : W p l e R s m args below meth c H locs cells slots Q (F0 m pc ls (As.reverse ++ .ref q :: rest)) := by
  have hF : ∀ r, va_A [(q, .inr (ci, k0 ci))] H.size r → A r := fun r hr => by
    rcases hr with ⟨k, x, hk⟩ | hr
    · have hz : k < 1 := (List.getElem?_eq_some_iff.mp hk).1
      rw [show k = 0 by omega] at hk
      cases hk
      exact hW.2.1.right.2 0 _ rfl
    · exact hA r (Nat.le_trans hW.2.2.1 hr)
  have CF : CallFix p m c cc nL s args gtb (qownS own) := ⟨E.1.1, E.1.2.1, E.1.2.2.1, E.1.2.2.2.1, E.1.2.2.2.2.1⟩
  have hG : GoodIn gtb (Cond.code y bytes maxL none :: gtb) := by
    intro w hw
    rcases List.mem_cons.mp hw with rfl | hw
    · exact ⟨gtb_at h3 rfl, Or.inl rfl⟩
    · exact gtb_good (fun _ h => h) w hw
  have hpre : ∀ U : State, U.heap = H → s.WarmedH U.vm → va_Pc (.ref q :: As) (kPre D cA q ci H.size) (Value.ref q :: As).toArray U := fun U hU hWm => ⟨rfl, by rw [hU], by rw [hU]; exact hW.1.right, va_K.moved hWm.alike E.1.2.2.2.2.2.1, E.1.2.2.2.2.2.2.warm hWm, kAO.moved hWm.alike E.2⟩
  have fin : va_Run p l e R s m args below meth c H locs cells slots mc ms (F0 m pc ls (As.reverse ++ .ref q :: rest)) rest (kPost D (kA0 q ci H.size) w (Value.ref q :: As).toArray) (kA0 q ci H.size) → W p l e R s m args below meth c H locs cells slots Q (F0 m pc ls (As.reverse ++ .ref q :: rest)) := fun hr => by
    refine va_callv hr hW.2.2 (fun r _ h => hF r h) hF (fun u t H1 locs1 ht hvm _ hB hz hk hS => ?_)
    obtain ⟨hP1, hD1⟩ := hB
    rw [ht] at hP1
    obtain ⟨a, b⟩ := k_join hW.1 hW.2.1 hk hF hP1 hD1
    exact kk u H1 locs1 ⟨a, b, hS⟩
  have hwd2 : 2 * (F0 m pc ls ([] : List Value)).monitorRoom + (rest.map fun v => v.category).sum ≤ 8 := lv_room hwd
  refine fin ?_
  cases nest with
  | false =>
    have h1 : lw_tbl[i1]? = some (.methodLink (qownS own) index y) := h1
    exact va_runI CF hM ⟨callB_of _ E.1.2.2.2.2.1 hG rfl rfl rfl (E.w h4 rfl) (E.w h1 rfl) ⟨hy.2.1, hy.2.2.1, hy.2.2.2⟩ ⟨hR.1, hR.2.1⟩, hy.1, E.w h2 rfl⟩ ⟨kPre.blind, hpre⟩ rfl rfl hsz rfl hwd2 hdg ⟨hR.2.2.1, hR.2.2.2⟩
  | true =>
    have h1 : lw_tbl[i1]? = some (.methodLinkNest (qownS own) index y "JealousByCalendar") := h1
    have hl : va_Nw (.methodLinkNest (qownS own) index y "JealousByCalendar") s := E.1.2.2.2.2.2.2 _ (List.mem_of_getElem? h1) rfl
    exact va_runIN CF hM ⟨va_cnB _ E.1.2.2.2.2.1 hG rfl rfl rfl hl (E.w h4 rfl) ⟨hy.2.1, hy.2.2.1, hy.2.2.2⟩ ⟨hR.1, hR.2.1⟩, hy.1, E.w h2 rfl⟩ ⟨kPre.blind, hpre⟩ rfl rfl hsz rfl hwd2 hdg ⟨hR.2.2.1, hR.2.2.2⟩
end
