section
/-! constructors with loops -/
theorem vin_of {x : Int32} {n : Nat} (h : qoob x n = false) : vp_in x n := by
  unfold qoob at h
  rw [Bool.or_eq_false_iff, decide_eq_false_iff_not, decide_eq_false_iff_not] at h
  exact fun z => z.elim h.1 h.2
theorem va_D_mem {A : Nat → Prop} {ws : va_W} : va_D A ws ↔ (ws.map fun q => q.1).Nodup ∧ ∀ q ∈ ws, A q.1 := by
  constructor
  · intro h
    refine ⟨List.pairwise_iff_getElem.mpr fun i j hi hj hij e => ?_, fun q hq => ?_⟩
    · rw [List.length_map] at hi hj
      rw [List.getElem_map, List.getElem_map] at e
      have := h.1 i j _ _ (List.getElem?_eq_getElem hi) (List.getElem?_eq_getElem hj) e
      omega
    · obtain ⟨k, hk⟩ := List.getElem?_of_mem hq
      exact h.2 k q hk
  · intro h
    refine ⟨fun i j p q hi hj e => ?_, fun k q hk => h.2 q (List.mem_of_getElem? hk)⟩
    obtain ⟨li, ei⟩ := List.getElem?_eq_some_iff.mp hi
    obtain ⟨lj, ej⟩ := List.getElem?_eq_some_iff.mp hj
    have key : ∀ a b (ha : a < ws.length) (hb : b < ws.length), a < b → ws[a].1 ≠ ws[b].1 := fun a b ha hb hab => by
      have := List.pairwise_iff_getElem.mp h.1 a b (by rw [List.length_map]; exact ha) (by rw [List.length_map]; exact hb) hab
      rw [List.getElem_map, List.getElem_map] at this
      exact this
    by_cases h1 : i < j
    · exact absurd (by rw [ei, ej]; exact e) (key i j li lj h1)
    · by_cases h2 : j < i
      · exact absurd (by rw [ei, ej]; exact e.symm) (key j i lj li h2)
      · omega
theorem va_D.fst {A : Nat → Prop} {ws ws' : va_W} (h : va_D A ws) (e : ws'.map (fun q => q.1) = ws.map (fun q => q.1)) : va_D A ws' := by
  rw [va_D_mem] at h ⊢
  refine ⟨by rw [e]; exact h.1, fun q hq => ?_⟩
  have : q.1 ∈ ws.map (fun q => q.1) := by rw [← e]; exact List.mem_map_of_mem hq
  obtain ⟨r, hr, hr2⟩ := List.mem_map.mp this
  rw [← hr2]
  exact h.2 r hr
theorem kC.perm {D : va_G} {A : Nat → Prop} {H0 : Heap} {ws ws' : va_W} {H : Heap} {locs : List Loc} (h : kC D A H0 ws H locs) (e : ws'.Perm ws) : kC D A H0 ws' H locs := by
  refine ⟨va_P_mem.mpr fun q hq => va_P_mem.mp h.1 q (e.mem_iff.mp hq), ?_, h.2.2⟩
  have := va_D_mem.mp h.2.1
  exact va_D_mem.mpr ⟨(e.map _).nodup_iff.mpr this.1, fun q hq => this.2 q (e.mem_iff.mp hq)⟩
theorem arrVe {cI : ClassId} {N : Nat} {f g : Nat → Value} (h : ∀ i, i < N → f i = g i) : arrV cI N f = arrV cI N g := by
  unfold arrV
  congr 1
  apply Array.ext_getElem?
  intro i
  by_cases hi : i < N
  · simp [hi, h i hi]
  · simp [hi]
theorem vp_cell_refs {cA : ClassId} {n : Nat} {f g : Nat → Option Nat} (h : ∀ i, i < n → f i = g i) : vp_cell cA (n, .inr (.inr (.inr (.inr f)))) = vp_cell cA (n, .inr (.inr (.inr (.inr g)))) := by
  rw [vp_cell_q, vp_cell_q]
  exact arrVe fun i hi => by rw [h i hi]
def wAf (cA : Nat → ClassId) (h0 : Nat) (u : Nat → Nat) (g : Nat → Option Nat) (n : Nat) : va_W := (h0, .inr (2, [.int 0, .ref (u 0), .ref (u 1), .ref (u 2), .int 0])) :: (u 0, .inr (3, [.int 0, .int 50, .int 0, .int 0, .int 0])) :: (u 1, .inr (3, [.int 3, .int 50, .int 0, .int 0, .int 0])) :: (u 2, .inl (cA 3, 12, .inr (.inr (.inr (.inr g))))) :: (List.range n).map fun i => (u (3 + i), .inr (1, k0 1))
def gAf (b : Nat) (u : Nat → Nat) (n : Nat) : Nat → Option Nat := fun i => if i < n then some (u (b + i)) else none
theorem wAf_len {cA : Nat → ClassId} {h0 n : Nat} {u : Nat → Nat} {g : Nat → Option Nat} : (wAf cA h0 u g n).length = 4 + n := by
  unfold wAf
  simp
  omega
theorem gAf_s {b n q : Nat} {u : Nat → Nat} : va_up (gAf b u n) n (some q) = gAf b (fun i => if i = b + n then q else u i) (n + 1) := by
  funext i
  unfold va_up gAf
  by_cases e : i = n
  · subst e
    rw [if_pos rfl, if_pos (by omega)]
    exact congrArg some (if_pos (c := b + i = b + i) rfl).symm
  · rw [if_neg e]
    by_cases h : i < n
    · rw [if_pos h, if_pos (by omega)]
      exact congrArg some (if_neg (c := b + i = b + n) (by omega)).symm
    · rw [if_neg h, if_neg (by omega)]
theorem rng_s {n b q : Nat} {u : Nat → Nat} {F : Nat → va_E} {x : va_E} (hx : x = F n) : (List.range n).map (fun i => (u (b + i), F i)) ++ [(q, x)] = (List.range (n + 1)).map fun i => ((if b + i = b + n then q else u (b + i)), F i) := by
  rw [List.range_succ, List.map_append, hx]
  congr 1
  · refine List.map_congr_left fun i hi => ?_
    have := List.mem_range.mp hi
    rw [if_neg (by omega)]
  · show [(q, F n)] = [((if b + n = b + n then q else u (b + n)), F n)]
    rw [if_pos rfl]
theorem wAf_s {cA : Nat → ClassId} {h0 n q : Nat} {u : Nat → Nat} {g g' : Nat → Option Nat} : (wAf cA h0 u g n ++ ([(q, Sum.inr (1, k0 1))] : va_W)).set 3 (u 2, .inl (cA 3, 12, .inr (.inr (.inr (.inr g'))))) = wAf cA h0 (fun i => if i = 3 + n then q else u i) g' (n + 1) := by
  unfold wAf
  dsimp only
  rw [if_neg (show ¬ 0 = 3 + n by omega), if_neg (show ¬ 1 = 3 + n by omega), if_neg (show ¬ 2 = 3 + n by omega), ← rng_s (F := fun _ => Sum.inr (1, k0 1)) rfl]
  rfl
set_option maxHeartbeats 4000000 in
set_option maxRecDepth 100000 in
theorem c_Affair_init (l : Launch) (D : va_G) (cA : Nat → ClassId) (h0 sz : Nat) : kMet l D cA ⟨"JealousByCalendar$Affair", "<init>", "()V"⟩ prog_2_method_1_code 2 2 h0 2 sz [] 15 106 (fun u : Nat → Nat => wAf cA h0 u (fun i => some (u (3 + i))) 12) := by
  refine k_met (by decide) rfl (Nat.le_of_ble_eq_true rfl) ?_
  intro p e s m below meth c ls E hin hr hlocks hl hW hA
  have hl : lv_has ls 2 [(0, .ref h0)] := hl
  have hW : kC D _ _ [(h0, .inr (2, [.int 0, .null, .null, .null, .int 0]))] _ _ := hW
  refine lv_aload_n E.1.1 E.1.2.1 kd_Affair_0 rfl (lv_at hl 0 rfl) ?_
  refine k_obj E (i1 := 171) (by decide +kernel) hl.1 ⟨(Nat.le_of_ble_eq_true rfl), (Nat.le_of_ble_eq_true rfl)⟩ kd_Affair_1 ?_
  refine lv_aload_n E.1.1 E.1.2.1 kd_Affair_4 rfl (lv_at hl 0 rfl) ?_
  refine k_new E hW hA (ci := 3) (i1 := 172) (i2 := 173) (i3 := 150) (by decide) (by decide +kernel) (by decide +kernel) (by decide +kernel) ⟨(Nat.le_of_ble_eq_true rfl), (Nat.le_of_ble_eq_true rfl)⟩ kd_Affair_5 (fun q5 H hW => ?_)
  refine lv_dup E.1.1 E.1.2.1 kd_Affair_8 rfl ?_
  refine lv_iconst (v := 0) E.1.1 E.1.2.1 kd_Affair_9 (by decide) ?_
  refine k_call E (S := Unit) (i1 := 174) (i2 := 175) (i3 := 176) (i4 := 150) (As := [.int 0]) (rest := [.ref q5, .ref h0]) (X := (h0, .inr (2, [.int 0, .null, .null, .null, .int 0])) :: []) true (c_Person_init l D cA q5 H.size 0) hW hA hl.1 (by decide +kernel) (by decide +kernel) (by decide +kernel) (by decide +kernel) ⟨rfl, by decide, by decide, by decide +kernel⟩ ⟨(Nat.le_of_ble_eq_true rfl), (Nat.le_of_ble_eq_true rfl), (Nat.le_of_ble_eq_true rfl), (Nat.le_of_ble_eq_true rfl)⟩ (Nat.le_of_ble_eq_true rfl) kd_Affair_10 (fun u10 H locs hW => ?_)
  have hW : kC D _ _ ((h0, .inr (2, [.int 0, .null, .null, .null, .int 0])) :: [(q5, .inr (3, [.int 0, .int 50, .int 0, .int 0, .int 0]))]) _ _ := hW
  refine k_putF E hin (i1 := 251) (k := 1) hW (by decide) (by decide) (by decide +kernel) rfl ⟨rfl, rfl⟩ rfl rfl (Nat.le_of_ble_eq_true rfl) kd_Affair_13 (fun H locs hW => ?_)
  have hW : kC D _ _ ((h0, .inr (2, [.int 0, .ref q5, .null, .null, .int 0])) :: [(q5, .inr (3, [.int 0, .int 50, .int 0, .int 0, .int 0]))]) _ _ := hW
  refine lv_aload_n E.1.1 E.1.2.1 kd_Affair_16 rfl (lv_at hl 0 rfl) ?_
  refine k_new E hW hA (ci := 3) (i1 := 172) (i2 := 173) (i3 := 150) (by decide) (by decide +kernel) (by decide +kernel) (by decide +kernel) ⟨(Nat.le_of_ble_eq_true rfl), (Nat.le_of_ble_eq_true rfl)⟩ kd_Affair_17 (fun q17 H hW => ?_)
  refine lv_dup E.1.1 E.1.2.1 kd_Affair_20 rfl ?_
  refine lv_iconst (v := 3) E.1.1 E.1.2.1 kd_Affair_21 (by decide) ?_
  refine k_call E (S := Unit) (i1 := 174) (i2 := 175) (i3 := 176) (i4 := 150) (As := [.int 3]) (rest := [.ref q17, .ref h0]) (X := (h0, .inr (2, [.int 0, .ref q5, .null, .null, .int 0])) :: [(q5, .inr (3, [.int 0, .int 50, .int 0, .int 0, .int 0]))]) true (c_Person_init l D cA q17 H.size 3) hW hA hl.1 (by decide +kernel) (by decide +kernel) (by decide +kernel) (by decide +kernel) ⟨rfl, by decide, by decide, by decide +kernel⟩ ⟨(Nat.le_of_ble_eq_true rfl), (Nat.le_of_ble_eq_true rfl), (Nat.le_of_ble_eq_true rfl), (Nat.le_of_ble_eq_true rfl)⟩ (Nat.le_of_ble_eq_true rfl) kd_Affair_22 (fun u22 H locs hW => ?_)
  have hW : kC D _ _ ((h0, .inr (2, [.int 0, .ref q5, .null, .null, .int 0])) :: [(q5, .inr (3, [.int 0, .int 50, .int 0, .int 0, .int 0])), (q17, .inr (3, [.int 3, .int 50, .int 0, .int 0, .int 0]))]) _ _ := hW
  refine k_putF E hin (i1 := 253) (k := 2) hW (by decide) (by decide) (by decide +kernel) rfl ⟨rfl, rfl⟩ rfl rfl (Nat.le_of_ble_eq_true rfl) kd_Affair_25 (fun H locs hW => ?_)
  have hW : kC D _ _ ((h0, .inr (2, [.int 0, .ref q5, .ref q17, .null, .int 0])) :: [(q5, .inr (3, [.int 0, .int 50, .int 0, .int 0, .int 0])), (q17, .inr (3, [.int 3, .int 50, .int 0, .int 0, .int 0]))]) _ _ := hW
  refine lv_aload_n E.1.1 E.1.2.1 kd_Affair_28 rfl (lv_at hl 0 rfl) ?_
  refine lv_bipush (v := 12) E.1.1 E.1.2.1 kd_Affair_29 (by decide) ?_
  refine k_newq E hW hA (N := 12) (k := 3) (i1 := 204) rfl E.2.1 (by decide +kernel) (by decide) (by decide) (by decide) ⟨(Nat.le_of_ble_eq_true rfl), (Nat.le_of_ble_eq_true rfl)⟩ kd_Affair_31 (fun q31 H hW => ?_)
  have hW : kC D _ _ ((h0, .inr (2, [.int 0, .ref q5, .ref q17, .null, .int 0])) :: [(q5, .inr (3, [.int 0, .int 50, .int 0, .int 0, .int 0])), (q17, .inr (3, [.int 3, .int 50, .int 0, .int 0, .int 0])), (q31, .inl (cA 3, 12, .inr (.inr (.inr (.inr (fun _ => none))))))]) _ _ := hW
  refine k_putF E hin (i1 := 255) (k := 3) hW (by decide) (by decide) (by decide +kernel) rfl ⟨rfl, rfl⟩ rfl rfl (Nat.le_of_ble_eq_true rfl) kd_Affair_34 (fun H locs hW => ?_)
  have hW : kC D _ _ ((h0, .inr (2, [.int 0, .ref q5, .ref q17, .ref q31, .int 0])) :: [(q5, .inr (3, [.int 0, .int 50, .int 0, .int 0, .int 0])), (q17, .inr (3, [.int 3, .int 50, .int 0, .int 0, .int 0])), (q31, .inl (cA 3, 12, .inr (.inr (.inr (.inr (fun _ => none))))))]) _ _ := hW
  refine lv_iconst (v := zI 0) E.1.1 E.1.2.1 kd_Affair_37 rfl ?_
  refine lv_istore_n (i := 1) E.1.1 E.1.2.1 kd_Affair_38 rfl hl (by decide) rfl (fun ls hl => ?_)
  have hl : lv_has ls 2 [(1, .int (zI ((0 : Nat) : Int))), (0, .ref h0)] := hl
  refine W.widen (k := 3 + 0) (n := 22 + 7 * 0) (Nat.le_of_ble_eq_true rfl) (Nat.le_of_ble_eq_true rfl) ?_
  have L : ∀ (r n : Nat) (u : Nat → Nat) (ls : Array Slot) (H : Heap) (locs : List Loc), n + r = 12 → lv_has ls 2 [(1, .int (zI (n : Nat))), (0, .ref h0)] → kC D (kA0 h0 2 sz) s.heap (wAf cA h0 u (gAf 3 u n) n) H locs → W p l e { frames := 2, cells := 15, slots := 106, locals := 64 * 2 } s m [Value.ref h0].toArray below meth c H locs (3 + n) (22 + 7 * n) (MQ below (kPost D (kA0 h0 2 sz) (fun u : Nat → Nat => wAf cA h0 u (fun i => some (u (3 + i))) 12)) [Value.ref h0].toArray s 15 106 (kA0 h0 2 sz)) (F0 m 39 ls []) := by
    intro r
    induction r with
    | zero =>
      intro n u ls H locs hn hl hW
      refine lv_iload_n E.1.1 E.1.2.1 kd_Affair_39 rfl (lv_at hl 0 rfl) ?_
      refine lv_bipush (v := zI 12) E.1.1 E.1.2.1 kd_Affair_40 (by decide +kernel) ?_
      refine lv_icmp_ge (tgt := 64) E.1.1 E.1.2.1 kd_Affair_42 (by decide) (fun _ => ?_) (fun z => absurd (by rw [zI_le (by omega)]; omega) z)
      refine W.widen (k := 15) (n := 106) (by omega) (by omega) ?_
      have e : n = 12 := by omega
      subst e
      have hW2 : kC D (kA0 h0 2 sz) s.heap (wAf cA h0 u (fun i => some (u (3 + i))) 12) H locs := by
        refine ⟨va_P_mem.mpr fun q hq => ?_, hW.2.1.fst rfl, hW.2.2⟩
        have hm := va_P_mem.mp hW.1
        unfold wAf at hq hm
        rcases List.mem_cons.mp hq with e | hq
        · exact hm q (by rw [e]; exact List.mem_cons_self)
        rcases List.mem_cons.mp hq with e | hq
        · exact hm q (by rw [e]; exact List.mem_cons_of_mem _ List.mem_cons_self)
        rcases List.mem_cons.mp hq with e | hq
        · exact hm q (by rw [e]; exact List.mem_cons_of_mem _ (List.mem_cons_of_mem _ List.mem_cons_self))
        rcases List.mem_cons.mp hq with e | hq
        · have h3 := hm _ (List.mem_cons_of_mem _ (List.mem_cons_of_mem _ (List.mem_cons_of_mem _ List.mem_cons_self)))
          rw [e]
          exact Eq.trans h3 (congrArg some (vp_cell_refs fun i hi => if_pos hi))
        · exact hm q (List.mem_cons_of_mem _ (List.mem_cons_of_mem _ (List.mem_cons_of_mem _ (List.mem_cons_of_mem _ hq))))
      exact k_ret E hr hlocks u hW2 kd_Affair_64
    | succ r ih =>
      intro n u ls H locs hn hl hW
      refine lv_iload_n E.1.1 E.1.2.1 kd_Affair_39 rfl (lv_at hl 0 rfl) ?_
      refine lv_bipush (v := zI 12) E.1.1 E.1.2.1 kd_Affair_40 (by decide +kernel) ?_
      refine lv_icmp_ge (tgt := 64) E.1.1 E.1.2.1 kd_Affair_42 (by decide) (fun z => absurd z (by rw [zI_le (by omega)]; omega)) (fun _ => ?_)
      refine lv_aload_n E.1.1 E.1.2.1 kd_Affair_45 rfl (lv_at hl 1 rfl) ?_
      refine k_get E (i1 := 255) (k := 3) (v := .ref (u 2)) hW (by decide) (by decide) (by decide +kernel) rfl rfl kd_Affair_46 ?_
      refine lv_iload_n E.1.1 E.1.2.1 kd_Affair_49 rfl (lv_at hl 0 rfl) ?_
      refine k_new E hW hA (ci := 1) (i1 := 204) (i2 := 206) (i3 := 151) (by decide) (by decide +kernel) (by decide +kernel) (by decide +kernel) ⟨by show 3 + n + 1 ≤ 15; omega, by show 22 + 7 * n + 7 ≤ 106; omega⟩ kd_Affair_50 (fun q H hW => ?_)
      refine lv_dup E.1.1 E.1.2.1 kd_Affair_53 rfl ?_
      refine k_call E (S := Unit) (i1 := 207) (i2 := 208) (i3 := 209) (i4 := 151) (As := []) (rest := [.ref q, .int (zI (n : Nat)), .ref (u 2)]) (X := wAf cA h0 u (gAf 3 u n) n) true (c_Cause_init l D cA q H.size) hW hA hl.1 (by decide +kernel) (by decide +kernel) (by decide +kernel) (by decide +kernel) ⟨rfl, by decide, by decide, by decide +kernel⟩ ⟨(Nat.le_of_ble_eq_true rfl), (Nat.le_of_ble_eq_true rfl), by show 3 + n + 1 + 0 ≤ 15; omega, by show 22 + 7 * n + 7 + 0 ≤ 106; omega⟩ (Nat.le_of_ble_eq_true rfl) kd_Affair_54 (fun _ H locs hW => ?_)
      have e : (zI (n : Nat)).toNatClampNeg = n := zI_ixN (by omega)
      refine va_astq E.1.1 E.1.2.1 E.1.2.2.2.2.2.1 hW.1 hW.2.1 hW.2.2 (q0 := 3) (t0 := 3) (qk := 4 + n) (ci := 1) (r := (qownS 1, qT 1, qN 1)) rfl rfl (by rw [List.getElem?_append_right (by rw [wAf_len]; exact Nat.le_refl _), wAf_len, Nat.sub_self]; rfl) (qcl_get (by decide)) (vin_of (zI_oob (by omega))) kd_Affair_57 (fun H1 locs1 hP hD hS => ?_)
      rw [e, gAf_s, wAf_s] at hP hD
      refine lv_iinc (i := 1) (k := 0) (v := zI ((n + 1 : Nat) : Int)) E.1.1 E.1.2.1 kd_Affair_58 hl rfl (by rw [zI_of, zI_add]; rfl) (by decide) rfl (fun ls hl => ?_)
      refine lv_goto (tgt := 39) E.1.1 E.1.2.1 kd_Affair_61 (by decide) ?_
      refine W.widen (k := 3 + (n + 1)) (n := 22 + 7 * (n + 1)) (by omega) (by show 22 + 7 * n + 7 + 0 ≤ _; omega) ?_
      exact ih (n + 1) _ ls H1 locs1 (by omega) hl ⟨hP, hD, hS⟩
  have hW : kC D (kA0 h0 2 sz) s.heap (wAf cA h0 (fun i => if i = 0 then q5 else if i = 1 then q17 else q31) (gAf 3 (fun i => if i = 0 then q5 else if i = 1 then q17 else q31) 0) 0) H locs := hW
  exact L 12 0 _ ls H locs rfl hl hW
def wPq (cA : Nat → ClassId) (h0 : Nat) (u : Nat → Nat) (g gw : Nat → Option Nat) (n : Nat) : va_W := (h0, .inr (4, [.ref (u 0), .int 0, .ref (u 1), .ref (u 2), .int 0, .int 0, .ref (u 3), .int 0, .int 0, .ref (u 4), .ref (u 5)])) :: (u 0, .inl (cA 0, 12, .inl (fun _ => 0))) :: (u 1, .inl (cA 4, 12, .inr (.inr (.inr (.inr g))))) :: (u 2, .inl (cA 4, 12, .inr (.inr (.inr (.inr gw))))) :: (u 3, .inl (cA 4, 12, .inr (.inr (.inr (.inr (fun _ => none)))))) :: (u 4, .inl (cA 0, 12, .inl (fun _ => 0))) :: (u 5, .inl (cA 0, 12, .inl (fun _ => 0))) :: (List.range n).map fun i => (u (6 + i), .inr (5, [.int (zI (i : Nat)), .int 0, .int 0, .int 0]))
def wPl (cA : Nat → ClassId) (h0 : Nat) (u : Nat → Nat) (g : Nat → Option Nat) (n : Nat) : va_W := wPq cA h0 u g g n
theorem wPq_len {cA : Nat → ClassId} {h0 n : Nat} {u : Nat → Nat} {g gw : Nat → Option Nat} : (wPq cA h0 u g gw n).length = 7 + n := by
  unfold wPq
  simp
  omega
theorem wPq_s {cA : Nat → ClassId} {h0 n q : Nat} {u : Nat → Nat} {g gw : Nat → Option Nat} : (wPq cA h0 u g gw n ++ ([(q, Sum.inr (5, k0 5))] : va_W)).set (7 + n) (q, .inr (5, (k0 5).set 0 (.int (zI (n : Nat))))) = wPq cA h0 (fun i => if i = 6 + n then q else u i) g gw (n + 1) := by
  rw [List.set_append_right _ _ (by rw [wPq_len]; exact Nat.le_refl _), wPq_len, Nat.sub_self]
  unfold wPq
  dsimp only
  rw [if_neg (show ¬ 0 = 6 + n by omega), if_neg (show ¬ 1 = 6 + n by omega), if_neg (show ¬ 2 = 6 + n by omega), if_neg (show ¬ 3 = 6 + n by omega), if_neg (show ¬ 4 = 6 + n by omega), if_neg (show ¬ 5 = 6 + n by omega), ← rng_s (F := fun i => Sum.inr (5, [.int (zI (i : Nat)), .int 0, .int 0, .int 0])) rfl]
  rfl
theorem wPq_at {cA : Nat → ClassId} {h0 n k : Nat} {u : Nat → Nat} {g gw : Nat → Option Nat} (hk : k < n) : (wPq cA h0 u g gw n)[7 + k]? = some (u (6 + k), .inr (5, [.int (zI (k : Nat)), .int 0, .int 0, .int 0])) := by
  unfold wPq
  rw [show 7 + k = k + 7 from Nat.add_comm 7 k, List.getElem?_cons_succ, List.getElem?_cons_succ, List.getElem?_cons_succ, List.getElem?_cons_succ, List.getElem?_cons_succ, List.getElem?_cons_succ, List.getElem?_cons_succ, List.getElem?_map, List.getElem?_range hk]
  rfl
set_option maxHeartbeats 4000000 in
set_option maxRecDepth 100000 in
theorem c_Plan_init (l : Launch) (D : va_G) (cA : Nat → ClassId) (h0 sz : Nat) : kMet l D cA ⟨"JealousByCalendar$Plan", "<init>", "()V"⟩ prog_7_method_1_code 2 2 h0 4 sz [] 18 120 (fun u : Nat → Nat => wPl cA h0 u (fun i => some (u (6 + i))) 12) := by
  refine k_met (by decide) rfl (Nat.le_of_ble_eq_true rfl) ?_
  intro p e s m below meth c ls E hin hr hlocks hl hW hA
  have hl : lv_has ls 2 [(0, .ref h0)] := hl
  have hW : kC D _ _ [(h0, .inr (4, [.null, .int 0, .null, .null, .int 0, .int 0, .null, .int 0, .int 0, .null, .null]))] _ _ := hW
  refine lv_aload_n E.1.1 E.1.2.1 kd_Plan_0 rfl (lv_at hl 0 rfl) ?_
  refine k_obj E (i1 := 275) (by decide +kernel) hl.1 ⟨(Nat.le_of_ble_eq_true rfl), (Nat.le_of_ble_eq_true rfl)⟩ kd_Plan_1 ?_
  refine lv_aload_n E.1.1 E.1.2.1 kd_Plan_4 rfl (lv_at hl 0 rfl) ?_
  refine lv_bipush (v := 12) E.1.1 E.1.2.1 kd_Plan_5 (by decide) ?_
  refine k_newi E hW hA (N := 12) (by decide) (by decide) (by decide) ⟨(Nat.le_of_ble_eq_true rfl), (Nat.le_of_ble_eq_true rfl)⟩ kd_Plan_7 (fun q7 H hW => ?_)
  have hW : kC D _ _ ((h0, .inr (4, [.null, .int 0, .null, .null, .int 0, .int 0, .null, .int 0, .int 0, .null, .null])) :: [(q7, .inl (cA 0, 12, .inl (fun _ => 0)))]) _ _ := hW
  refine k_putF E hin (i1 := 297) (k := 0) hW (by decide) (by decide) (by decide +kernel) rfl ⟨rfl, rfl⟩ rfl rfl (Nat.le_of_ble_eq_true rfl) kd_Plan_9 (fun H locs hW => ?_)
  have hW : kC D _ _ ((h0, .inr (4, [.ref q7, .int 0, .null, .null, .int 0, .int 0, .null, .int 0, .int 0, .null, .null])) :: [(q7, .inl (cA 0, 12, .inl (fun _ => 0)))]) _ _ := hW
  refine lv_aload_n E.1.1 E.1.2.1 kd_Plan_12 rfl (lv_at hl 0 rfl) ?_
  refine lv_bipush (v := 12) E.1.1 E.1.2.1 kd_Plan_13 (by decide) ?_
  refine k_newq E hW hA (N := 12) (k := 4) (i1 := 276) rfl E.2.2.1 (by decide +kernel) (by decide) (by decide) (by decide) ⟨(Nat.le_of_ble_eq_true rfl), (Nat.le_of_ble_eq_true rfl)⟩ kd_Plan_15 (fun q15 H hW => ?_)
  have hW : kC D _ _ ((h0, .inr (4, [.ref q7, .int 0, .null, .null, .int 0, .int 0, .null, .int 0, .int 0, .null, .null])) :: [(q7, .inl (cA 0, 12, .inl (fun _ => 0))), (q15, .inl (cA 4, 12, .inr (.inr (.inr (.inr (fun _ => none))))))]) _ _ := hW
  refine k_putF E hin (i1 := 300) (k := 2) hW (by decide) (by decide) (by decide +kernel) rfl ⟨rfl, rfl⟩ rfl rfl (Nat.le_of_ble_eq_true rfl) kd_Plan_18 (fun H locs hW => ?_)
  have hW : kC D _ _ ((h0, .inr (4, [.ref q7, .int 0, .ref q15, .null, .int 0, .int 0, .null, .int 0, .int 0, .null, .null])) :: [(q7, .inl (cA 0, 12, .inl (fun _ => 0))), (q15, .inl (cA 4, 12, .inr (.inr (.inr (.inr (fun _ => none))))))]) _ _ := hW
  refine lv_aload_n E.1.1 E.1.2.1 kd_Plan_21 rfl (lv_at hl 0 rfl) ?_
  refine lv_bipush (v := 12) E.1.1 E.1.2.1 kd_Plan_22 (by decide) ?_
  refine k_newq E hW hA (N := 12) (k := 4) (i1 := 276) rfl E.2.2.1 (by decide +kernel) (by decide) (by decide) (by decide) ⟨(Nat.le_of_ble_eq_true rfl), (Nat.le_of_ble_eq_true rfl)⟩ kd_Plan_24 (fun q24 H hW => ?_)
  have hW : kC D _ _ ((h0, .inr (4, [.ref q7, .int 0, .ref q15, .null, .int 0, .int 0, .null, .int 0, .int 0, .null, .null])) :: [(q7, .inl (cA 0, 12, .inl (fun _ => 0))), (q15, .inl (cA 4, 12, .inr (.inr (.inr (.inr (fun _ => none)))))), (q24, .inl (cA 4, 12, .inr (.inr (.inr (.inr (fun _ => none))))))]) _ _ := hW
  refine k_putF E hin (i1 := 302) (k := 3) hW (by decide) (by decide) (by decide +kernel) rfl ⟨rfl, rfl⟩ rfl rfl (Nat.le_of_ble_eq_true rfl) kd_Plan_27 (fun H locs hW => ?_)
  have hW : kC D _ _ ((h0, .inr (4, [.ref q7, .int 0, .ref q15, .ref q24, .int 0, .int 0, .null, .int 0, .int 0, .null, .null])) :: [(q7, .inl (cA 0, 12, .inl (fun _ => 0))), (q15, .inl (cA 4, 12, .inr (.inr (.inr (.inr (fun _ => none)))))), (q24, .inl (cA 4, 12, .inr (.inr (.inr (.inr (fun _ => none))))))]) _ _ := hW
  refine lv_aload_n E.1.1 E.1.2.1 kd_Plan_30 rfl (lv_at hl 0 rfl) ?_
  refine lv_bipush (v := 12) E.1.1 E.1.2.1 kd_Plan_31 (by decide) ?_
  refine k_newq E hW hA (N := 12) (k := 4) (i1 := 276) rfl E.2.2.1 (by decide +kernel) (by decide) (by decide) (by decide) ⟨(Nat.le_of_ble_eq_true rfl), (Nat.le_of_ble_eq_true rfl)⟩ kd_Plan_33 (fun q33 H hW => ?_)
  have hW : kC D _ _ ((h0, .inr (4, [.ref q7, .int 0, .ref q15, .ref q24, .int 0, .int 0, .null, .int 0, .int 0, .null, .null])) :: [(q7, .inl (cA 0, 12, .inl (fun _ => 0))), (q15, .inl (cA 4, 12, .inr (.inr (.inr (.inr (fun _ => none)))))), (q24, .inl (cA 4, 12, .inr (.inr (.inr (.inr (fun _ => none)))))), (q33, .inl (cA 4, 12, .inr (.inr (.inr (.inr (fun _ => none))))))]) _ _ := hW
  refine k_putF E hin (i1 := 306) (k := 6) hW (by decide) (by decide) (by decide +kernel) rfl ⟨rfl, rfl⟩ rfl rfl (Nat.le_of_ble_eq_true rfl) kd_Plan_36 (fun H locs hW => ?_)
  have hW : kC D _ _ ((h0, .inr (4, [.ref q7, .int 0, .ref q15, .ref q24, .int 0, .int 0, .ref q33, .int 0, .int 0, .null, .null])) :: [(q7, .inl (cA 0, 12, .inl (fun _ => 0))), (q15, .inl (cA 4, 12, .inr (.inr (.inr (.inr (fun _ => none)))))), (q24, .inl (cA 4, 12, .inr (.inr (.inr (.inr (fun _ => none)))))), (q33, .inl (cA 4, 12, .inr (.inr (.inr (.inr (fun _ => none))))))]) _ _ := hW
  refine lv_aload_n E.1.1 E.1.2.1 kd_Plan_39 rfl (lv_at hl 0 rfl) ?_
  refine lv_bipush (v := 12) E.1.1 E.1.2.1 kd_Plan_40 (by decide) ?_
  refine k_newi E hW hA (N := 12) (by decide) (by decide) (by decide) ⟨(Nat.le_of_ble_eq_true rfl), (Nat.le_of_ble_eq_true rfl)⟩ kd_Plan_42 (fun q42 H hW => ?_)
  have hW : kC D _ _ ((h0, .inr (4, [.ref q7, .int 0, .ref q15, .ref q24, .int 0, .int 0, .ref q33, .int 0, .int 0, .null, .null])) :: [(q7, .inl (cA 0, 12, .inl (fun _ => 0))), (q15, .inl (cA 4, 12, .inr (.inr (.inr (.inr (fun _ => none)))))), (q24, .inl (cA 4, 12, .inr (.inr (.inr (.inr (fun _ => none)))))), (q33, .inl (cA 4, 12, .inr (.inr (.inr (.inr (fun _ => none)))))), (q42, .inl (cA 0, 12, .inl (fun _ => 0)))]) _ _ := hW
  refine k_putF E hin (i1 := 310) (k := 9) hW (by decide) (by decide) (by decide +kernel) rfl ⟨rfl, rfl⟩ rfl rfl (Nat.le_of_ble_eq_true rfl) kd_Plan_44 (fun H locs hW => ?_)
  have hW : kC D _ _ ((h0, .inr (4, [.ref q7, .int 0, .ref q15, .ref q24, .int 0, .int 0, .ref q33, .int 0, .int 0, .ref q42, .null])) :: [(q7, .inl (cA 0, 12, .inl (fun _ => 0))), (q15, .inl (cA 4, 12, .inr (.inr (.inr (.inr (fun _ => none)))))), (q24, .inl (cA 4, 12, .inr (.inr (.inr (.inr (fun _ => none)))))), (q33, .inl (cA 4, 12, .inr (.inr (.inr (.inr (fun _ => none)))))), (q42, .inl (cA 0, 12, .inl (fun _ => 0)))]) _ _ := hW
  refine lv_aload_n E.1.1 E.1.2.1 kd_Plan_47 rfl (lv_at hl 0 rfl) ?_
  refine lv_bipush (v := 12) E.1.1 E.1.2.1 kd_Plan_48 (by decide) ?_
  refine k_newi E hW hA (N := 12) (by decide) (by decide) (by decide) ⟨(Nat.le_of_ble_eq_true rfl), (Nat.le_of_ble_eq_true rfl)⟩ kd_Plan_50 (fun q50 H hW => ?_)
  have hW : kC D _ _ ((h0, .inr (4, [.ref q7, .int 0, .ref q15, .ref q24, .int 0, .int 0, .ref q33, .int 0, .int 0, .ref q42, .null])) :: [(q7, .inl (cA 0, 12, .inl (fun _ => 0))), (q15, .inl (cA 4, 12, .inr (.inr (.inr (.inr (fun _ => none)))))), (q24, .inl (cA 4, 12, .inr (.inr (.inr (.inr (fun _ => none)))))), (q33, .inl (cA 4, 12, .inr (.inr (.inr (.inr (fun _ => none)))))), (q42, .inl (cA 0, 12, .inl (fun _ => 0))), (q50, .inl (cA 0, 12, .inl (fun _ => 0)))]) _ _ := hW
  refine k_putF E hin (i1 := 311) (k := 10) hW (by decide) (by decide) (by decide +kernel) rfl ⟨rfl, rfl⟩ rfl rfl (Nat.le_of_ble_eq_true rfl) kd_Plan_52 (fun H locs hW => ?_)
  have hW : kC D _ _ ((h0, .inr (4, [.ref q7, .int 0, .ref q15, .ref q24, .int 0, .int 0, .ref q33, .int 0, .int 0, .ref q42, .ref q50])) :: [(q7, .inl (cA 0, 12, .inl (fun _ => 0))), (q15, .inl (cA 4, 12, .inr (.inr (.inr (.inr (fun _ => none)))))), (q24, .inl (cA 4, 12, .inr (.inr (.inr (.inr (fun _ => none)))))), (q33, .inl (cA 4, 12, .inr (.inr (.inr (.inr (fun _ => none)))))), (q42, .inl (cA 0, 12, .inl (fun _ => 0))), (q50, .inl (cA 0, 12, .inl (fun _ => 0)))]) _ _ := hW
  refine lv_iconst (v := zI 0) E.1.1 E.1.2.1 kd_Plan_55 rfl ?_
  refine lv_istore_n (i := 1) E.1.1 E.1.2.1 kd_Plan_56 rfl hl (by decide) rfl (fun ls hl => ?_)
  have hl : lv_has ls 2 [(1, .int (zI ((0 : Nat) : Int))), (0, .ref h0)] := hl
  refine W.widen (k := 6 + 0) (n := 72 + 4 * 0) (Nat.le_of_ble_eq_true rfl) (Nat.le_of_ble_eq_true rfl) ?_
  have L : ∀ (r n : Nat) (u : Nat → Nat) (ls : Array Slot) (H : Heap) (locs : List Loc), n + r = 12 → lv_has ls 2 [(1, .int (zI (n : Nat))), (0, .ref h0)] → kC D (kA0 h0 4 sz) s.heap (wPq cA h0 u (gAf 6 u n) (gAf 6 u n) n) H locs → W p l e { frames := 2, cells := 18, slots := 120, locals := 64 * 2 } s m [Value.ref h0].toArray below meth c H locs (6 + n) (72 + 4 * n) (MQ below (kPost D (kA0 h0 4 sz) (fun u : Nat → Nat => wPl cA h0 u (fun i => some (u (6 + i))) 12)) [Value.ref h0].toArray s 18 120 (kA0 h0 4 sz)) (F0 m 57 ls []) := by
    intro r
    induction r with
    | zero =>
      intro n u ls H locs hn hl hW
      refine lv_iload_n E.1.1 E.1.2.1 kd_Plan_57 rfl (lv_at hl 0 rfl) ?_
      refine lv_bipush (v := zI 12) E.1.1 E.1.2.1 kd_Plan_58 (by decide +kernel) ?_
      refine lv_icmp_ge (tgt := 104) E.1.1 E.1.2.1 kd_Plan_60 (by decide) (fun _ => ?_) (fun z => absurd (by rw [zI_le (by omega)]; omega) z)
      refine W.widen (k := 18) (n := 120) (by omega) (by omega) ?_
      have e : n = 12 := by omega
      subst e
      have hW2 : kC D (kA0 h0 4 sz) s.heap (wPl cA h0 u (fun i => some (u (6 + i))) 12) H locs := by
        refine ⟨va_P_mem.mpr fun q hq => ?_, hW.2.1.fst rfl, hW.2.2⟩
        have hm := va_P_mem.mp hW.1
        unfold wPl at hq
        unfold wPq at hq hm
        rcases List.mem_cons.mp hq with e | hq
        · exact hm q (by rw [e]; exact List.mem_cons_self)
        rcases List.mem_cons.mp hq with e | hq
        · exact hm q (by rw [e]; exact List.mem_cons_of_mem _ List.mem_cons_self)
        rcases List.mem_cons.mp hq with e | hq
        · have h3 := hm _ (List.mem_cons_of_mem _ (List.mem_cons_of_mem _ List.mem_cons_self))
          rw [e]
          exact Eq.trans h3 (congrArg some (vp_cell_refs fun i hi => if_pos hi))
        rcases List.mem_cons.mp hq with e | hq
        · have h3 := hm _ (List.mem_cons_of_mem _ (List.mem_cons_of_mem _ (List.mem_cons_of_mem _ List.mem_cons_self)))
          rw [e]
          exact Eq.trans h3 (congrArg some (vp_cell_refs fun i hi => if_pos hi))
        · exact hm q (List.mem_cons_of_mem _ (List.mem_cons_of_mem _ (List.mem_cons_of_mem _ (List.mem_cons_of_mem _ hq))))
      exact k_ret E hr hlocks u hW2 kd_Plan_104
    | succ r ih =>
      intro n u ls H locs hn hl hW
      refine lv_iload_n E.1.1 E.1.2.1 kd_Plan_57 rfl (lv_at hl 0 rfl) ?_
      refine lv_bipush (v := zI 12) E.1.1 E.1.2.1 kd_Plan_58 (by decide +kernel) ?_
      refine lv_icmp_ge (tgt := 104) E.1.1 E.1.2.1 kd_Plan_60 (by decide) (fun z => absurd z (by rw [zI_le (by omega)]; omega)) (fun _ => ?_)
      refine lv_aload_n E.1.1 E.1.2.1 kd_Plan_63 rfl (lv_at hl 1 rfl) ?_
      refine k_get E (i1 := 300) (k := 2) (v := .ref (u 1)) hW (by decide) (by decide) (by decide +kernel) rfl rfl kd_Plan_64 ?_
      refine lv_iload_n E.1.1 E.1.2.1 kd_Plan_67 rfl (lv_at hl 0 rfl) ?_
      refine k_new E hW hA (ci := 5) (i1 := 276) (i2 := 278) (i3 := 153) (by decide) (by decide +kernel) (by decide +kernel) (by decide +kernel) ⟨by show 6 + n + 1 ≤ 18; omega, by show 72 + 4 * n + 4 ≤ 120; omega⟩ kd_Plan_68 (fun q H hW => ?_)
      refine lv_dup E.1.1 E.1.2.1 kd_Plan_71 rfl ?_
      refine k_call E (S := Unit) (i1 := 279) (i2 := 280) (i3 := 281) (i4 := 153) (As := []) (rest := [.ref q, .int (zI (n : Nat)), .ref (u 1)]) (X := wPq cA h0 u (gAf 6 u n) (gAf 6 u n) n) true (c_Choice_init l D cA q H.size) hW hA hl.1 (by decide +kernel) (by decide +kernel) (by decide +kernel) (by decide +kernel) ⟨rfl, by decide, by decide, by decide +kernel⟩ ⟨(Nat.le_of_ble_eq_true rfl), (Nat.le_of_ble_eq_true rfl), by show 6 + n + 1 + 0 ≤ 18; omega, by show 72 + 4 * n + 4 + 0 ≤ 120; omega⟩ (Nat.le_of_ble_eq_true rfl) kd_Plan_72 (fun _ H locs hW => ?_)
      have e : (zI (n : Nat)).toNatClampNeg = n := zI_ixN (by omega)
      refine va_astq E.1.1 E.1.2.1 E.1.2.2.2.2.2.1 hW.1 hW.2.1 hW.2.2 (q0 := 2) (t0 := 4) (qk := 7 + n) (ci := 5) (r := (qownS 5, qT 5, qN 5)) rfl rfl (by rw [List.getElem?_append_right (by rw [wPq_len]; exact Nat.le_refl _), wPq_len, Nat.sub_self]; rfl) (qcl_get (by decide)) (vin_of (zI_oob (by omega))) kd_Plan_75 (fun H locs hP hD hS => ?_)
      rw [e, gAf_s] at hP hD
      have hW3 : kC D (kA0 h0 4 sz) s.heap (wPq cA h0 u (gAf 6 (fun i => if i = 6 + n then q else u i) (n + 1)) (gAf 6 u n) n ++ [(q, .inr (5, k0 5))]) H locs := ⟨hP, hD, hS⟩
      refine lv_aload_n E.1.1 E.1.2.1 kd_Plan_76 rfl (lv_at hl 1 rfl) ?_
      refine k_get E (i1 := 300) (k := 2) (v := .ref (u 1)) hW3 (by decide) (by decide) (by decide +kernel) rfl rfl kd_Plan_77 ?_
      refine lv_iload_n E.1.1 E.1.2.1 kd_Plan_80 rfl (lv_at hl 0 rfl) ?_
      refine va_aldq E.1.1 E.1.2.1 E.1.2.2.2.2.2.1 hW3.1 (q0 := 2) (t0 := 4) (C := qownS 5) rfl rfl (vin_of (zI_oob (by omega))) kd_Plan_81 ?_
      rw [e, show gAf 6 (fun i => if i = 6 + n then q else u i) (n + 1) n = some q from (if_pos (show n < n + 1 by omega)).trans (congrArg some (if_pos (c := 6 + n = 6 + n) rfl))]
      refine lv_iload_n E.1.1 E.1.2.1 kd_Plan_82 rfl (lv_at hl 0 rfl) ?_
      refine va_putN (ci := 5) (C := qownS 5) (T := qT 5) (N := qN 5) (ref := qownS 5) E.1.1 E.1.2.1 E.1.2.2.2.2.1 (fun w hw => gtb_of (qin 5 (by decide) w hw).1 (qin 5 (by decide) w hw).2) (qty 5) (qtyok 5 (by decide)) (qnm 5 (by decide)) E.1.2.2.2.1 E.1.2.2.2.2.2.1 hW3.1 hW3.2.1 hW3.2.2 (7 + n) (by rw [List.getElem?_append_right (by rw [wPq_len]; exact Nat.le_refl _), wPq_len, Nat.sub_self]; rfl) (qcl_get (by decide)) 0 (by decide) (va_Nw.use (w := .fieldLinkNest (qownS 4) 34 (qownS 5) (qT 5 0).2.1 (qT 5 0).2.2.1 "JealousByCalendar") rfl (E.1.2.2.2.2.2.2 _ (List.mem_of_getElem? (i := 283) (by decide +kernel)) rfl)) (fun x h => h) rfl (qtyok 5 (by decide) 0 (by decide)) rfl rfl (Nat.le_of_ble_eq_true rfl) kd_Plan_83 (fun H1 locs1 hP hD hS => ?_)
      rw [wPq_s] at hP hD
      obtain ⟨w, hw⟩ : ∃ w : Nat → Nat, (fun i => if i = 6 + n then q else u i) = w := ⟨_, rfl⟩
      rw [hw] at hP hD
      have hwq : w (6 + n) = q := by
        rw [← hw]
        exact if_pos (c := 6 + n = 6 + n) rfl
      have hW4 : kC D (kA0 h0 4 sz) s.heap (wPq cA h0 w (gAf 6 w (n + 1)) (gAf 6 u n) (n + 1)) H1 locs1 := ⟨hP, hD, hS⟩
      refine lv_aload_n E.1.1 E.1.2.1 kd_Plan_86 rfl (lv_at hl 1 rfl) ?_
      refine k_get E (i1 := 302) (k := 3) (v := .ref (w 2)) hW4 (by decide) (by decide) (by decide +kernel) rfl rfl kd_Plan_87 ?_
      refine lv_iload_n E.1.1 E.1.2.1 kd_Plan_90 rfl (lv_at hl 0 rfl) ?_
      refine lv_aload_n E.1.1 E.1.2.1 kd_Plan_91 rfl (lv_at hl 1 rfl) ?_
      refine k_get E (i1 := 300) (k := 2) (v := .ref (w 1)) hW4 (by decide) (by decide) (by decide +kernel) rfl rfl kd_Plan_92 ?_
      refine lv_iload_n E.1.1 E.1.2.1 kd_Plan_95 rfl (lv_at hl 0 rfl) ?_
      refine va_aldq E.1.1 E.1.2.1 E.1.2.2.2.2.2.1 hW4.1 (q0 := 2) (t0 := 4) (C := qownS 5) rfl rfl (vin_of (zI_oob (by omega))) kd_Plan_96 ?_
      rw [e, show gAf 6 w (n + 1) n = some (w (6 + n)) from if_pos (show n < n + 1 by omega)]
      refine va_astq E.1.1 E.1.2.1 E.1.2.2.2.2.2.1 hW4.1 hW4.2.1 hW4.2.2 (q0 := 3) (t0 := 4) (qk := 7 + n) (ci := 5) (r := (qownS 5, qT 5, qN 5)) rfl rfl (wPq_at (by omega)) (qcl_get (by decide)) (vin_of (zI_oob (by omega))) kd_Plan_97 (fun H2 locs2 hP hD hS => ?_)
      rw [e, hwq, gAf_s, hw] at hP hD
      have hW5 : kC D (kA0 h0 4 sz) s.heap (wPq cA h0 w (gAf 6 w (n + 1)) (gAf 6 w (n + 1)) (n + 1)) H2 locs2 := ⟨hP, hD, hS⟩
      refine lv_iinc (i := 1) (k := 0) (v := zI ((n + 1 : Nat) : Int)) E.1.1 E.1.2.1 kd_Plan_98 hl rfl (by rw [zI_of, zI_add]; rfl) (by decide) rfl (fun ls hl => ?_)
      refine lv_goto (tgt := 57) E.1.1 E.1.2.1 kd_Plan_101 (by decide) ?_
      refine W.widen (k := 6 + (n + 1)) (n := 72 + 4 * (n + 1)) (by omega) (by show 72 + 4 * n + 4 + 0 ≤ _; omega) ?_
      exact ih (n + 1) w ls H2 locs2 (by omega) hl hW5
  have hW : kC D (kA0 h0 4 sz) s.heap (wPq cA h0 (fun i => if i = 0 then q7 else if i = 1 then q15 else if i = 2 then q24 else if i = 3 then q33 else if i = 4 then q42 else q50) (gAf 6 (fun i => if i = 0 then q7 else if i = 1 then q15 else if i = 2 then q24 else if i = 3 then q33 else if i = 4 then q42 else q50) 0) (gAf 6 (fun i => if i = 0 then q7 else if i = 1 then q15 else if i = 2 then q24 else if i = 3 then q33 else if i = 4 then q42 else q50) 0) 0) H locs := by
    refine ⟨?_, ?_, hW.2.2⟩
    · exact hW.1
    · exact hW.2.1
  exact L 12 0 _ ls H locs rfl hl hW
end
