section
/-! what a method answers: its returns say of which kind -/
def okK (K : Nat) (v : Option QV) : Prop := if K = 1 then ∃ x : Int32, v = some (qI x) else ∃ x : Int64, v = some (qL x)
def kR (K : Nat) (r : QR) : Prop := ∀ v μ, r = some (v, μ) → okK K v
def kOp (K : Nat) (o : Instr) : Bool := match o with
  | .ireturn => K == 1
  | .freturn => K == 1
  | .lreturn => K == 2
  | .areturn => false
  | .return_ => false
  | _ => true
theorem kR.no {K : Nat} : kR K none := fun _ _ h => by cases h
theorem kR.i {K : Nat} {x : Int32} {μ : QM} (h : (K == 1) = true) : kR K (some (some (qI x), μ)) := fun v μ' e => by
  cases e
  unfold okK
  rw [if_pos (by simpa using h)]
  exact ⟨x, rfl⟩
theorem kR.l {K : Nat} {x : Int64} {μ : QM} (h : (K == 2) = true) : kR K (some (some (qL x), μ)) := fun v μ' e => by
  cases e
  have h : K = 2 := by simpa using h
  unfold okK
  rw [if_neg (by omega)]
  exact ⟨x, rfl⟩
theorem kR.bV {K : Nat} {c : QR} {f : QM → QR} (h : ∀ μ, kR K (f μ)) : kR K (qbV c f) := by
  unfold qbV
  split
  · exact h _
  · exact kR.no
theorem kR.bI {K : Nat} {c : QR} {f : Int32 → QM → QR} (h : ∀ x μ, kR K (f x μ)) : kR K (qbI c f) := by
  unfold qbI
  split
  · exact h _ _
  · exact kR.no
theorem kR.bL {K : Nat} {c : QR} {f : Int64 → QM → QR} (h : ∀ x μ, kR K (f x μ)) : kR K (qbL c f) := by
  unfold qbL
  split
  · exact h _ _
  · exact kR.no
theorem kR.bR {K t : Nat} {c : QR} {f : Nat → Nat → QM → QR} (h : ∀ x y μ, kR K (f x y μ)) : kR K (qbR t c f) := by
  unfold qbR
  split
  · split
    · exact h _ _ _
    · exact kR.no
  · exact kR.no
theorem kR.bN {K t : Nat} {c : QR} {f : Nat → Nat → QM → QR} {g : QM → QR} (h : ∀ x y μ, kR K (f x y μ)) (hg : ∀ μ, kR K (g μ)) : kR K (qbN t c f g) := by
  unfold qbN
  split
  · split
    · exact h _ _ _
    · exact kR.no
  · exact hg _
  · exact kR.no
theorem kR.cd {K : Nat} {b : Bool} {x : QR} (h : kR K x) : kR K (bif b then none else x) := by
  cases b
  · exact h
  · exact kR.no
theorem kR.it {K : Nat} {p : Prop} [Decidable p] {x y : QR} (h : kR K x) (h2 : kR K y) : kR K (if p then x else y) := by
  by_cases hp : p
  · rw [if_pos hp]; exact h
  · rw [if_neg hp]; exact h2
theorem kR.qc {K : Nat} {c : ClassFile.Cond} {x y : Int32} {A B : QR} (h : kR K A) (h2 : kR K B) : kR K (qcond c x y A B) := by
  unfold qcond
  cases c <;> exact kR.it (by assumption) (by assumption)
theorem kR.sw {K : Nat} {jp : Int → QR} {x : Int32} {d : Int} (h : ∀ o, kR K (jp o)) : ∀ l, kR K (qsw jp x d l)
  | [] => h d
  | (a, o) :: r => by
    show kR K (if x = Int32.ofInt a then jp o else qsw jp x d r)
    exact kR.it (h o) (kR.sw h r)
set_option maxHeartbeats 8000000 in
theorem kR.op {K : Nat} {call : QC} {nx : QL → List QV → QM → QR} {jp : Int → QL → List QV → QM → QR} (hn : ∀ ls st μ, kR K (nx ls st μ)) (hj : ∀ o ls st μ, kR K (jp o ls st μ)) (o : Instr) (ho : kOp K o = true) (ls : QL) (st : List QV) (μ : QM) : kR K (qop call nx jp o ls st μ) := by
  unfold qop
  split
  all_goals first
    | exact kR.no
    | exact hj _ _ _ _
    | exact hn _ _ _
    | (repeat' first | exact kR.no | exact hn _ _ _ | exact hj _ _ _ _ | exact kR.i ho | exact kR.l ho | exact absurd ho Bool.false_ne_true | apply kR.cd | apply kR.qc | apply kR.it | (apply kR.bI; intro _ _) | (apply kR.bL; intro _ _) | (apply kR.bV; intro _) | (apply kR.bR; intro _ _ _) | (apply kR.bN <;> intros) | (apply kR.sw; intro _) | split)
theorem kR.sem {K : Nat} {call : QC} {k : Nat → QL → List QV → QM → QR} {code : List QE} (hk : ∀ pc ls st μ, kR K (k pc ls st μ)) : ∀ (l : List QE), (∀ e ∈ l, kOp K e.2.2 = true) → ∀ b ls st μ, kR K (qsem call k code l b ls st μ)
  | [], _, _, _, _, _ => kR.no
  | e :: rest, h, b, ls, st, μ => by
    have h1 := kR.op (call := call) (nx := qsem call k code rest true) (jp := qjmp k code e.1) (kR.sem (code := code) hk rest (fun e he => h e (List.mem_cons_of_mem _ he)) true) (fun o ls st μ => hk _ _ _ _) e.2.2 (h e List.mem_cons_self) ls st μ
    obtain ⟨pc, lv, o⟩ := e
    cases b with
    | false => exact h1
    | true =>
      cases lv with
      | none => exact h1
      | some mk => exact hk _ _ _ _
theorem kR.runF {K : Nat} {call : QC} {code : List QE} (h : ∀ e ∈ code, kOp K e.2.2 = true) : ∀ n pc ls st μ, kR K (qrunF call code n pc ls st μ)
  | 0, _, _, _, _ => kR.no
  | n + 1, pc, ls, st, μ => kR.sem (kR.runF h n) (qfrom code pc) (fun e he => h e (List.dropWhile_subset _ he)) false ls st μ
theorem kR.run {K : Nat} {call : QC} {code : List QE} (h : ∀ e ∈ code, kOp K e.2.2 = true) (pc : Nat) (ls : QL) (st : List QV) (μ : QM) : kR K (qrun call code pc ls st μ) := fun v μ' e => by
  obtain ⟨n, hn⟩ := qsup_some e
  exact kR.runF h n pc ls st μ v μ' hn
/-- an answer of a method whose returns are of a kind -/
def kMd (K y : Nat) : Bool := match qprogs[y]? with
  | none => false
  | some pr => pr.2.2.2.all fun e => kOp K e.2.2
theorem kR.call {K y : Nat} (hk : kMd K y = true) (d : Nat) (av : List QV) (μ : QM) : kR K (qcall qprogs (d + 1) y av μ) := by
  unfold kMd at hk
  rw [qcall]
  dsimp only
  cases hp : qprogs[y]? with
  | none => rw [hp] at hk; cases hk
  | some pr =>
    rw [hp] at hk
    dsimp only at hk ⊢
    cases hb : (qargs pr.2.1 av && decide ((qexp av).length ≤ pr.2.2.1)) with
    | false => exact kR.no
    | true => exact kR.run (fun e he => List.all_eq_true.mp hk e he) _ _ _ _
theorem qprogs_ok : ∀ (y : Nat) (pr : QP), qprogs[y]? = some pr → qpok y pr = true := by
  intro y pr h
  have key : ∀ (l : List QP) (b i : Nat), (l[i]?.map fun pr => qpok (b + i) pr).getD false = true → l[i]? = some pr → qpok (b + i) pr = true := fun l b i h1 h2 => by
    rw [h2] at h1
    exact h1
  have hl : y < 266 := by rw [← qprogs_len]; exact (List.getElem?_eq_some_iff.mp h).1
  unfold qprogs at h
  by_cases c0 : y < 38
  · rw [List.getElem?_append_left (show y < qprogs0.length from c0)] at h
    have := key _ 0 y (qprogs0_ok y c0) h
    rwa [Nat.zero_add] at this
  rw [List.getElem?_append_right (show qprogs0.length ≤ y from Nat.not_lt.mp c0), show qprogs0.length = 38 from rfl] at h
  by_cases c1 : y - 38 < 38
  · rw [List.getElem?_append_left (show y - 38 < qprogs1.length from c1)] at h
    have := key _ 38 _ (qprogs1_ok _ c1) h
    rwa [show 38 + (y - 38) = y by omega] at this
  rw [List.getElem?_append_right (show qprogs1.length ≤ y - 38 from Nat.not_lt.mp c1), show qprogs1.length = 38 from rfl] at h
  by_cases c2 : y - 38 - 38 < 38
  · rw [List.getElem?_append_left (show y - 38 - 38 < qprogs2.length from c2)] at h
    have := key _ 76 _ (qprogs2_ok _ c2) h
    rwa [show 76 + (y - 38 - 38) = y by omega] at this
  rw [List.getElem?_append_right (show qprogs2.length ≤ y - 38 - 38 from Nat.not_lt.mp c2), show qprogs2.length = 38 from rfl] at h
  by_cases c3 : y - 38 - 38 - 38 < 38
  · rw [List.getElem?_append_left (show y - 38 - 38 - 38 < qprogs3.length from c3)] at h
    have := key _ 114 _ (qprogs3_ok _ c3) h
    rwa [show 114 + (y - 38 - 38 - 38) = y by omega] at this
  rw [List.getElem?_append_right (show qprogs3.length ≤ y - 38 - 38 - 38 from Nat.not_lt.mp c3), show qprogs3.length = 38 from rfl] at h
  by_cases c4 : y - 38 - 38 - 38 - 38 < 38
  · rw [List.getElem?_append_left (show y - 38 - 38 - 38 - 38 < qprogs4.length from c4)] at h
    have := key _ 152 _ (qprogs4_ok _ c4) h
    rwa [show 152 + (y - 38 - 38 - 38 - 38) = y by omega] at this
  rw [List.getElem?_append_right (show qprogs4.length ≤ y - 38 - 38 - 38 - 38 from Nat.not_lt.mp c4), show qprogs4.length = 38 from rfl] at h
  by_cases c5 : y - 38 - 38 - 38 - 38 - 38 < 38
  · rw [List.getElem?_append_left (show y - 38 - 38 - 38 - 38 - 38 < qprogs5.length from c5)] at h
    have := key _ 190 _ (qprogs5_ok _ c5) h
    rwa [show 190 + (y - 38 - 38 - 38 - 38 - 38) = y by omega] at this
  rw [List.getElem?_append_right (show qprogs5.length ≤ y - 38 - 38 - 38 - 38 - 38 from Nat.not_lt.mp c5), show qprogs5.length = 38 from rfl] at h
  have := key _ 228 _ (qprogs6_ok _ (show y - 38 - 38 - 38 - 38 - 38 - 38 < 38 by omega)) h
  rwa [show 228 + (y - 38 - 38 - 38 - 38 - 38 - 38) = y by omega] at this
/-! both objects, one call of each -/
theorem MI.cl {μ μ' : QM} {σ : GS} (h : MI μ σ) (f : Fr isCl μ μ') : MI μ' σ := by
  have e : ∀ t p c, 24 ≤ t → μ'.1 (t, p, c) = μ.1 (t, p, c) := fun t p c ht => f.1 _ (by unfold isCl; dsimp only; omega)
  obtain ⟨h1, h2, h3, h4, h5, h6⟩ := h
  have ks : ∀ k s, KS μ k s → KS μ' k s := fun k s q => by unfold KS; rw [e 40 0 0 (by decide)]; exact q
  refine ⟨h1.congr (by rw [e 24 0 0 (by decide)]) (by rw [e 24 0 0 (by decide)]) (fun k hk => e _ _ _ (by omega)) rfl rfl (fun _ _ _ _ => rfl) (fun _ _ _ _ => rfl), ?_, ⟨h3.1, by rw [e 24 0 0 (by decide)]; exact h3.2.1, fun i hi => ks _ _ (h3.2.2 i hi)⟩, h4.c (by rw [e 24 0 0 (by decide)]) (e 36 0 0 (by decide)), h5.c (by rw [e 24 0 0 (by decide)]) (e 45 0 0 (by decide)), h6.c (e 25 0 0 (by decide))⟩
  cases hg : gI σ with
  | none => rw [hg] at h2; show μ'.1 (24, 0, 0) 21 = _; rw [e 24 0 0 (by decide)]; exact h2
  | some s => rw [hg] at h2; exact ⟨by rw [e 24 0 0 (by decide)]; exact h2.1, ks _ _ h2.2⟩
theorem CI.md {μ μ' : QM} {σ : GS} (h : CI μ σ) (f : Fr isMd μ μ') : CI μ' σ := by
  refine ⟨h.1.fr f (fun j _ a ha z => ?_) (fun t ht z => ?_), h.2.fr f fun t p c h1 h2 z => ?_⟩
  · unfold isMd at z
    rcases ha.1 with e | e | e <;> omega
  · unfold isMd at z
    dsimp only at z
    omega
  · unfold isMd at z
    dsimp only at z
    omega
theorem op_go {i j : Nat} {args : List QV} {σ : GS} (h : OP i j args σ) (hk : kMd 1 i = true) (d : Nat) {μ : QM} (ci : CI μ σ) (mi : MI μ σ) : ∃ (x : Int32) (μ1 μ2 : QM) (σ' : GS), qcall qprogs (d + 30) i (qR (0, 0, 0) :: args) μ = some (some (qI x), μ1) ∧ qcall qprogs (d + 30) j (qR (24, 0, 0) :: args) μ1 = some (some (qI x), μ2) ∧ CI μ2 σ' ∧ MI μ2 σ' ∧ GOK σ' := by
  obtain ⟨v, σ', hJ, hM, hg⟩ := h
  obtain ⟨μ1, r1, r2, r3⟩ := hJ d μ ci
  obtain ⟨μ2, q1, q2, q3⟩ := hM d μ1 (mi.cl r3)
  have hv := kR.call hk (d + 29) _ _ _ _ r1
  unfold okK at hv
  rw [if_pos rfl] at hv
  obtain ⟨x, hx⟩ := hv
  cases hx
  exact ⟨x, μ1, μ2, σ', r1, q1, r2.md q3, q2, hg⟩
theorem op_goL {i j : Nat} {args : List QV} {σ : GS} (h : OP i j args σ) (hk : kMd 2 i = true) (d : Nat) {μ : QM} (ci : CI μ σ) (mi : MI μ σ) : ∃ (x : Int64) (μ1 μ2 : QM) (σ' : GS), qcall qprogs (d + 30) i (qR (0, 0, 0) :: args) μ = some (some (qL x), μ1) ∧ qcall qprogs (d + 30) j (qR (24, 0, 0) :: args) μ1 = some (some (qL x), μ2) ∧ CI μ2 σ' ∧ MI μ2 σ' ∧ GOK σ' := by
  obtain ⟨v, σ', hJ, hM, hg⟩ := h
  obtain ⟨μ1, r1, r2, r3⟩ := hJ d μ ci
  obtain ⟨μ2, q1, q2, q3⟩ := hM d μ1 (mi.cl r3)
  have hv := kR.call hk (d + 29) _ _ _ _ r1
  unfold okK at hv
  rw [if_neg (by decide)] at hv
  obtain ⟨x, hx⟩ := hv
  cases hx
  exact ⟨x, μ1, μ2, σ', r1, q1, r2.md q3, q2, hg⟩
end
