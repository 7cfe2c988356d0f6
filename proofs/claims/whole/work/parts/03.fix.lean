/-! a run's equation: each step hands on to one successor at most -/
theorem qcond_or (c : ClassFile.Cond) (x y : Int32) : (∀ A B : QR, qcond c x y A B = A) ∨ (∀ A B : QR, qcond c x y A B = B) := by
  cases c <;> simp only [qcond]
  · by_cases h : x = y <;> simp [h]
  · by_cases h : x = y <;> simp [h]
  · by_cases h : x < y <;> simp [h]
  · by_cases h : y ≤ x <;> simp [h]
  · by_cases h : y < x <;> simp [h]
  · by_cases h : x ≤ y <;> simp [h]
theorem qsw_jp (x : Int32) (d : Int) : ∀ l : List (Int × Int), ∃ off : Int, ∀ jp : Int → QR, qsw jp x d l = jp off
  | [] => ⟨d, fun _ => rfl⟩
  | (a, o) :: l => by
    by_cases h : x = Int32.ofInt a
    · exact ⟨o, fun jp => by simp only [qsw, if_pos h]⟩
    · obtain ⟨off, k⟩ := qsw_jp x d l
      exact ⟨off, fun jp => by simp only [qsw, if_neg h]; exact k jp⟩
def QT (f : (QL → List QV → QM → QR) → (Int → QL → List QV → QM → QR) → QR) : Prop :=
  (∃ r, ∀ nx jp, f nx jp = r) ∨ (∃ l s m, ∀ nx jp, f nx jp = nx l s m) ∨ (∃ o l s m, ∀ nx jp, f nx jp = jp o l s m)
theorem QT.c {r : QR} : QT (fun _ _ => r) := Or.inl ⟨r, fun _ _ => rfl⟩
theorem QT.n {l : QL} {s : List QV} {m : QM} : QT (fun nx _ => nx l s m) := Or.inr (Or.inl ⟨l, s, m, fun _ _ => rfl⟩)
theorem QT.j {o : Int} {l : QL} {s : List QV} {m : QM} : QT (fun _ jp => jp o l s m) := Or.inr (Or.inr ⟨o, l, s, m, fun _ _ => rfl⟩)
theorem QT.ite {c : Prop} [i : Decidable c] {f g : (QL → List QV → QM → QR) → (Int → QL → List QV → QM → QR) → QR} (hf : QT f) (hg : QT g) : QT (fun nx jp => if c then f nx jp else g nx jp) := by
  by_cases h : c
  · simpa only [if_pos h] using hf
  · simpa only [if_neg h] using hg
theorem QT.cond {b : Bool} {f g : (QL → List QV → QM → QR) → (Int → QL → List QV → QM → QR) → QR} (hf : QT f) (hg : QT g) : QT (fun nx jp => bif b then f nx jp else g nx jp) := by
  cases b
  · exact hg
  · exact hf
theorem QT.qc {c : ClassFile.Cond} {x y : Int32} {f g : (QL → List QV → QM → QR) → (Int → QL → List QV → QM → QR) → QR} (hf : QT f) (hg : QT g) : QT (fun nx jp => qcond c x y (f nx jp) (g nx jp)) := by
  rcases qcond_or c x y with h | h
  · simpa only [h] using hf
  · simpa only [h] using hg
theorem QT.sw {x : Int32} {d : Int} {ps : List (Int × Int)} {l : QL} {s : List QV} {m : QM} : QT (fun _ jp => qsw (fun off => jp off l s m) x d ps) := by
  obtain ⟨off, h⟩ := qsw_jp x d ps
  exact Or.inr (Or.inr ⟨off, l, s, m, fun _ jp => h _⟩)
theorem QT.bV {c : QR} {f : QM → (QL → List QV → QM → QR) → (Int → QL → List QV → QM → QR) → QR} (hf : ∀ μ, QT (f μ)) : QT (fun nx jp => qbV c (fun μ => f μ nx jp)) := by
  rcases c with _ | ⟨_ | v, μ⟩
  · exact QT.c
  · exact hf μ
  · exact QT.c
theorem QT.bI {c : QR} {f : Int32 → QM → (QL → List QV → QM → QR) → (Int → QL → List QV → QM → QR) → QR} (hf : ∀ x μ, QT (f x μ)) : QT (fun nx jp => qbI c (fun x μ => f x μ nx jp)) := by
  rcases c with _ | ⟨_ | v | v | v, μ⟩
  · exact QT.c
  · exact QT.c
  · exact hf v μ
  · exact QT.c
  · exact QT.c
theorem QT.bL {c : QR} {f : Int64 → QM → (QL → List QV → QM → QR) → (Int → QL → List QV → QM → QR) → QR} (hf : ∀ x μ, QT (f x μ)) : QT (fun nx jp => qbL c (fun x μ => f x μ nx jp)) := by
  rcases c with _ | ⟨_ | v | v | v, μ⟩
  · exact QT.c
  · exact QT.c
  · exact QT.c
  · exact hf v μ
  · exact QT.c
theorem QT.bR {t : Nat} {c : QR} {f : Nat → Nat → QM → (QL → List QV → QM → QR) → (Int → QL → List QV → QM → QR) → QR} (hf : ∀ x y μ, QT (f x y μ)) : QT (fun nx jp => qbR t c (fun x y μ => f x y μ nx jp)) := by
  rcases c with _ | ⟨_ | v | v | _ | a, μ⟩
  · exact QT.c
  · exact QT.c
  · exact QT.c
  · exact QT.c
  · exact QT.c
  · exact QT.ite (hf _ _ μ) QT.c
theorem QT.bN {t : Nat} {c : QR} {f : Nat → Nat → QM → (QL → List QV → QM → QR) → (Int → QL → List QV → QM → QR) → QR} {g : QM → (QL → List QV → QM → QR) → (Int → QL → List QV → QM → QR) → QR} (hf : ∀ x y μ, QT (f x y μ)) (hg : ∀ μ, QT (g μ)) : QT (fun nx jp => qbN t c (fun x y μ => f x y μ nx jp) (fun μ => g μ nx jp)) := by
  rcases c with _ | ⟨_ | v | v | _ | a, μ⟩
  · exact QT.c
  · exact QT.c
  · exact QT.c
  · exact QT.c
  · exact hg μ
  · exact QT.ite (hf _ _ μ) QT.c
set_option maxHeartbeats 4000000 in
theorem qop_tail (call : QC) (o : Instr) (ls : QL) (st : List QV) (μ : QM) : QT (fun nx jp => qop call nx jp o ls st μ) := by
  cases o
  case sipush n =>
    exact QT.n
  case goto_w n =>
    exact QT.n
  case aconst_null =>
    exact QT.n
  case iload i =>
    show QT (fun nx jp => match ls[i]? with | some (some (.inl x)) => nx ls (qI x :: st) μ | _ => none)
    rcases ls[i]? with _ | _ | x | x | x <;> first | exact QT.n | exact QT.c
  case lload i =>
    show QT (fun nx jp => match ls[i]? with | some (some (.inr (.inl x))) => nx ls (qL x :: st) μ | _ => none)
    rcases ls[i]? with _ | _ | x | x | x <;> first | exact QT.n | exact QT.c
  case aload i =>
    show QT (fun nx jp => match ls[i]? with | some (some (.inr (.inr x))) => nx ls (qO x :: st) μ | _ => none)
    rcases ls[i]? with _ | _ | x | x | x <;> first | exact QT.n | exact QT.c
  case iinc i n =>
    show QT (fun nx jp => match ls[i]? with | some (some (.inl x)) => nx (qput ls i (qI (x + Int32.ofInt n))) st μ | _ => none)
    rcases ls[i]? with _ | _ | x | x | x <;> first | exact QT.n | exact QT.c
  case istore i =>
    rcases st with _ | ⟨v0, t0⟩
    · exact QT.c
    rcases v0 with x0 | x0
    · exact QT.ite QT.n QT.c
    · exact QT.c
  case astore i =>
    rcases st with _ | ⟨v0, t0⟩
    · exact QT.c
    rcases v0 with x0 | x0 | x0
    · exact QT.c
    · exact QT.c
    exact QT.ite QT.n QT.c
  case lstore i =>
    rcases st with _ | ⟨v0, t0⟩
    · exact QT.c
    rcases v0 with x0 | x0 | x0
    · exact QT.c
    · exact QT.ite QT.n QT.c
    · exact QT.c
  case dup =>
    rcases st with _ | ⟨x | x | x, st⟩ <;> first | exact QT.n | exact QT.c
  case pop =>
    rcases st with _ | ⟨x | x | x, st⟩ <;> first | exact QT.n | exact QT.c
  case dup2 =>
    rcases st with _ | ⟨v0, t0⟩
    · exact QT.c
    rcases v0 with x0 | x0
    · rcases t0 with _ | ⟨v1, t1⟩
      · exact QT.c
      rcases v1 with x1 | x1 | x1
      · exact QT.c
      · exact QT.c
      exact QT.n
    · exact QT.c
  case iadd =>
    rcases st with _ | ⟨v0, t0⟩
    · exact QT.c
    rcases v0 with x0 | x0
    · rcases t0 with _ | ⟨v1, t1⟩
      · exact QT.c
      rcases v1 with x1 | x1
      · exact QT.n
      · exact QT.c
    · exact QT.c
  case isub =>
    rcases st with _ | ⟨v0, t0⟩
    · exact QT.c
    rcases v0 with x0 | x0
    · rcases t0 with _ | ⟨v1, t1⟩
      · exact QT.c
      rcases v1 with x1 | x1
      · exact QT.n
      · exact QT.c
    · exact QT.c
  case imul =>
    rcases st with _ | ⟨v0, t0⟩
    · exact QT.c
    rcases v0 with x0 | x0
    · rcases t0 with _ | ⟨v1, t1⟩
      · exact QT.c
      rcases v1 with x1 | x1
      · exact QT.n
      · exact QT.c
    · exact QT.c
  case iand =>
    rcases st with _ | ⟨v0, t0⟩
    · exact QT.c
    rcases v0 with x0 | x0
    · rcases t0 with _ | ⟨v1, t1⟩
      · exact QT.c
      rcases v1 with x1 | x1
      · exact QT.n
      · exact QT.c
    · exact QT.c
  case ior =>
    rcases st with _ | ⟨v0, t0⟩
    · exact QT.c
    rcases v0 with x0 | x0
    · rcases t0 with _ | ⟨v1, t1⟩
      · exact QT.c
      rcases v1 with x1 | x1
      · exact QT.n
      · exact QT.c
    · exact QT.c
  case ixor =>
    rcases st with _ | ⟨v0, t0⟩
    · exact QT.c
    rcases v0 with x0 | x0
    · rcases t0 with _ | ⟨v1, t1⟩
      · exact QT.c
      rcases v1 with x1 | x1
      · exact QT.n
      · exact QT.c
    · exact QT.c
  case ishl =>
    rcases st with _ | ⟨v0, t0⟩
    · exact QT.c
    rcases v0 with x0 | x0
    · rcases t0 with _ | ⟨v1, t1⟩
      · exact QT.c
      rcases v1 with x1 | x1
      · exact QT.n
      · exact QT.c
    · exact QT.c
  case ishr =>
    rcases st with _ | ⟨v0, t0⟩
    · exact QT.c
    rcases v0 with x0 | x0
    · rcases t0 with _ | ⟨v1, t1⟩
      · exact QT.c
      rcases v1 with x1 | x1
      · exact QT.n
      · exact QT.c
    · exact QT.c
  case iushr =>
    rcases st with _ | ⟨v0, t0⟩
    · exact QT.c
    rcases v0 with x0 | x0
    · rcases t0 with _ | ⟨v1, t1⟩
      · exact QT.c
      rcases v1 with x1 | x1
      · exact QT.n
      · exact QT.c
    · exact QT.c
  case idiv =>
    rcases st with _ | ⟨v0, t0⟩
    · exact QT.c
    rcases v0 with x0 | x0
    · rcases t0 with _ | ⟨v1, t1⟩
      · exact QT.c
      rcases v1 with x1 | x1
      · exact QT.ite QT.c QT.n
      · exact QT.c
    · exact QT.c
  case irem =>
    rcases st with _ | ⟨v0, t0⟩
    · exact QT.c
    rcases v0 with x0 | x0
    · rcases t0 with _ | ⟨v1, t1⟩
      · exact QT.c
      rcases v1 with x1 | x1
      · exact QT.ite QT.c QT.n
      · exact QT.c
    · exact QT.c
  case ineg =>
    rcases st with _ | ⟨v0, t0⟩
    · exact QT.c
    rcases v0 with x0 | x0
    · exact QT.n
    · exact QT.c
  case ladd =>
    rcases st with _ | ⟨v0, t0⟩
    · exact QT.c
    rcases v0 with x0 | x0 | x0
    · exact QT.c
    · rcases t0 with _ | ⟨v1, t1⟩
      · exact QT.c
      rcases v1 with x1 | x1 | x1
      · exact QT.c
      · exact QT.n
      · exact QT.c
    · exact QT.c
  case lsub =>
    rcases st with _ | ⟨v0, t0⟩
    · exact QT.c
    rcases v0 with x0 | x0 | x0
    · exact QT.c
    · rcases t0 with _ | ⟨v1, t1⟩
      · exact QT.c
      rcases v1 with x1 | x1 | x1
      · exact QT.c
      · exact QT.n
      · exact QT.c
    · exact QT.c
  case lmul =>
    rcases st with _ | ⟨v0, t0⟩
    · exact QT.c
    rcases v0 with x0 | x0 | x0
    · exact QT.c
    · rcases t0 with _ | ⟨v1, t1⟩
      · exact QT.c
      rcases v1 with x1 | x1 | x1
      · exact QT.c
      · exact QT.n
      · exact QT.c
    · exact QT.c
  case lor =>
    rcases st with _ | ⟨v0, t0⟩
    · exact QT.c
    rcases v0 with x0 | x0 | x0
    · exact QT.c
    · rcases t0 with _ | ⟨v1, t1⟩
      · exact QT.c
      rcases v1 with x1 | x1 | x1
      · exact QT.c
      · exact QT.n
      · exact QT.c
    · exact QT.c
  case lcmp =>
    rcases st with _ | ⟨v0, t0⟩
    · exact QT.c
    rcases v0 with x0 | x0 | x0
    · exact QT.c
    · rcases t0 with _ | ⟨v1, t1⟩
      · exact QT.c
      rcases v1 with x1 | x1 | x1
      · exact QT.c
      · exact QT.n
      · exact QT.c
    · exact QT.c
  case ldiv =>
    rcases st with _ | ⟨v0, t0⟩
    · exact QT.c
    rcases v0 with x0 | x0 | x0
    · exact QT.c
    · rcases t0 with _ | ⟨v1, t1⟩
      · exact QT.c
      rcases v1 with x1 | x1 | x1
      · exact QT.c
      · exact QT.ite QT.c QT.n
      · exact QT.c
    · exact QT.c
  case lrem =>
    rcases st with _ | ⟨v0, t0⟩
    · exact QT.c
    rcases v0 with x0 | x0 | x0
    · exact QT.c
    · rcases t0 with _ | ⟨v1, t1⟩
      · exact QT.c
      rcases v1 with x1 | x1 | x1
      · exact QT.c
      · exact QT.ite QT.c QT.n
      · exact QT.c
    · exact QT.c
  case lshl =>
    rcases st with _ | ⟨v0, t0⟩
    · exact QT.c
    rcases v0 with x0 | x0
    · rcases t0 with _ | ⟨v1, t1⟩
      · exact QT.c
      rcases v1 with x1 | x1 | x1
      · exact QT.c
      · exact QT.n
      · exact QT.c
    · exact QT.c
  case i2l =>
    rcases st with _ | ⟨v0, t0⟩
    · exact QT.c
    rcases v0 with x0 | x0
    · exact QT.n
    · exact QT.c
  case fadd =>
    rcases st with _ | ⟨v0, t0⟩
    · exact QT.c
    rcases v0 with x0 | x0
    · rcases t0 with _ | ⟨v1, t1⟩
      · exact QT.c
      rcases v1 with x1 | x1
      · exact QT.ite QT.n QT.c
      · exact QT.c
    · exact QT.c
  case fsub =>
    rcases st with _ | ⟨v0, t0⟩
    · exact QT.c
    rcases v0 with x0 | x0
    · rcases t0 with _ | ⟨v1, t1⟩
      · exact QT.c
      rcases v1 with x1 | x1
      · exact QT.ite QT.n QT.c
      · exact QT.c
    · exact QT.c
  case fneg =>
    rcases st with _ | ⟨v0, t0⟩
    · exact QT.c
    rcases v0 with x0 | x0
    · exact QT.ite QT.n QT.c
    · exact QT.c
  case ifCond c off =>
    rcases st with _ | ⟨v0, t0⟩
    · exact QT.c
    rcases v0 with x0 | x0
    · exact QT.qc QT.j QT.n
    · exact QT.c
  case if_icmp c off =>
    rcases st with _ | ⟨v0, t0⟩
    · exact QT.c
    rcases v0 with x0 | x0
    · rcases t0 with _ | ⟨v1, t1⟩
      · exact QT.c
      rcases v1 with x1 | x1
      · exact QT.qc QT.j QT.n
      · exact QT.c
    · exact QT.c
  case if_acmp c off =>
    cases c
    · rcases st with _ | ⟨v0, t0⟩
      · exact QT.c
      rcases v0 with x0 | x0 | x0
      · exact QT.c
      · exact QT.c
      rcases t0 with _ | ⟨v1, t1⟩
      · exact QT.c
      rcases v1 with x1 | x1 | x1
      · exact QT.c
      · exact QT.c
      exact QT.ite QT.j QT.n
    · rcases st with _ | ⟨v0, t0⟩
      · exact QT.c
      rcases v0 with x0 | x0 | x0
      · exact QT.c
      · exact QT.c
      rcases t0 with _ | ⟨v1, t1⟩
      · exact QT.c
      rcases v1 with x1 | x1 | x1
      · exact QT.c
      · exact QT.c
      exact QT.ite QT.n QT.j
  case ifnull off =>
    rcases st with _ | ⟨x | x | _ | x, st⟩ <;> first | exact QT.n | exact QT.j | exact QT.c
  case ifnonnull off =>
    rcases st with _ | ⟨x | x | _ | x, st⟩ <;> first | exact QT.n | exact QT.j | exact QT.c
  case goto off =>
    exact QT.j
  case tableswitch d lo hi offs =>
    rcases st with _ | ⟨v0, t0⟩
    · exact QT.c
    rcases v0 with x0 | x0
    · exact QT.sw
    · exact QT.c
  case lookupswitch d ps =>
    rcases st with _ | ⟨v0, t0⟩
    · exact QT.c
    rcases v0 with x0 | x0
    · exact QT.sw
    · exact QT.c
  case getfield r =>
    rcases st with _ | ⟨v0, t0⟩
    · exact QT.c
    rcases v0 with x0 | x0 | _ | x0
    · exact QT.c
    · exact QT.c
    · exact QT.c
    refine QT.ite ?_ QT.c
    generalize qfK (r / 64) (r % 64) = q
    match q with
    | 0 => exact QT.n
    | 1 => exact QT.n
    | 2 => exact QT.n
    | _ + 3 => exact QT.c
  case putfield r =>
    rcases st with _ | ⟨v0, t0⟩
    · exact QT.c
    rcases v0 with x0 | x0
    · rcases t0 with _ | ⟨v1, t1⟩
      · exact QT.c
      rcases v1 with x1 | x1 | _ | x1
      · exact QT.c
      · exact QT.c
      · exact QT.c
      refine QT.ite ?_ QT.c
      generalize qfK (r / 64) (r % 64) = q
      match q with
      | 0 => exact QT.n
      | 1 => exact QT.ite QT.n QT.c
      | _ + 2 => exact QT.c
    · exact QT.c
  case arraylength =>
    rcases st with _ | ⟨v0, t0⟩
    · exact QT.c
    rcases v0 with x0 | x0 | _ | x0
    · exact QT.c
    · exact QT.c
    · exact QT.c
    exact QT.ite QT.c QT.n
  case iaload =>
    rcases st with _ | ⟨v0, t0⟩
    · exact QT.c
    rcases v0 with x0 | x0
    · rcases t0 with _ | ⟨v1, t1⟩
      · exact QT.c
      rcases v1 with x1 | x1 | _ | x1
      · exact QT.c
      · exact QT.c
      · exact QT.c
      exact QT.ite (QT.cond QT.c QT.n) QT.c
    · exact QT.c
  case baload =>
    rcases st with _ | ⟨v0, t0⟩
    · exact QT.c
    rcases v0 with x0 | x0
    · rcases t0 with _ | ⟨v1, t1⟩
      · exact QT.c
      rcases v1 with x1 | x1 | _ | x1
      · exact QT.c
      · exact QT.c
      · exact QT.c
      exact QT.ite (QT.cond QT.c QT.n) QT.c
    · exact QT.c
  case laload =>
    rcases st with _ | ⟨v0, t0⟩
    · exact QT.c
    rcases v0 with x0 | x0
    · rcases t0 with _ | ⟨v1, t1⟩
      · exact QT.c
      rcases v1 with x1 | x1 | _ | x1
      · exact QT.c
      · exact QT.c
      · exact QT.c
      exact QT.ite (QT.cond QT.c QT.n) QT.c
    · exact QT.c
  case aaload =>
    rcases st with _ | ⟨v0, t0⟩
    · exact QT.c
    rcases v0 with x0 | x0
    · rcases t0 with _ | ⟨v1, t1⟩
      · exact QT.c
      rcases v1 with x1 | x1 | _ | x1
      · exact QT.c
      · exact QT.c
      · exact QT.c
      refine QT.cond QT.c (QT.ite QT.n (QT.ite ?_ QT.c))
      rcases μ.2.2 x1 (qix x0) with _ | b
      · exact QT.n
      · exact QT.ite QT.n QT.c
    · exact QT.c
  case iastore =>
    rcases st with _ | ⟨v0, t0⟩
    · exact QT.c
    rcases v0 with x0 | x0
    · rcases t0 with _ | ⟨v1, t1⟩
      · exact QT.c
      rcases v1 with x1 | x1
      · rcases t1 with _ | ⟨v2, t2⟩
        · exact QT.c
        rcases v2 with x2 | x2 | _ | x2
        · exact QT.c
        · exact QT.c
        · exact QT.c
        exact QT.ite (QT.cond QT.c QT.n) QT.c
      · exact QT.c
    · exact QT.c
  case bastore =>
    rcases st with _ | ⟨v0, t0⟩
    · exact QT.c
    rcases v0 with x0 | x0
    · rcases t0 with _ | ⟨v1, t1⟩
      · exact QT.c
      rcases v1 with x1 | x1
      · rcases t1 with _ | ⟨v2, t2⟩
        · exact QT.c
        rcases v2 with x2 | x2 | _ | x2
        · exact QT.c
        · exact QT.c
        · exact QT.c
        exact QT.ite (QT.cond QT.c QT.n) QT.c
      · exact QT.c
    · exact QT.c
  case lastore =>
    rcases st with _ | ⟨v0, t0⟩
    · exact QT.c
    rcases v0 with x0 | x0 | x0
    · exact QT.c
    · rcases t0 with _ | ⟨v1, t1⟩
      · exact QT.c
      rcases v1 with x1 | x1
      · rcases t1 with _ | ⟨v2, t2⟩
        · exact QT.c
        rcases v2 with x2 | x2 | _ | x2
        · exact QT.c
        · exact QT.c
        · exact QT.c
        exact QT.ite (QT.cond QT.c QT.n) QT.c
      · exact QT.c
    · exact QT.c
  case aastore =>
    rcases st with _ | ⟨x | x | _ | b, st⟩
    · exact QT.c
    · exact QT.c
    · exact QT.c
    · rcases st with _ | ⟨v0, t0⟩
      · exact QT.c
      rcases v0 with x0 | x0
      · rcases t0 with _ | ⟨v1, t1⟩
        · exact QT.c
        rcases v1 with x1 | x1 | _ | x1
        · exact QT.c
        · exact QT.c
        · exact QT.c
        exact QT.ite (QT.cond QT.c QT.n) QT.c
      · exact QT.c
    · rcases st with _ | ⟨v0, t0⟩
      · exact QT.c
      rcases v0 with x0 | x0
      · rcases t0 with _ | ⟨v1, t1⟩
        · exact QT.c
        rcases v1 with x1 | x1 | _ | x1
        · exact QT.c
        · exact QT.c
        · exact QT.c
        exact QT.ite (QT.cond QT.c QT.n) QT.c
      · exact QT.c
  case faload =>
    rcases st with _ | ⟨v0, t0⟩
    · exact QT.c
    rcases v0 with x0 | x0
    · rcases t0 with _ | ⟨v1, t1⟩
      · exact QT.c
      rcases v1 with x1 | x1 | _ | x1
      · exact QT.c
      · exact QT.c
      · exact QT.c
      exact QT.ite (QT.bI fun _ _ => QT.n) QT.c
    · exact QT.c
  case fload i =>
    rcases st with _ | ⟨v0, t0⟩
    · exact QT.c
    rcases v0 with x0 | x0 | _ | x0
    · exact QT.c
    · exact QT.c
    · exact QT.c
    exact QT.ite (QT.bI fun _ _ => QT.n) QT.c
  case invokeinterface y c =>
    show QT (fun nx jp => match qpop (c / 8 % 8) st [] with | some (av, st) => _ | none => none)
    rcases qpop (c / 8 % 8) st [] with _ | ⟨av, st⟩
    · exact QT.c
    refine QT.ite ?_ QT.c
    generalize c % 8 = q
    match q with
    | 0 => exact QT.bV fun _ => QT.n
    | 1 => exact QT.bI fun _ _ => QT.n
    | 2 => exact QT.bL fun _ _ => QT.n
    | 3 => exact QT.bR fun _ _ _ => QT.n
    | 4 => exact QT.bN (fun _ _ _ => QT.n) fun _ => QT.n
    | _ + 5 => exact QT.c
  case ireturn =>
    exact QT.c
  case freturn =>
    exact QT.c
  case lreturn =>
    exact QT.c
  case areturn =>
    exact QT.c
  case return_ =>
    exact QT.c
  all_goals exact QT.c
theorem qsem_tail (call : QC) (code : List QE) : ∀ (l : List QE) (b : Bool) (ls : QL) (st : List QV) (μ : QM),
    (∃ r, ∀ k, qsem call k code l b ls st μ = r) ∨ (∃ pc l' s' m', ∀ k, qsem call k code l b ls st μ = k pc l' s' m')
  | [], b, ls, st, μ => Or.inl ⟨none, fun _ => rfl⟩
  | e :: rest, b, ls, st, μ => by
    have main : (∃ r, ∀ k, qop call (qsem call k code rest true) (qjmp k code e.1) e.2.2 ls st μ = r) ∨ (∃ pc l' s' m', ∀ k, qop call (qsem call k code rest true) (qjmp k code e.1) e.2.2 ls st μ = k pc l' s' m') := by
      rcases qop_tail call e.2.2 ls st μ with ⟨r, h⟩ | ⟨l, s, m, h⟩ | ⟨o, l, s, m, h⟩
      · exact Or.inl ⟨r, fun k => h _ _⟩
      · rcases qsem_tail call code rest true l s m with ⟨r, h2⟩ | ⟨pc, l', s', m', h2⟩
        · exact Or.inl ⟨r, fun k => (h _ _).trans (h2 k)⟩
        · exact Or.inr ⟨pc, l', s', m', fun k => (h _ _).trans (h2 k)⟩
      · exact Or.inr ⟨_, _, _, _, fun k => h _ _⟩
    obtain ⟨pc, lv, o⟩ := e
    cases b
    · exact main
    · cases lv with
      | none => exact main
      | some m => exact Or.inr ⟨pc, qmask m ls, st, μ, fun _ => rfl⟩
theorem qrunF_mono (call : QC) (code : List QE) : ∀ (n m : Nat) (pc : Nat) (ls : QL) (st : List QV) (μ : QM) (r : Option QV × QM), n ≤ m → qrunF call code n pc ls st μ = some r → qrunF call code m pc ls st μ = some r
  | 0, m, pc, ls, st, μ, r, _, h => by cases h
  | n + 1, 0, pc, ls, st, μ, r, hl, h => absurd hl (by omega)
  | n + 1, m + 1, pc, ls, st, μ, r, hl, h => by
    have h : qsem call (qrunF call code n) code (qfrom code pc) false ls st μ = some r := h
    show qsem call (qrunF call code m) code (qfrom code pc) false ls st μ = some r
    rcases qsem_tail call code (qfrom code pc) false ls st μ with ⟨x, h2⟩ | ⟨pc', l', s', m', h2⟩
    · rw [h2] at h ⊢
      exact h
    · rw [h2] at h ⊢
      exact qrunF_mono call code n m pc' l' s' m' r (by omega) h
theorem qsup_eq {f : Nat → QR} (hm : ∀ n m r, n ≤ m → f n = some r → f m = some r) {n : Nat} {r : Option QV × QM} (h : f n = some r) : qsup f = some r := by
  have hex : ∃ n, (f n).isSome = true := ⟨n, by rw [h]; rfl⟩
  unfold qsup
  rw [dif_pos hex]
  have hc := hex.choose_spec
  generalize hex.choose = m at hc ⊢
  obtain ⟨r', hr'⟩ := Option.isSome_iff_exists.mp hc
  rcases Nat.le_total n m with hl | hl
  · exact hm _ _ _ hl h
  · rw [hr', ← hm _ _ _ hl hr', h]
theorem qsup_some {f : Nat → QR} {r : Option QV × QM} (h : qsup f = some r) : ∃ n, f n = some r := by
  unfold qsup at h
  by_cases hex : ∃ n, (f n).isSome = true
  · rw [dif_pos hex] at h
    exact ⟨_, h⟩
  · rw [dif_neg hex] at h
    cases h
theorem qsup_none {f : Nat → QR} (h : ∀ n, f n = none) : qsup f = none := by
  unfold qsup
  rw [dif_neg]
  rintro ⟨n, hn⟩
  rw [h n] at hn
  cases hn
/-- a run, one stretch on -/
theorem qrun_eq (call : QC) (code : List QE) (pc : Nat) (ls : QL) (st : List QV) (μ : QM) : qrun call code pc ls st μ = qsem call (qrun call code) code (qfrom code pc) false ls st μ := by
  have hm : ∀ pc ls st μ n m r, n ≤ m → qrunF call code n pc ls st μ = some r → qrunF call code m pc ls st μ = some r := fun pc ls st μ n m r => qrunF_mono call code n m pc ls st μ r
  rcases qsem_tail call code (qfrom code pc) false ls st μ with ⟨x, h⟩ | ⟨pc', l', s', m', h⟩
  · rw [h]
    cases x with
    | none =>
      refine qsup_none fun n => ?_
      cases n with
      | zero => rfl
      | succ n => exact h _
    | some r => exact qsup_eq (hm pc ls st μ) (n := 1) (h _)
  · rw [h]
    cases hx : qrun call code pc' l' s' m' with
    | none =>
      refine qsup_none fun n => ?_
      cases n with
      | zero => rfl
      | succ n =>
        have e : qrunF call code (n + 1) pc ls st μ = qrunF call code n pc' l' s' m' := h _
        rw [e]
        cases hy : qrunF call code n pc' l' s' m' with
        | none => rfl
        | some r =>
          have := qsup_eq (hm pc' l' s' m') hy
          unfold qrun at hx
          rw [this] at hx
          cases hx
    | some r =>
      obtain ⟨n, hn⟩ := qsup_some hx
      exact qsup_eq (hm pc ls st μ) (n := n + 1) ((h _).trans hn)
