/-! ===== the abstract machine: cells by numbers; number k from 8 on is the cell at (the law's own heap's size + k - 8) ===== -/
abbrev aCell : Type := Nat × Nat × (Nat → Value)
abbrev aHeap : Type := Nat × (Nat → aCell)
/-- where a number's cell lies; the heap at the law's entry; class ids and slots; array class ids; the old cells -/
abbrev aG : Type := (Nat → Nat) × Heap × va_G × (Nat → ClassId) × (Nat → aCell)
def cvv (σ : Nat → Nat) (v : Value) : Value := match v with
  | .ref k => .ref (σ k)
  | v => v
theorem cvv_cat (σ : Nat → Nat) (v : Value) : (cvv σ v).category = v.category := by cases v <;> rfl
theorem cvv_nar {σ : Nat → Nat} {ty : FieldType} {v : Value} (h : narrow ty v = v) : narrow ty (cvv σ v) = cvv σ v := by
  cases v <;> first | exact h | (cases ty <;> rfl)
theorem cvv_fit {σ : Nat → Nat} {ty : FieldType} {v : Value} (h : fits ty v = true) : fits ty (cvv σ v) = true := by
  cases v <;> first | exact h | (cases ty <;> first | rfl | exact h)
def aty (k : Nat) : FieldType := match k with
  | 20 => .int
  | 21 => .long
  | 22 => .byte
  | 23 => .char
  | 24 => .boolean
  | 30 => .object "DebtYear$Person"
  | 31 => .object "DebtYear$Field"
  | 32 => .object "DebtYear$Paper"
  | 33 => .object "DebtYear$Law"
  | 34 => .object "DebtYear$Text"
  | 35 => .object "DebtYear$Sheet"
  | _ => .int
def aKs : List Nat := [20, 21, 22, 23, 24, 30, 31, 32, 33, 34, 35]
/-- the class of what an array of references holds -/
def aOf (k : Nat) : Nat := match k with
  | 30 => 6
  | 31 => 2
  | 32 => 5
  | 33 => 4
  | 34 => 10
  | 35 => 9
  | _ => 99
def aTys (cA : Nat → ClassId) : List (ClassId × FieldType) := aKs.map fun k => (cA k, aty k)
def aNew (G : aG) (k : Nat) (x : aCell) (H : Heap) : Prop :=
  (x.1 < 20 ∧ ∃ r : vw_C, aCl[x.1]? = some r ∧ x.2.1 = r.2.2 ∧ t_OB (G.1 k) (G.2.2.1.1 x.1) r.2.2 (G.2.2.1.2 x.1) H (fun j => cvv G.1 (x.2.2 j))) ∨
  (x.1 ∈ aKs ∧ x.2.1 < 2 ^ 31 ∧ H[G.1 k]? = some (arrV (G.2.2.2.1 x.1) x.2.1 (fun j => cvv G.1 (x.2.2 j))))
def aHR (G : aG) (h : aHeap) (H : Heap) : Prop :=
  8 ≤ h.1 ∧ H.size = G.2.1.size + (h.1 - 8) ∧ (∀ q, q < G.2.1.size → H[q]? = G.2.1[q]?) ∧ (∀ k, k < 8 → h.2 k = G.2.2.2.2 k) ∧ ∀ k, 8 ≤ k → k < h.1 → aNew G k (h.2 k) H
/-- where the numbers lie -/
def aSg (G : aG) : Prop := (∀ k, 8 ≤ k → G.1 k = G.2.1.size + (k - 8)) ∧ ∀ k, k < 8 → G.1 k < G.2.1.size
def aA (G : aG) : Nat → Prop := fun q => G.2.1.size ≤ q
def tx81 : String := "();+-<="
def tx88 : String := "kind age left owed paid sum worth word stranger walls term falls back loan or and not "
def aFmt (G : aG) (s : State) : Prop := va_Z "jdk/internal/util/Preconditions" "SIOOBE_FORMATTER" "Ljava/util/function/BiFunction;" .null (aA G) s G.2.1 ∨ ∃ q : Nat, va_Z "jdk/internal/util/Preconditions" "SIOOBE_FORMATTER" "Ljava/util/function/BiFunction;" (.ref (G.1 q)) (aA G) s G.2.1
def aStr (G : aG) (s : State) : Prop :=
  va_Z "DebtYear" "KIND_ABOVE" "[I" (.ref (G.1 1)) (aA G) s G.2.1 ∧ va_Z "java/lang/String" "COMPACT_STRINGS" "Z" (.int 1) (aA G) s G.2.1 ∧ vk_R "DebtYear$Scribe" 81 tx81 (G.1 2) s ∧ vk_R "DebtYear$Scribe" 88 tx88 (G.1 3) s ∧
  (∀ i, i < 2 → va_O "java/lang/String" (G.1 (2 + i)) (aA G) s G.2.1 ∧ va_OF "java/lang/String" "coder" "B" (.int 0) (G.1 (2 + i)) (aA G) s G.2.1 ∧ va_OF "java/lang/String" "value" "[B" (.ref (G.1 (4 + i))) (G.1 (2 + i)) (aA G) s G.2.1) ∧ aFmt G s
def aOld (G : aG) (s : State) : Prop := ∀ k, k < 8 → 20 ≤ (G.2.2.2.2 k).1 → (G.2.2.2.2 k).1 < 30 ∧ (∃ f : Nat → Int32, (G.2.2.2.2 k).2.2 = fun j => .int (f j)) ∧ va_T (aty (G.2.2.2.2 k).1) (G.1 k) (G.2.2.2.2 k).2.1 (G.2.2.2.2 k).2.2 (aA G) s G.2.1
def aK (G : aG) (s : State) : Prop := aSg G ∧ va_K G.2.2.1 aCl (aTys G.2.2.2.1) s ∧ (∀ c i y h, Cond.methodLinkNest c i y h ∈ lw_tbl → va_Nw (.methodLinkNest c i y h) s) ∧ (∀ k, 30 ≤ k → k ≤ 35 → ∃ C, aty k = .object C ∧ va_AO C s) ∧ aOld G s ∧ aStr G s
theorem aK.warm {G : aG} {s U : State} (hW : s.WarmedH U.vm) (h : aK G s) : aK G U := by
  obtain ⟨h0, h1, h2, h3, h4, h5, h6, h7, h8, h9, hA⟩ := h
  refine ⟨h0, va_K.moved hW.alike h1, fun c i y hh hw => va_Nw.warmM hW (h2 c i y hh hw), fun k a b => ?_, fun k a b => ⟨(h4 k a b).1, (h4 k a b).2.1, va_T.moved hW.alike (h4 k a b).2.2⟩, va_Z.moved hW.alike h5, va_Z.moved hW.alike h6, h7.warm hW, h8.warm hW, fun i hi => ⟨va_O.moved hW.alike (h9 i hi).1, va_OF.moved hW.alike (h9 i hi).2.1, va_OF.moved hW.alike (h9 i hi).2.2⟩, hA.elim (fun z => Or.inl (va_Z.moved hW.alike z)) (fun z => Or.inr (z.elim fun q z => ⟨q, va_Z.moved hW.alike z⟩))⟩
  obtain ⟨C, e1, e2⟩ := h3 k a b
  exact ⟨C, e1, va_AO.moved hW.alike e2⟩
theorem aK.same {G : aG} {s U : State} (hv : U.vm = s.vm) (h : aK G s) : aK G U := aK.warm (hv ▸ State.WarmedH.refl s) h
def aPc (G : aG) (args : List Value) (h : aHeap) : Array Value → State → Prop := fun v U => v = (args.map (cvv G.1)).toArray ∧ aHR G h U.heap ∧ aK G U
def aQc (G : aG) (Q : Option Value → aHeap → Prop) : Array Value → State → Outcome → State → Prop := fun _ _ o t => ∃ (r : Option Value) (h' : aHeap), o = .returned (r.map (cvv G.1)) ∧ aHR G h' t.heap ∧ Q r h'
def aRm (d mc ms : Nat) : Room := { frames := d, cells := mc, slots := ms, locals := 32 * d }
def aWs (y : Nat) : List Cond := Cond.code (mN y) (mB y) (mL y) (mR y) :: aT
def aFree (G : aG) : Addr → Prop := fun q => G.2.1.size ≤ q
/-- A CALL: from this heap, with these arguments, method y comes back, and Q of its answer and the heap then -/
def aCall (l : Launch) (G : aG) (d mc ms y : Nat) (args : List Value) (h : aHeap) (Q : Option Value → aHeap → Prop) : Prop := Met l (mN y) (aWs y) (aRm d mc ms) (aPc G args h) (aQc G Q) mc ms (aFree G)
def aAmb (G : aG) (y : Nat) (p : Program) (s : State) (m : MethodId) (args : Array Value) (meth : Method) (c : Code) : Prop :=
  p.tables.exec = Jvm.exec ∧ c.code = mB y ∧ c.maxLocals = mL y ∧ s.vm.findClass (cNm (mC y)) = some m.cls ∧ (∀ w ∈ aT, w.before args s = true) ∧ aK G s ∧ meth.locks = false ∧ meth.sig.returnType = mR y ∧ ((mN y).name = "<init>" → meth.name = "<init>")
def aRoom (d mc ms : Nat) (R : Room) : Prop := R.cells = mc ∧ R.slots = ms ∧ d ≤ R.frames ∧ 32 * d ≤ R.locals
def cvl (σ : Nat → Nat) (lv : List (Nat × Value)) : List (Nat × Value) := lv.map fun q => (q.1, cvv σ q.2)
def aEnv (G : aG) (d mc ms y : Nat) (lv : List (Nat × Value)) (bc bs : Nat) (h : aHeap) (p : Program) (R : Room) (s : State) (m : MethodId) (args : Array Value) (meth : Method) (c : Code) (ls : Array Slot) (H : Heap) (locs : List Loc) (cells slots : Nat) : Prop :=
  aAmb G y p s m args meth c ∧ aRoom d mc ms R ∧ lv_has ls (mL y) (cvl G.1 lv) ∧ aHR G h H ∧ (∀ q ∈ locs, aFree G q.base) ∧ cells + bc = mc ∧ slots + bs = ms
/-- A POINT of method y: from here on it comes back, and Q -/
def aAt (l : Launch) (G : aG) (d mc ms y pc : Nat) (lv : List (Nat × Value)) (st : List Value) (bc bs : Nat) (h : aHeap) (Q : Option Value → aHeap → Prop) : Prop :=
  ∀ (p : Program) (e : Env) (R : Room) (s : State) (m : MethodId) (args : Array Value) (below : List Frame) (meth : Method) (c : Code) (ls : Array Slot) (H : Heap) (locs : List Loc) (cells slots : Nat),
    aEnv G d mc ms y lv bc bs h p R s m args meth c ls H locs cells slots → W p l e R s m args below meth c H locs cells slots (MQ below (aQc G Q) args s mc ms (aFree G)) (F0 m pc ls (st.map (cvv G.1)))
def lkp (lv : List (Nat × Value)) (i : Nat) : Option Value := match lv with
  | [] => none
  | (j, v) :: r => if j = i then some v else lkp r i
theorem lkp_mem {lv : List (Nat × Value)} {i : Nat} {v : Value} (h : lkp lv i = some v) : (i, v) ∈ lv := by
  induction lv with
  | nil => cases h
  | cons q r ih =>
    obtain ⟨j, w⟩ := q
    unfold lkp at h
    by_cases hj : j = i
    · rw [if_pos hj] at h
      cases h
      subst hj
      exact List.mem_cons_self
    · rw [if_neg hj] at h
      exact List.mem_cons_of_mem _ (ih h)
theorem lkp_has {σ : Nat → Nat} {ls : Array Slot} {n : Nat} {lv : List (Nat × Value)} {i : Nat} {v : Value} (hl : lv_has ls n (cvl σ lv)) (h : lkp lv i = some v) : ls[i]? = some (.val (cvv σ v)) :=
  hl.2.2 (i, cvv σ v) (List.mem_map.mpr ⟨(i, v), lkp_mem h, rfl⟩)
def sto (lv : List (Nat × Value)) (i : Nat) (v : Value) : List (Nat × Value) := (i, v) :: lv.filter (fun q => !(q.1 == i) && !(q.1 + 1 == i && q.2.category == 2))
theorem sto_cv (σ : Nat → Nat) (lv : List (Nat × Value)) (i : Nat) (v : Value) : (i, cvv σ v) :: (cvl σ lv).filter (fun q => !(q.1 == i) && !(q.1 + 1 == i && q.2.category == 2)) = cvl σ (sto lv i v) := by
  unfold cvl sto
  rw [List.map_cons]
  congr 1
  rw [List.filter_map]
  congr 2
  funext q
  simp [Function.comp, cvv_cat]
theorem lkp_place {σ : Nat → Nat} {lv : List (Nat × Value)} {i : Nat} {v : Value} (h : lkp lv i = some v) : ∃ k : Nat, (cvl σ lv)[k]? = some (i, cvv σ v) := List.getElem?_of_mem (List.mem_map.mpr ⟨(i, v), lkp_mem h, rfl⟩)
section Rows
variable {l : Launch} {G : aG} {d mc ms y pc : Nat} {lv : List (Nat × Value)} {st : List Value} {bc bs : Nat} {h : aHeap} {Q : Option Value → aHeap → Prop}
theorem s_iconst {n : Int} (hd : decode (mB y) pc = .ok (.iconst n, 1)) (k : aAt l G d mc ms y (pc + 1) lv (.int (Int32.ofInt n) :: st) bc bs h Q) : aAt l G d mc ms y pc lv st bc bs h Q :=
  fun p e R s m args below meth c ls H locs cells slots E => lv_iconst E.1.1 E.1.2.1 hd rfl (k p e R s m args below meth c ls H locs cells slots E)
theorem s_bipush {n : Int} (hd : decode (mB y) pc = .ok (.bipush n, 2)) (k : aAt l G d mc ms y (pc + 2) lv (.int (Int8.ofInt n).toInt32 :: st) bc bs h Q) : aAt l G d mc ms y pc lv st bc bs h Q :=
  fun p e R s m args below meth c ls H locs cells slots E => lv_bipush E.1.1 E.1.2.1 hd rfl (k p e R s m args below meth c ls H locs cells slots E)
theorem s_sipush {n : Int} (hd : decode (mB y) pc = .ok (.sipush n, 3)) (k : aAt l G d mc ms y (pc + 3) lv (.int (Int16.ofInt n).toInt32 :: st) bc bs h Q) : aAt l G d mc ms y pc lv st bc bs h Q :=
  fun p e R s m args below meth c ls H locs cells slots E => lv_sipush E.1.1 E.1.2.1 hd rfl (k p e R s m args below meth c ls H locs cells slots E)
theorem s_lconst {n : Fin 2} (hd : decode (mB y) pc = .ok (.lconst n, 1)) (k : aAt l G d mc ms y (pc + 1) lv (.long (Int64.ofNat (n : Nat)) :: st) bc bs h Q) : aAt l G d mc ms y pc lv st bc bs h Q :=
  fun p e R s m args below meth c ls H locs cells slots E => lv_lconst E.1.1 E.1.2.1 hd rfl (k p e R s m args below meth c ls H locs cells slots E)
theorem s_null (hd : decode (mB y) pc = .ok (.aconst_null, 1)) (k : aAt l G d mc ms y (pc + 1) lv (.null :: st) bc bs h Q) : aAt l G d mc ms y pc lv st bc bs h Q :=
  fun p e R s m args below meth c ls H locs cells slots E => lv_null E.1.1 E.1.2.1 hd (k p e R s m args below meth c ls H locs cells slots E)
theorem s_iload_n {n : Fin 4} {x : Int32} (hd : decode (mB y) pc = .ok (.iload_n n, 1)) (hv : lkp lv n = some (.int x)) (k : aAt l G d mc ms y (pc + 1) lv (.int x :: st) bc bs h Q) : aAt l G d mc ms y pc lv st bc bs h Q :=
  fun p e R s m args below meth c ls H locs cells slots E => lv_iload_n E.1.1 E.1.2.1 hd rfl (lkp_has E.2.2.1 hv) (k p e R s m args below meth c ls H locs cells slots E)
theorem s_iload {n : Nat} {x : Int32} (hd : decode (mB y) pc = .ok (.iload n, 2)) (hv : lkp lv n = some (.int x)) (k : aAt l G d mc ms y (pc + 2) lv (.int x :: st) bc bs h Q) : aAt l G d mc ms y pc lv st bc bs h Q :=
  fun p e R s m args below meth c ls H locs cells slots E => lv_iload E.1.1 E.1.2.1 hd (lkp_has E.2.2.1 hv) (k p e R s m args below meth c ls H locs cells slots E)
theorem s_lload_n {n : Fin 4} {x : Int64} (hd : decode (mB y) pc = .ok (.lload_n n, 1)) (hv : lkp lv n = some (.long x)) (k : aAt l G d mc ms y (pc + 1) lv (.long x :: st) bc bs h Q) : aAt l G d mc ms y pc lv st bc bs h Q :=
  fun p e R s m args below meth c ls H locs cells slots E => lv_lload_n E.1.1 E.1.2.1 hd rfl (lkp_has E.2.2.1 hv) (k p e R s m args below meth c ls H locs cells slots E)
theorem s_aload_n {n : Fin 4} {x : Nat} (hd : decode (mB y) pc = .ok (.aload_n n, 1)) (hv : lkp lv n = some (.ref x)) (k : aAt l G d mc ms y (pc + 1) lv (.ref x :: st) bc bs h Q) : aAt l G d mc ms y pc lv st bc bs h Q :=
  fun p e R s m args below meth c ls H locs cells slots E => lv_aload_n E.1.1 E.1.2.1 hd rfl (lkp_has E.2.2.1 hv) (k p e R s m args below meth c ls H locs cells slots E)
theorem s_aload {n : Nat} {x : Nat} (hd : decode (mB y) pc = .ok (.aload n, 2)) (hv : lkp lv n = some (.ref x)) (k : aAt l G d mc ms y (pc + 2) lv (.ref x :: st) bc bs h Q) : aAt l G d mc ms y pc lv st bc bs h Q :=
  fun p e R s m args below meth c ls H locs cells slots E => lv_aload E.1.1 E.1.2.1 hd (lkp_has E.2.2.1 hv) (k p e R s m args below meth c ls H locs cells slots E)
theorem s_aload_nN {n : Fin 4} (hd : decode (mB y) pc = .ok (.aload_n n, 1)) (hv : lkp lv n = some .null) (k : aAt l G d mc ms y (pc + 1) lv (.null :: st) bc bs h Q) : aAt l G d mc ms y pc lv st bc bs h Q :=
  fun p e R s m args below meth c ls H locs cells slots E => lv_aload_nN E.1.1 E.1.2.1 hd rfl (lkp_has E.2.2.1 hv) (k p e R s m args below meth c ls H locs cells slots E)
theorem s_aloadN {n : Nat} (hd : decode (mB y) pc = .ok (.aload n, 2)) (hv : lkp lv n = some .null) (k : aAt l G d mc ms y (pc + 2) lv (.null :: st) bc bs h Q) : aAt l G d mc ms y pc lv st bc bs h Q :=
  fun p e R s m args below meth c ls H locs cells slots E => lv_aloadN E.1.1 E.1.2.1 hd (lkp_has E.2.2.1 hv) (k p e R s m args below meth c ls H locs cells slots E)
theorem s_istore_n {n : Fin 4} {x : Int32} (hd : decode (mB y) pc = .ok (.istore_n n, 1)) (hn : (n : Nat) < mL y) (k : aAt l G d mc ms y (pc + 1) (sto lv n (.int x)) st bc bs h Q) : aAt l G d mc ms y pc lv (.int x :: st) bc bs h Q :=
  fun p e R s m args below meth c ls H locs cells slots E => lv_istore_n E.1.1 E.1.2.1 hd rfl E.2.2.1 hn (sto_cv G.1 lv n (.int x)) (fun ls hl => k p e R s m args below meth c ls H locs cells slots ⟨E.1, E.2.1, hl, E.2.2.2⟩)
theorem s_istore {n : Nat} {x : Int32} (hd : decode (mB y) pc = .ok (.istore n, 2)) (hn : n < mL y) (k : aAt l G d mc ms y (pc + 2) (sto lv n (.int x)) st bc bs h Q) : aAt l G d mc ms y pc lv (.int x :: st) bc bs h Q :=
  fun p e R s m args below meth c ls H locs cells slots E => lv_istore E.1.1 E.1.2.1 hd E.2.2.1 hn (sto_cv G.1 lv n (.int x)) (fun ls hl => k p e R s m args below meth c ls H locs cells slots ⟨E.1, E.2.1, hl, E.2.2.2⟩)
theorem s_astore_n {n : Fin 4} {x : Nat} (hd : decode (mB y) pc = .ok (.astore_n n, 1)) (hn : (n : Nat) < mL y) (k : aAt l G d mc ms y (pc + 1) (sto lv n (.ref x)) st bc bs h Q) : aAt l G d mc ms y pc lv (.ref x :: st) bc bs h Q :=
  fun p e R s m args below meth c ls H locs cells slots E => lv_astore_n E.1.1 E.1.2.1 hd rfl E.2.2.1 hn (sto_cv G.1 lv n (.ref x)) (fun ls hl => k p e R s m args below meth c ls H locs cells slots ⟨E.1, E.2.1, hl, E.2.2.2⟩)
theorem s_astore {n : Nat} {x : Nat} (hd : decode (mB y) pc = .ok (.astore n, 2)) (hn : n < mL y) (k : aAt l G d mc ms y (pc + 2) (sto lv n (.ref x)) st bc bs h Q) : aAt l G d mc ms y pc lv (.ref x :: st) bc bs h Q :=
  fun p e R s m args below meth c ls H locs cells slots E => lv_astore E.1.1 E.1.2.1 hd E.2.2.1 hn (sto_cv G.1 lv n (.ref x)) (fun ls hl => k p e R s m args below meth c ls H locs cells slots ⟨E.1, E.2.1, hl, E.2.2.2⟩)
theorem s_astore_nN {n : Fin 4} (hd : decode (mB y) pc = .ok (.astore_n n, 1)) (hn : (n : Nat) < mL y) (k : aAt l G d mc ms y (pc + 1) (sto lv n .null) st bc bs h Q) : aAt l G d mc ms y pc lv (.null :: st) bc bs h Q :=
  fun p e R s m args below meth c ls H locs cells slots E => lv_astore_nN E.1.1 E.1.2.1 hd rfl E.2.2.1 hn (sto_cv G.1 lv n .null) (fun ls hl => k p e R s m args below meth c ls H locs cells slots ⟨E.1, E.2.1, hl, E.2.2.2⟩)
theorem s_astoreN {n : Nat} (hd : decode (mB y) pc = .ok (.astore n, 2)) (hn : n < mL y) (k : aAt l G d mc ms y (pc + 2) (sto lv n .null) st bc bs h Q) : aAt l G d mc ms y pc lv (.null :: st) bc bs h Q :=
  fun p e R s m args below meth c ls H locs cells slots E => lv_astoreN E.1.1 E.1.2.1 hd E.2.2.1 hn (sto_cv G.1 lv n .null) (fun ls hl => k p e R s m args below meth c ls H locs cells slots ⟨E.1, E.2.1, hl, E.2.2.2⟩)
theorem s_iinc {n : Nat} {z : Int} {x : Int32} (hd : decode (mB y) pc = .ok (.iinc n z, 3)) (hv : lkp lv n = some (.int x)) (hn : n < mL y) (k : aAt l G d mc ms y (pc + 3) (sto lv n (.int (x + Int32.ofInt z))) st bc bs h Q) : aAt l G d mc ms y pc lv st bc bs h Q := by
  intro p e R s m args below meth c ls H locs cells slots E
  obtain ⟨q, hq⟩ := lkp_place (σ := G.1) hv
  exact lv_iinc E.1.1 E.1.2.1 hd E.2.2.1 hq rfl hn (sto_cv G.1 lv n (.int (x + Int32.ofInt z))) (fun ls hl => k p e R s m args below meth c ls H locs cells slots ⟨E.1, E.2.1, hl, E.2.2.2⟩)
theorem s_dup {v : Value} (hd : decode (mB y) pc = .ok (.dup, 1)) (hc : v.category = 1) (k : aAt l G d mc ms y (pc + 1) lv (v :: v :: st) bc bs h Q) : aAt l G d mc ms y pc lv (v :: st) bc bs h Q :=
  fun p e R s m args below meth c ls H locs cells slots E => lv_dup E.1.1 E.1.2.1 hd (by rw [cvv_cat]; exact hc) (k p e R s m args below meth c ls H locs cells slots E)
theorem s_pop {v : Value} (hd : decode (mB y) pc = .ok (.pop, 1)) (hc : v.category = 1) (k : aAt l G d mc ms y (pc + 1) lv st bc bs h Q) : aAt l G d mc ms y pc lv (v :: st) bc bs h Q :=
  fun p e R s m args below meth c ls H locs cells slots E => lv_pop E.1.1 E.1.2.1 hd (by rw [cvv_cat]; exact hc) (k p e R s m args below meth c ls H locs cells slots E)
theorem s_dup_x1 {v w : Value} (hd : decode (mB y) pc = .ok (.dup_x1, 1)) (hc : v.category = 1) (hc2 : w.category = 1) (k : aAt l G d mc ms y (pc + 1) lv (v :: w :: v :: st) bc bs h Q) : aAt l G d mc ms y pc lv (v :: w :: st) bc bs h Q :=
  fun p e R s m args below meth c ls H locs cells slots E => lv_dup_x1 E.1.1 E.1.2.1 hd (by rw [cvv_cat]; exact hc) (by rw [cvv_cat]; exact hc2) (k p e R s m args below meth c ls H locs cells slots E)
theorem s_dup2 {v w : Value} (hd : decode (mB y) pc = .ok (.dup2, 1)) (hc : v.category = 1) (hc2 : w.category = 1) (k : aAt l G d mc ms y (pc + 1) lv (v :: w :: v :: w :: st) bc bs h Q) : aAt l G d mc ms y pc lv (v :: w :: st) bc bs h Q :=
  fun p e R s m args below meth c ls H locs cells slots E => lv_dup2_11 E.1.1 E.1.2.1 hd (by rw [cvv_cat]; exact hc) (by rw [cvv_cat]; exact hc2) (k p e R s m args below meth c ls H locs cells slots E)
theorem s_iadd {a b : Int32} (hd : decode (mB y) pc = .ok (.iadd, 1)) (k : aAt l G d mc ms y (pc + 1) lv (.int (a + b) :: st) bc bs h Q) : aAt l G d mc ms y pc lv (.int b :: .int a :: st) bc bs h Q :=
  fun p e R s m args below meth c ls H locs cells slots E => lv_iadd E.1.1 E.1.2.1 hd (k p e R s m args below meth c ls H locs cells slots E)
theorem s_isub {a b : Int32} (hd : decode (mB y) pc = .ok (.isub, 1)) (k : aAt l G d mc ms y (pc + 1) lv (.int (a - b) :: st) bc bs h Q) : aAt l G d mc ms y pc lv (.int b :: .int a :: st) bc bs h Q :=
  fun p e R s m args below meth c ls H locs cells slots E => lv_isub E.1.1 E.1.2.1 hd (k p e R s m args below meth c ls H locs cells slots E)
theorem s_imul {a b : Int32} (hd : decode (mB y) pc = .ok (.imul, 1)) (k : aAt l G d mc ms y (pc + 1) lv (.int (a * b) :: st) bc bs h Q) : aAt l G d mc ms y pc lv (.int b :: .int a :: st) bc bs h Q :=
  fun p e R s m args below meth c ls H locs cells slots E => lv_imul E.1.1 E.1.2.1 hd (k p e R s m args below meth c ls H locs cells slots E)
theorem s_iand {a b : Int32} (hd : decode (mB y) pc = .ok (.iand, 1)) (k : aAt l G d mc ms y (pc + 1) lv (.int (a &&& b) :: st) bc bs h Q) : aAt l G d mc ms y pc lv (.int b :: .int a :: st) bc bs h Q :=
  fun p e R s m args below meth c ls H locs cells slots E => lv_iand E.1.1 E.1.2.1 hd (k p e R s m args below meth c ls H locs cells slots E)
theorem s_ior {a b : Int32} (hd : decode (mB y) pc = .ok (.ior, 1)) (k : aAt l G d mc ms y (pc + 1) lv (.int (a ||| b) :: st) bc bs h Q) : aAt l G d mc ms y pc lv (.int b :: .int a :: st) bc bs h Q :=
  fun p e R s m args below meth c ls H locs cells slots E => lv_ior E.1.1 E.1.2.1 hd (k p e R s m args below meth c ls H locs cells slots E)
theorem s_ishl {a b : Int32} (hd : decode (mB y) pc = .ok (.ishl, 1)) (k : aAt l G d mc ms y (pc + 1) lv (.int (a <<< (b &&& 31)) :: st) bc bs h Q) : aAt l G d mc ms y pc lv (.int b :: .int a :: st) bc bs h Q :=
  fun p e R s m args below meth c ls H locs cells slots E => lv_ishl E.1.1 E.1.2.1 hd (k p e R s m args below meth c ls H locs cells slots E)
theorem s_ishr {a b : Int32} (hd : decode (mB y) pc = .ok (.ishr, 1)) (k : aAt l G d mc ms y (pc + 1) lv (.int (a >>> (b &&& 31)) :: st) bc bs h Q) : aAt l G d mc ms y pc lv (.int b :: .int a :: st) bc bs h Q :=
  fun p e R s m args below meth c ls H locs cells slots E => lv_ishr E.1.1 E.1.2.1 hd (k p e R s m args below meth c ls H locs cells slots E)
theorem s_iushr {a b : Int32} (hd : decode (mB y) pc = .ok (.iushr, 1)) (k : aAt l G d mc ms y (pc + 1) lv (.int (a.toUInt32 >>> (b.toUInt32 &&& Int32.toUInt32 31)).toInt32 :: st) bc bs h Q) : aAt l G d mc ms y pc lv (.int b :: .int a :: st) bc bs h Q :=
  fun p e R s m args below meth c ls H locs cells slots E => lv_iushr E.1.1 E.1.2.1 hd rfl (k p e R s m args below meth c ls H locs cells slots E)
theorem s_idiv {a b : Int32} (hd : decode (mB y) pc = .ok (.idiv, 1)) (hne : ¬ b = 0) (k : aAt l G d mc ms y (pc + 1) lv (.int (a / b) :: st) bc bs h Q) : aAt l G d mc ms y pc lv (.int b :: .int a :: st) bc bs h Q :=
  fun p e R s m args below meth c ls H locs cells slots E => lv_idiv E.1.1 E.1.2.1 hd hne (k p e R s m args below meth c ls H locs cells slots E)
theorem s_irem {a b : Int32} (hd : decode (mB y) pc = .ok (.irem, 1)) (hne : ¬ b = 0) (k : aAt l G d mc ms y (pc + 1) lv (.int (a - a / b * b) :: st) bc bs h Q) : aAt l G d mc ms y pc lv (.int b :: .int a :: st) bc bs h Q :=
  fun p e R s m args below meth c ls H locs cells slots E => lv_irem E.1.1 E.1.2.1 hd hne (k p e R s m args below meth c ls H locs cells slots E)
theorem s_ineg {a : Int32} (hd : decode (mB y) pc = .ok (.ineg, 1)) (k : aAt l G d mc ms y (pc + 1) lv (.int (-a) :: st) bc bs h Q) : aAt l G d mc ms y pc lv (.int a :: st) bc bs h Q :=
  fun p e R s m args below meth c ls H locs cells slots E => lv_ineg E.1.1 E.1.2.1 hd (k p e R s m args below meth c ls H locs cells slots E)
theorem s_i2l {a : Int32} (hd : decode (mB y) pc = .ok (.i2l, 1)) (k : aAt l G d mc ms y (pc + 1) lv (.long a.toInt64 :: st) bc bs h Q) : aAt l G d mc ms y pc lv (.int a :: st) bc bs h Q :=
  fun p e R s m args below meth c ls H locs cells slots E => lv_i2l E.1.1 E.1.2.1 hd rfl (k p e R s m args below meth c ls H locs cells slots E)
theorem s_l2i {a : Int64} (hd : decode (mB y) pc = .ok (.l2i, 1)) (k : aAt l G d mc ms y (pc + 1) lv (.int a.toInt32 :: st) bc bs h Q) : aAt l G d mc ms y pc lv (.long a :: st) bc bs h Q :=
  fun p e R s m args below meth c ls H locs cells slots E => lv_l2i E.1.1 E.1.2.1 hd rfl (k p e R s m args below meth c ls H locs cells slots E)
theorem s_i2b {a : Int32} (hd : decode (mB y) pc = .ok (.i2b, 1)) (k : aAt l G d mc ms y (pc + 1) lv (.int a.toInt8.toInt32 :: st) bc bs h Q) : aAt l G d mc ms y pc lv (.int a :: st) bc bs h Q :=
  fun p e R s m args below meth c ls H locs cells slots E => lv_i2b E.1.1 E.1.2.1 hd rfl (k p e R s m args below meth c ls H locs cells slots E)
theorem s_i2s {a : Int32} (hd : decode (mB y) pc = .ok (.i2s, 1)) (k : aAt l G d mc ms y (pc + 1) lv (.int a.toInt16.toInt32 :: st) bc bs h Q) : aAt l G d mc ms y pc lv (.int a :: st) bc bs h Q :=
  fun p e R s m args below meth c ls H locs cells slots E => lv_i2s E.1.1 E.1.2.1 hd rfl (k p e R s m args below meth c ls H locs cells slots E)
theorem s_i2c {a : Int32} (hd : decode (mB y) pc = .ok (.i2c, 1)) (k : aAt l G d mc ms y (pc + 1) lv (.int (a.toUInt32 % 65536).toInt32 :: st) bc bs h Q) : aAt l G d mc ms y pc lv (.int a :: st) bc bs h Q :=
  fun p e R s m args below meth c ls H locs cells slots E => lv_i2c E.1.1 E.1.2.1 hd rfl (k p e R s m args below meth c ls H locs cells slots E)
theorem s_ladd {a b : Int64} (hd : decode (mB y) pc = .ok (.ladd, 1)) (k : aAt l G d mc ms y (pc + 1) lv (.long (a + b) :: st) bc bs h Q) : aAt l G d mc ms y pc lv (.long b :: .long a :: st) bc bs h Q :=
  fun p e R s m args below meth c ls H locs cells slots E => lv_ladd E.1.1 E.1.2.1 hd (k p e R s m args below meth c ls H locs cells slots E)
theorem s_land {a b : Int64} (hd : decode (mB y) pc = .ok (.land, 1)) (k : aAt l G d mc ms y (pc + 1) lv (.long (a &&& b) :: st) bc bs h Q) : aAt l G d mc ms y pc lv (.long b :: .long a :: st) bc bs h Q :=
  fun p e R s m args below meth c ls H locs cells slots E => lv_land E.1.1 E.1.2.1 hd (k p e R s m args below meth c ls H locs cells slots E)
theorem s_lor {a b : Int64} (hd : decode (mB y) pc = .ok (.lor, 1)) (k : aAt l G d mc ms y (pc + 1) lv (.long (a ||| b) :: st) bc bs h Q) : aAt l G d mc ms y pc lv (.long b :: .long a :: st) bc bs h Q :=
  fun p e R s m args below meth c ls H locs cells slots E => lv_lor E.1.1 E.1.2.1 hd (k p e R s m args below meth c ls H locs cells slots E)
theorem s_lshl {a : Int64} {b : Int32} (hd : decode (mB y) pc = .ok (.lshl, 1)) (k : aAt l G d mc ms y (pc + 1) lv (.long (a <<< (b.toInt64 &&& 63)) :: st) bc bs h Q) : aAt l G d mc ms y pc lv (.int b :: .long a :: st) bc bs h Q :=
  fun p e R s m args below meth c ls H locs cells slots E => lv_lshl E.1.1 E.1.2.1 hd rfl (k p e R s m args below meth c ls H locs cells slots E)
theorem s_lshr {a : Int64} {b : Int32} (hd : decode (mB y) pc = .ok (.lshr, 1)) (k : aAt l G d mc ms y (pc + 1) lv (.long (a >>> (b.toInt64 &&& 63)) :: st) bc bs h Q) : aAt l G d mc ms y pc lv (.int b :: .long a :: st) bc bs h Q :=
  fun p e R s m args below meth c ls H locs cells slots E => lv_lshr E.1.1 E.1.2.1 hd rfl (k p e R s m args below meth c ls H locs cells slots E)
theorem s_lushr {a : Int64} {b : Int32} (hd : decode (mB y) pc = .ok (.lushr, 1)) (k : aAt l G d mc ms y (pc + 1) lv (.long (a.toUInt64 >>> (b.toInt64.toUInt64 &&& Int64.toUInt64 63)).toInt64 :: st) bc bs h Q) : aAt l G d mc ms y pc lv (.int b :: .long a :: st) bc bs h Q :=
  fun p e R s m args below meth c ls H locs cells slots E => lv_lushr E.1.1 E.1.2.1 hd rfl (k p e R s m args below meth c ls H locs cells slots E)
theorem s_lcmp {a b : Int64} (hd : decode (mB y) pc = .ok (.lcmp, 1)) (k : aAt l G d mc ms y (pc + 1) lv (.int (lg_cmp a b) :: st) bc bs h Q) : aAt l G d mc ms y pc lv (.long b :: .long a :: st) bc bs h Q :=
  fun p e R s m args below meth c ls H locs cells slots E => W.lcmp E.1.1 E.1.2.1 hd (k p e R s m args below meth c ls H locs cells slots E)
theorem s_icmp_eq {a b : Int32} {off : Int} (tgt : Nat) (hd : decode (mB y) pc = .ok (.if_icmp .eq off, 3)) (ht : (pc : Int) + off = (tgt : Int)) (kt : a = b → aAt l G d mc ms y tgt lv st bc bs h Q) (kf : ¬ (a = b) → aAt l G d mc ms y (pc + 3) lv st bc bs h Q) : aAt l G d mc ms y pc lv (.int b :: .int a :: st) bc bs h Q :=
  fun p e R s m args below meth c ls H locs cells slots E => lv_icmp_eq E.1.1 E.1.2.1 hd ht (fun z => kt z p e R s m args below meth c ls H locs cells slots E) (fun z => kf z p e R s m args below meth c ls H locs cells slots E)
theorem s_icmp_ne {a b : Int32} {off : Int} (tgt : Nat) (hd : decode (mB y) pc = .ok (.if_icmp .ne off, 3)) (ht : (pc : Int) + off = (tgt : Int)) (kt : a ≠ b → aAt l G d mc ms y tgt lv st bc bs h Q) (kf : a = b → aAt l G d mc ms y (pc + 3) lv st bc bs h Q) : aAt l G d mc ms y pc lv (.int b :: .int a :: st) bc bs h Q :=
  fun p e R s m args below meth c ls H locs cells slots E => lv_icmp_ne E.1.1 E.1.2.1 hd ht (fun z => kt z p e R s m args below meth c ls H locs cells slots E) (fun z => kf z p e R s m args below meth c ls H locs cells slots E)
theorem s_icmp_lt {a b : Int32} {off : Int} (tgt : Nat) (hd : decode (mB y) pc = .ok (.if_icmp .lt off, 3)) (ht : (pc : Int) + off = (tgt : Int)) (kt : a < b → aAt l G d mc ms y tgt lv st bc bs h Q) (kf : ¬ (a < b) → aAt l G d mc ms y (pc + 3) lv st bc bs h Q) : aAt l G d mc ms y pc lv (.int b :: .int a :: st) bc bs h Q :=
  fun p e R s m args below meth c ls H locs cells slots E => lv_icmp_lt E.1.1 E.1.2.1 hd ht (fun z => kt z p e R s m args below meth c ls H locs cells slots E) (fun z => kf z p e R s m args below meth c ls H locs cells slots E)
theorem s_icmp_ge {a b : Int32} {off : Int} (tgt : Nat) (hd : decode (mB y) pc = .ok (.if_icmp .ge off, 3)) (ht : (pc : Int) + off = (tgt : Int)) (kt : b ≤ a → aAt l G d mc ms y tgt lv st bc bs h Q) (kf : ¬ (b ≤ a) → aAt l G d mc ms y (pc + 3) lv st bc bs h Q) : aAt l G d mc ms y pc lv (.int b :: .int a :: st) bc bs h Q :=
  fun p e R s m args below meth c ls H locs cells slots E => lv_icmp_ge E.1.1 E.1.2.1 hd ht (fun z => kt z p e R s m args below meth c ls H locs cells slots E) (fun z => kf z p e R s m args below meth c ls H locs cells slots E)
theorem s_icmp_gt {a b : Int32} {off : Int} (tgt : Nat) (hd : decode (mB y) pc = .ok (.if_icmp .gt off, 3)) (ht : (pc : Int) + off = (tgt : Int)) (kt : b < a → aAt l G d mc ms y tgt lv st bc bs h Q) (kf : ¬ (b < a) → aAt l G d mc ms y (pc + 3) lv st bc bs h Q) : aAt l G d mc ms y pc lv (.int b :: .int a :: st) bc bs h Q :=
  fun p e R s m args below meth c ls H locs cells slots E => lv_icmp_gt E.1.1 E.1.2.1 hd ht (fun z => kt z p e R s m args below meth c ls H locs cells slots E) (fun z => kf z p e R s m args below meth c ls H locs cells slots E)
theorem s_icmp_le {a b : Int32} {off : Int} (tgt : Nat) (hd : decode (mB y) pc = .ok (.if_icmp .le off, 3)) (ht : (pc : Int) + off = (tgt : Int)) (kt : a ≤ b → aAt l G d mc ms y tgt lv st bc bs h Q) (kf : ¬ (a ≤ b) → aAt l G d mc ms y (pc + 3) lv st bc bs h Q) : aAt l G d mc ms y pc lv (.int b :: .int a :: st) bc bs h Q :=
  fun p e R s m args below meth c ls H locs cells slots E => lv_icmp_le E.1.1 E.1.2.1 hd ht (fun z => kt z p e R s m args below meth c ls H locs cells slots E) (fun z => kf z p e R s m args below meth c ls H locs cells slots E)
theorem s_if_eq {a : Int32} {off : Int} (tgt : Nat) (hd : decode (mB y) pc = .ok (.ifCond .eq off, 3)) (ht : (pc : Int) + off = (tgt : Int)) (kt : a = 0 → aAt l G d mc ms y tgt lv st bc bs h Q) (kf : ¬ (a = 0) → aAt l G d mc ms y (pc + 3) lv st bc bs h Q) : aAt l G d mc ms y pc lv (.int a :: st) bc bs h Q :=
  fun p e R s m args below meth c ls H locs cells slots E => lv_if_eq E.1.1 E.1.2.1 hd ht (fun z => kt z p e R s m args below meth c ls H locs cells slots E) (fun z => kf z p e R s m args below meth c ls H locs cells slots E)
theorem s_if_ne {a : Int32} {off : Int} (tgt : Nat) (hd : decode (mB y) pc = .ok (.ifCond .ne off, 3)) (ht : (pc : Int) + off = (tgt : Int)) (kt : a ≠ 0 → aAt l G d mc ms y tgt lv st bc bs h Q) (kf : a = 0 → aAt l G d mc ms y (pc + 3) lv st bc bs h Q) : aAt l G d mc ms y pc lv (.int a :: st) bc bs h Q :=
  fun p e R s m args below meth c ls H locs cells slots E => lv_if_ne E.1.1 E.1.2.1 hd ht (fun z => kt z p e R s m args below meth c ls H locs cells slots E) (fun z => kf z p e R s m args below meth c ls H locs cells slots E)
theorem s_if_lt {a : Int32} {off : Int} (tgt : Nat) (hd : decode (mB y) pc = .ok (.ifCond .lt off, 3)) (ht : (pc : Int) + off = (tgt : Int)) (kt : a < 0 → aAt l G d mc ms y tgt lv st bc bs h Q) (kf : ¬ (a < 0) → aAt l G d mc ms y (pc + 3) lv st bc bs h Q) : aAt l G d mc ms y pc lv (.int a :: st) bc bs h Q :=
  fun p e R s m args below meth c ls H locs cells slots E => lv_if_lt E.1.1 E.1.2.1 hd ht (fun z => kt z p e R s m args below meth c ls H locs cells slots E) (fun z => kf z p e R s m args below meth c ls H locs cells slots E)
theorem s_if_ge {a : Int32} {off : Int} (tgt : Nat) (hd : decode (mB y) pc = .ok (.ifCond .ge off, 3)) (ht : (pc : Int) + off = (tgt : Int)) (kt : 0 ≤ a → aAt l G d mc ms y tgt lv st bc bs h Q) (kf : ¬ (0 ≤ a) → aAt l G d mc ms y (pc + 3) lv st bc bs h Q) : aAt l G d mc ms y pc lv (.int a :: st) bc bs h Q :=
  fun p e R s m args below meth c ls H locs cells slots E => lv_if_ge E.1.1 E.1.2.1 hd ht (fun z => kt z p e R s m args below meth c ls H locs cells slots E) (fun z => kf z p e R s m args below meth c ls H locs cells slots E)
theorem s_if_gt {a : Int32} {off : Int} (tgt : Nat) (hd : decode (mB y) pc = .ok (.ifCond .gt off, 3)) (ht : (pc : Int) + off = (tgt : Int)) (kt : 0 < a → aAt l G d mc ms y tgt lv st bc bs h Q) (kf : ¬ (0 < a) → aAt l G d mc ms y (pc + 3) lv st bc bs h Q) : aAt l G d mc ms y pc lv (.int a :: st) bc bs h Q :=
  fun p e R s m args below meth c ls H locs cells slots E => lv_if_gt E.1.1 E.1.2.1 hd ht (fun z => kt z p e R s m args below meth c ls H locs cells slots E) (fun z => kf z p e R s m args below meth c ls H locs cells slots E)
theorem s_if_le {a : Int32} {off : Int} (tgt : Nat) (hd : decode (mB y) pc = .ok (.ifCond .le off, 3)) (ht : (pc : Int) + off = (tgt : Int)) (kt : a ≤ 0 → aAt l G d mc ms y tgt lv st bc bs h Q) (kf : ¬ (a ≤ 0) → aAt l G d mc ms y (pc + 3) lv st bc bs h Q) : aAt l G d mc ms y pc lv (.int a :: st) bc bs h Q :=
  fun p e R s m args below meth c ls H locs cells slots E => lv_if_le E.1.1 E.1.2.1 hd ht (fun z => kt z p e R s m args below meth c ls H locs cells slots E) (fun z => kf z p e R s m args below meth c ls H locs cells slots E)
theorem s_goto {off : Int} (tgt : Nat) (hd : decode (mB y) pc = .ok (.goto off, 3)) (ht : (pc : Int) + off = (tgt : Int)) (k : aAt l G d mc ms y tgt lv st bc bs h Q) : aAt l G d mc ms y pc lv st bc bs h Q :=
  fun p e R s m args below meth c ls H locs cells slots E => lv_goto E.1.1 E.1.2.1 hd ht (k p e R s m args below meth c ls H locs cells slots E)
theorem s_ifnull {x : Nat} {off : Int} (hd : decode (mB y) pc = .ok (.ifnull off, 3)) (k : aAt l G d mc ms y (pc + 3) lv st bc bs h Q) : aAt l G d mc ms y pc lv (.ref x :: st) bc bs h Q :=
  fun p e R s m args below meth c ls H locs cells slots E => lv_ifnull E.1.1 E.1.2.1 hd (k p e R s m args below meth c ls H locs cells slots E)
theorem s_ifnullN {off : Int} (tgt : Nat) (hd : decode (mB y) pc = .ok (.ifnull off, 3)) (ht : (pc : Int) + off = (tgt : Int)) (k : aAt l G d mc ms y tgt lv st bc bs h Q) : aAt l G d mc ms y pc lv (.null :: st) bc bs h Q :=
  fun p e R s m args below meth c ls H locs cells slots E => lv_ifnullN E.1.1 E.1.2.1 hd ht (k p e R s m args below meth c ls H locs cells slots E)
theorem s_ifnonnull {x : Nat} {off : Int} (tgt : Nat) (hd : decode (mB y) pc = .ok (.ifnonnull off, 3)) (ht : (pc : Int) + off = (tgt : Int)) (k : aAt l G d mc ms y tgt lv st bc bs h Q) : aAt l G d mc ms y pc lv (.ref x :: st) bc bs h Q :=
  fun p e R s m args below meth c ls H locs cells slots E => lv_ifnonnull E.1.1 E.1.2.1 hd ht (k p e R s m args below meth c ls H locs cells slots E)
theorem s_ifnonnullN {off : Int} (hd : decode (mB y) pc = .ok (.ifnonnull off, 3)) (k : aAt l G d mc ms y (pc + 3) lv st bc bs h Q) : aAt l G d mc ms y pc lv (.null :: st) bc bs h Q :=
  fun p e R s m args below meth c ls H locs cells slots E => lv_ifnonnullN E.1.1 E.1.2.1 hd (k p e R s m args below meth c ls H locs cells slots E)
theorem s_tableIn {df lo hi : Int} {offs : Array Int} {len : Nat} {x : Int32} {off : Int} (tgt : Nat) (hd : decode (mB y) pc = .ok (.tableswitch df lo hi offs, len)) (h1 : ¬ x.toInt < lo) (h2 : ¬ hi < x.toInt) (ho : offs[(x.toInt - lo).toNat]? = some off) (ht : (pc : Int) + off = (tgt : Int)) (k : aAt l G d mc ms y tgt lv st bc bs h Q) : aAt l G d mc ms y pc lv (.int x :: st) bc bs h Q :=
  fun p e R s m args below meth c ls H locs cells slots E => lv_tableIn E.1.1 E.1.2.1 hd h1 h2 ho ht (k p e R s m args below meth c ls H locs cells slots E)
theorem s_tableOut {df lo hi : Int} {offs : Array Int} {len : Nat} {x : Int32} (tgt : Nat) (hd : decode (mB y) pc = .ok (.tableswitch df lo hi offs, len)) (h1 : x.toInt < lo ∨ hi < x.toInt) (ht : (pc : Int) + df = (tgt : Int)) (k : aAt l G d mc ms y tgt lv st bc bs h Q) : aAt l G d mc ms y pc lv (.int x :: st) bc bs h Q :=
  fun p e R s m args below meth c ls H locs cells slots E => lv_tableOut E.1.1 E.1.2.1 hd h1 ht (k p e R s m args below meth c ls H locs cells slots E)
theorem s_lookup {df : Int} {ps : Array (Int × Int)} {len : Nat} {x : Int32} {off : Int} (tgt : Nat) (hd : decode (mB y) pc = .ok (.lookupswitch df ps, len)) (hp : (ps.toList.zip (ps.toList.drop 1)).all (fun (a, next) => a.1 < next.1) = true) (ho : Op.lookupswitch.offset ps.toList df x.toInt = off) (ht : (pc : Int) + off = (tgt : Int)) (k : aAt l G d mc ms y tgt lv st bc bs h Q) : aAt l G d mc ms y pc lv (.int x :: st) bc bs h Q :=
  fun p e R s m args below meth c ls H locs cells slots E => lv_lookup E.1.1 E.1.2.1 hd hp ho ht (k p e R s m args below meth c ls H locs cells slots E)
end Rows
