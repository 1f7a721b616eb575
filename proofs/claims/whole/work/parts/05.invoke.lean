/-! ===== calls ===== -/
theorem lv_args_cv (σ : Nat → Nat) (vs : List Value) : ∀ i, lv_args i (vs.map (cvv σ)) = cvl σ (lv_args i vs) := by
  induction vs with
  | nil => intro i; rfl
  | cons v r ih =>
    intro i
    rw [List.map_cons]
    unfold lv_args
    rw [cvv_cat, ih]
    rfl
theorem lg_sl_cv (σ : Nat → Nat) (vs : List Value) : (lg_sl (vs.map (cvv σ))).length = (lg_sl vs).length := by
  induction vs with
  | nil => rfl
  | cons v r ih =>
    unfold lg_sl at ih ⊢
    rw [List.map_cons, List.flatMap_cons, List.flatMap_cons, List.length_append, List.length_append, ih, cvv_cat]
    congr 1
    by_cases hc : v.category = 2
    · rw [if_pos hc, if_pos hc]; rfl
    · rw [if_neg hc, if_neg hc]; rfl
/-- a method's contract out of the point at its entry -/
theorem aCall.of {l : Launch} {G : aG} {d mc ms y : Nat} {args : List Value} {h : aHeap} {Q : Option Value → aHeap → Prop} (hy : y < 276) (hlen : (lg_sl args).length ≤ mL y) (k : aAt l G d mc ms y 0 (lv_args 0 args) [] mc ms h Q) : aCall l G d mc ms y args h Q := by
  obtain ⟨m1, m2, m3, m4, m5, m6, m7⟩ := mok hy
  refine Met.ofW (cc := mB y) (maxL := mL y) (ret := mR y) m3 rfl ?_
  intro p e s m args' below meth c s₁ B hml hv
  obtain ⟨rfl, hh, hK⟩ := hv
  have hts0 := atoms_spec (ws := aWs y) B.pre
  have hl := lv_entry (args.map (cvv G.1)) (n := mL y) (by rw [lg_sl_cv]; exact hlen)
  rw [lg_entry_eq]
  generalize (lg_sl (args.map (cvv G.1)) ++ List.replicate (mL y - (lg_sl (args.map (cvv G.1))).length) Slot.unset).toArray = ls at hl ⊢
  rw [lv_args_cv] at hl
  exact k p e _ s m _ below meth c ls s.heap [] 0 0 ⟨⟨B.exec, B.bytes, hml, by rw [← m5]; exact findClass_of_methodNamed B.named, fun w hw => hts0 w (List.mem_cons_of_mem _ hw), hK, B.notSynchronized, B.returns, fun e => ((name_of_methodNamed B.named B.method).1).trans e⟩, ⟨rfl, rfl, Nat.le_refl _, Nat.le_refl _⟩, hl, hh, (fun q hq => by cases hq), Nat.zero_add _, Nat.zero_add _⟩
theorem aCall.mono {l : Launch} {G : aG} {d mc ms y : Nat} {args : List Value} {h : aHeap} {Q Q' : Option Value → aHeap → Prop} (hc : aCall l G d mc ms y args h Q) (hq : ∀ r h', Q r h' → Q' r h') : aCall l G d mc ms y args h Q' := by
  intro p e a1 a2 a3 s m args' below a4 a5 a6 a7
  obtain ⟨n, o, b1, b2, b3, ⟨r, h', b4, b5, b6⟩, b7⟩ := hc p e a1 a2 a3 s m args' below a4 a5 a6 a7
  exact ⟨n, o, b1, b2, b3, ⟨r, h', b4, b5, hq r h' b6⟩, b7⟩
theorem aGood {y : Nat} (hy : y < 276) : GoodIn aT (aWs y) := by
  intro w hw
  have hm : w ∈ aT := by
    rcases List.mem_cons.mp hw with rfl | hw
    · exact (mok hy).1
    · exact hw
  exact ⟨hm, good_of_word (List.mem_filter.mp hm).2⟩
theorem aPc.blind {G : aG} {args : List Value} {h : aHeap} : FrameBlind (aPc G args h) := fun _ _ _ _ q => ⟨q.1, q.2.1, q.2.2.same rfl⟩
section Rows
variable {l : Launch} {G : aG} {d mc ms y pc : Nat} {lv : List (Nat × Value)} {st : List Value} {bc bs : Nat} {h : aHeap} {Q : Option Value → aHeap → Prop}
/-- behind a call -/
theorem aBack {p : Program} {e : Env} {R : Room} {s : State} {m : MethodId} {args : Array Value} {below : List Frame} {meth : Method} {c : Code} {ls : Array Slot} {H : Heap} {locs : List Loc} {cells slots mc' ms' : Nat} {st0 rest : List Value} {a : Array Value} {Q' : Option Value → aHeap → Prop}
    (E : aEnv G d mc ms y lv bc bs h p R s m args meth c ls H locs cells slots) (hmc : mc' ≤ bc) (hms : ms' ≤ bs) (hrest : rest = st.map (cvv G.1))
    (hr : va_Run p l e R s m args below meth c H locs cells slots mc' ms' (F0 m pc ls st0) rest (aQc G Q' a) (aFree G))
    (k : ∀ r h', Q' r h' → aAt l G d mc ms y (pc + 3) lv (r.toList ++ st) (bc - mc') (bs - ms') h' Q) :
    W p l e R s m args below meth c H locs cells slots (MQ below (aQc G Q) args s mc ms (aFree G)) (F0 m pc ls st0) := by
  intro T hT X
  obtain ⟨v, st₀, t, T', L, h0, X', hL, e1, e2, ⟨r, h', hv, hh, hq⟩, go⟩ := hr T hT X
  have hv2 : v = r.map (cvv G.1) := Outcome.returned.inj hv
  subst hv2 hrest
  obtain ⟨t2, a1, b1⟩ := k r h' hq p e R s m args below meth c ls T'.heap (locs ++ L) (cells + mc') (slots + ms') ⟨E.1, E.2.1, E.2.2.1, by rw [e1]; exact hh, fun q hq => by
      rcases List.mem_append.mp hq with z | z
      · exact E.2.2.2.2.1 q z
      · exact hL q z, by have := E.2.2.2.2.2.1; omega, by have := E.2.2.2.2.2.2; omega⟩ T' rfl X'
  refine ⟨t2, go t2 ?_, b1⟩
  have : (r.toList ++ st).map (cvv G.1) = (r.map (cvv G.1)).toList ++ st.map (cvv G.1) := by cases r <;> rfl
  rw [this] at a1
  exact a1
theorem aRoom.call {d mc ms mc' ms' y' : Nat} {R : Room} (hR : aRoom (d + 1) mc ms R) (hy : y' < 276) : (aRm d mc' ms').frames + 1 ≤ R.frames ∧ 8 + (mL y' + 11) + (aRm d mc' ms').locals ≤ R.locals := by
  obtain ⟨-, -, r3, r4⟩ := hR
  have := (mok hy).2.2.2.1
  refine ⟨r3, ?_⟩
  show 8 + (mL y' + 11) + 32 * d ≤ R.locals
  omega
theorem aRecv {s : State} {H : Heap} {x ci : Nat} {r : vw_C} (hK : aK G s) (hh : aHR G h H) (hx : 8 ≤ x) (hx2 : x < h.1) (hk : (h.2 x).1 = ci) (hr : aCl[ci]? = some r) : ∃ cell : Cell, H[G.1 x]? = some cell ∧ cell.vm.isStatics = false ∧ s.vm.findClass (cNm ci) = some cell.cls := by
  obtain ⟨-, cell, g1, g2, g3, -⟩ := (hh.2.2.2.2 x hx hx2).obj (r := r) (by rw [hk]; exact hr)
  rw [hk] at g2
  exact ⟨cell, g1, by rw [g3]; rfl, by rw [g2, ← (okCls_all hr r hr).1]; exact (hK.2.1.1 ci r hr).2.1⟩
/-- invokevirtual of an own class's method -/
theorem s_virt {i c' i' y' n x mc' ms' : Nat} {As : List Value} {st0 : List Value} (hd : decode (mB y) pc = .ok (.invokevirtual i, 3)) (hf : cal (mC y) i = some (c', i', 0, y', n)) (hst : st0 = As.reverse ++ .ref x :: st) (hn : As.length = n) (hx : 8 ≤ x) (hx2 : x < h.1) (hk : (h.2 x).1 = mC y') (hc : mC y' < 13) (hW : cats st ≤ 8) (hmc : mc' ≤ bc) (hms : ms' ≤ bs)
    (hcall : aCall l G d mc' ms' y' (.ref x :: As) h (fun r h' => aAt l G (d + 1) mc ms y (pc + 3) lv (r.toList ++ st) (bc - mc') (bs - ms') h' Q)) : aAt l G (d + 1) mc ms y pc lv st0 bc bs h Q := by
  intro p e R s m args below meth c ls H locs cells slots E
  obtain ⟨e1, e2, hy, hp, c1, c2, c3⟩ := cal_ok hf
  dsimp only at e1 e2
  subst e1 e2 hst
  obtain ⟨hex, hb, hml, hown, hts, hK, -⟩ := id E.1
  obtain ⟨m1, m2, m3, m4, m5, m6, m7⟩ := mok hy
  obtain ⟨rc, rs, rf, rl⟩ := id E.2.1
  obtain ⟨r, hr⟩ : ∃ r : vw_C, aCl[mC y']? = some r := ⟨_, List.getElem?_eq_getElem (by show mC y' < 13; exact hc)⟩
  refine aBack (Q' := fun r h' => aAt l G (d + 1) mc ms y (pc + 3) lv (r.toList ++ st) (bc - mc') (bs - ms') h' Q) E hmc hms rfl (va_runV (C := cNm (mC y')) (b := G.1 x) (As := As.map (cvv G.1)) (n := n) (bytes := mB y') (maxL := mL y') (ret := mR y') ⟨hex, hb, hml, hown, hts⟩ hcall ⟨callB_of n hts (aGood hy) rfl rfl rfl (hts _ m2) (hts _ c1) ⟨m6, m7, hp⟩ (aRoom.call E.2.1 hy), hts _ c2, by rw [← m5]; exact hts _ c3⟩ ⟨aPc.blind, aRecv hK E.2.2.2.1 hx hx2 hk hr, fun U hU hW => ⟨rfl, by rw [hU]; exact E.2.2.2.1, hK.warm hW⟩⟩ rfl (by rw [List.length_map]; exact hn) E.2.2.1.1 ?_ (lv_room (by rw [cats_cv]; exact hW)) hd ⟨by rw [rc]; have := E.2.2.2.2.2.1; omega, by rw [rs]; have := E.2.2.2.2.2.2; omega⟩) (fun r h' hq => hq)
  show (As.reverse ++ .ref x :: st).map (cvv G.1) = (As.map (cvv G.1)).reverse ++ .ref (G.1 x) :: st.map (cvv G.1)
  rw [List.map_append, List.map_reverse]
  rfl
theorem s_virtN {i c' i' y' n x mc' ms' : Nat} {As : List Value} {st0 : List Value} (hd : decode (mB y) pc = .ok (.invokevirtual i, 3)) (hf : cal (mC y) i = some (c', i', 10, y', n)) (hst : st0 = As.reverse ++ .ref x :: st) (hn : As.length = n) (hx : 8 ≤ x) (hx2 : x < h.1) (hk : (h.2 x).1 = mC y') (hc : mC y' < 13) (hW : cats st ≤ 8) (hmc : mc' ≤ bc) (hms : ms' ≤ bs)
    (hcall : aCall l G d mc' ms' y' (.ref x :: As) h (fun r h' => aAt l G (d + 1) mc ms y (pc + 3) lv (r.toList ++ st) (bc - mc') (bs - ms') h' Q)) : aAt l G (d + 1) mc ms y pc lv st0 bc bs h Q := by
  intro p e R s m args below meth c ls H locs cells slots E
  obtain ⟨e1, e2, hy, hp, c1, c2, c3⟩ := cal_ok hf
  dsimp only at e1 e2
  subst e1 e2 hst
  obtain ⟨hex, hb, hml, hown, hts, hK, -⟩ := id E.1
  obtain ⟨m1, m2, m3, m4, m5, m6, m7⟩ := mok hy
  obtain ⟨rc, rs, rf, rl⟩ := id E.2.1
  obtain ⟨r, hr⟩ : ∃ r : vw_C, aCl[mC y']? = some r := ⟨_, List.getElem?_eq_getElem (by show mC y' < 13; exact hc)⟩
  refine aBack (Q' := fun r h' => aAt l G (d + 1) mc ms y (pc + 3) lv (r.toList ++ st) (bc - mc') (bs - ms') h' Q) E hmc hms rfl (va_runVN (C := cNm (mC y')) (host := "DebtYear") (b := G.1 x) (As := As.map (cvv G.1)) (n := n) (bytes := mB y') (maxL := mL y') (ret := mR y') ⟨hex, hb, hml, hown, hts⟩ hcall ⟨va_cnB n hts (aGood hy) rfl rfl rfl (hK.2.2.1 _ _ _ _ c1) (hts _ m2) ⟨m6, m7, hp⟩ (aRoom.call E.2.1 hy), hts _ c2, by rw [← m5]; exact hts _ c3⟩ ⟨aPc.blind, aRecv hK E.2.2.2.1 hx hx2 hk hr, fun U hU hW => ⟨rfl, by rw [hU]; exact E.2.2.2.1, hK.warm hW⟩⟩ rfl (by rw [List.length_map]; exact hn) E.2.2.1.1 ?_ (lv_room (by rw [cats_cv]; exact hW)) hd ⟨by rw [rc]; have := E.2.2.2.2.2.1; omega, by rw [rs]; have := E.2.2.2.2.2.2; omega⟩) (fun r h' hq => hq)
  show (As.reverse ++ .ref x :: st).map (cvv G.1) = (As.map (cvv G.1)).reverse ++ .ref (G.1 x) :: st.map (cvv G.1)
  rw [List.map_append, List.map_reverse]
  rfl
/-- invokestatic -/
theorem s_stat {i c' i' y' n mc' ms' : Nat} {As : List Value} {st0 : List Value} (hd : decode (mB y) pc = .ok (.invokestatic i, 3)) (hf : cal (mC y) i = some (c', i', 1, y', n)) (hst : st0 = As.reverse ++ st) (hn : As.length = n) (hW : cats st ≤ 8) (hmc : mc' ≤ bc) (hms : ms' ≤ bs)
    (hcall : aCall l G d mc' ms' y' As h (fun r h' => aAt l G (d + 1) mc ms y (pc + 3) lv (r.toList ++ st) (bc - mc') (bs - ms') h' Q)) : aAt l G (d + 1) mc ms y pc lv st0 bc bs h Q := by
  intro p e R s m args below meth c ls H locs cells slots E
  obtain ⟨e1, e2, hy, hp, c1, c2⟩ := cal_ok hf
  dsimp only at e1 e2
  subst e1 e2 hst
  obtain ⟨hex, hb, hml, hown, hts, hK, -⟩ := id E.1
  obtain ⟨m1, m2, m3, m4, m5, m6, m7⟩ := mok hy
  obtain ⟨rc, rs, rf, rl⟩ := id E.2.1
  refine aBack (Q' := fun r h' => aAt l G (d + 1) mc ms y (pc + 3) lv (r.toList ++ st) (bc - mc') (bs - ms') h' Q) E hmc hms rfl (va_runS (As := As.map (cvv G.1)) (n := n) (bytes := mB y') (maxL := mL y') (ret := mR y') ⟨hex, hb, hml, hown, hts⟩ hcall ⟨callB_of n hts (aGood hy) rfl rfl rfl (hts _ m2) (hts _ c1) ⟨m6, m7, hp⟩ (aRoom.call E.2.1 hy), hts _ c2⟩ ⟨aPc.blind, fun U hU hW => ⟨rfl, by rw [hU]; exact E.2.2.2.1, hK.warm hW⟩⟩ rfl (by rw [List.length_map]; exact hn) E.2.2.1.1 ?_ (lv_room (by rw [cats_cv]; exact hW)) hd ⟨by rw [rc]; have := E.2.2.2.2.2.1; omega, by rw [rs]; have := E.2.2.2.2.2.2; omega⟩) (fun r h' hq => hq)
  show (As.reverse ++ st).map (cvv G.1) = (As.map (cvv G.1)).reverse ++ st.map (cvv G.1)
  rw [List.map_append, List.map_reverse]
theorem s_statN {i c' i' y' n mc' ms' : Nat} {As : List Value} {st0 : List Value} (hd : decode (mB y) pc = .ok (.invokestatic i, 3)) (hf : cal (mC y) i = some (c', i', 11, y', n)) (hst : st0 = As.reverse ++ st) (hn : As.length = n) (hW : cats st ≤ 8) (hmc : mc' ≤ bc) (hms : ms' ≤ bs)
    (hcall : aCall l G d mc' ms' y' As h (fun r h' => aAt l G (d + 1) mc ms y (pc + 3) lv (r.toList ++ st) (bc - mc') (bs - ms') h' Q)) : aAt l G (d + 1) mc ms y pc lv st0 bc bs h Q := by
  intro p e R s m args below meth c ls H locs cells slots E
  obtain ⟨e1, e2, hy, hp, c1, c2⟩ := cal_ok hf
  dsimp only at e1 e2
  subst e1 e2 hst
  obtain ⟨hex, hb, hml, hown, hts, hK, -⟩ := id E.1
  obtain ⟨m1, m2, m3, m4, m5, m6, m7⟩ := mok hy
  obtain ⟨rc, rs, rf, rl⟩ := id E.2.1
  refine aBack (Q' := fun r h' => aAt l G (d + 1) mc ms y (pc + 3) lv (r.toList ++ st) (bc - mc') (bs - ms') h' Q) E hmc hms rfl (va_runSN (host := "DebtYear") (As := As.map (cvv G.1)) (n := n) (bytes := mB y') (maxL := mL y') (ret := mR y') ⟨hex, hb, hml, hown, hts⟩ hcall ⟨va_cnB n hts (aGood hy) rfl rfl rfl (hK.2.2.1 _ _ _ _ c1) (hts _ m2) ⟨m6, m7, hp⟩ (aRoom.call E.2.1 hy), hts _ c2, trivial⟩ ⟨aPc.blind, fun U hU hW => ⟨rfl, by rw [hU]; exact E.2.2.2.1, hK.warm hW⟩⟩ rfl (by rw [List.length_map]; exact hn) E.2.2.1.1 ?_ (lv_room (by rw [cats_cv]; exact hW)) hd ⟨by rw [rc]; have := E.2.2.2.2.2.1; omega, by rw [rs]; have := E.2.2.2.2.2.2; omega⟩) (fun r h' hq => hq)
  show (As.reverse ++ st).map (cvv G.1) = (As.map (cvv G.1)).reverse ++ st.map (cvv G.1)
  rw [List.map_append, List.map_reverse]
/-- a constructor -/
theorem s_init {i c' i' y' n x mc' ms' : Nat} {As : List Value} {st0 : List Value} (hd : decode (mB y) pc = .ok (.invokespecial i, 3)) (hf : cal (mC y) i = some (c', i', 2, y', n)) (hst : st0 = As.reverse ++ .ref x :: st) (hn : As.length = n) (hW : cats st ≤ 8) (hmc : mc' ≤ bc) (hms : ms' ≤ bs)
    (hcall : aCall l G d mc' ms' y' (.ref x :: As) h (fun r h' => aAt l G (d + 1) mc ms y (pc + 3) lv (r.toList ++ st) (bc - mc') (bs - ms') h' Q)) : aAt l G (d + 1) mc ms y pc lv st0 bc bs h Q := by
  intro p e R s m args below meth c ls H locs cells slots E
  obtain ⟨e1, e2, hy, hp, c1, c2, c3, c4⟩ := cal_ok hf
  dsimp only at e1 e2
  subst e1 e2 hst
  obtain ⟨hex, hb, hml, hown, hts, hK, -⟩ := id E.1
  obtain ⟨m1, m2, m3, m4, m5, m6, m7⟩ := mok hy
  obtain ⟨rc, rs, rf, rl⟩ := id E.2.1
  have hws : aWs y' = Cond.code (mN y') (mB y') (mL y') none :: aT := by unfold aWs; rw [c4]
  refine aBack (Q' := fun r h' => aAt l G (d + 1) mc ms y (pc + 3) lv (r.toList ++ st) (bc - mc') (bs - ms') h' Q) E hmc hms rfl (va_runI (b := G.1 x) (As := As.map (cvv G.1)) (n := n) (bytes := mB y') (maxL := mL y') ⟨hex, hb, hml, hown, hts⟩ hcall ⟨callB_of n hts (aGood hy) hws rfl rfl (hts _ m2) (hts _ c1) ⟨m6, m7, hp⟩ (aRoom.call E.2.1 hy), c3, hts _ c2⟩ ⟨aPc.blind, fun U hU hW => ⟨rfl, by rw [hU]; exact E.2.2.2.1, hK.warm hW⟩⟩ rfl (by rw [List.length_map]; exact hn) E.2.2.1.1 ?_ (lv_room (by rw [cats_cv]; exact hW)) hd ⟨by rw [rc]; have := E.2.2.2.2.2.1; omega, by rw [rs]; have := E.2.2.2.2.2.2; omega⟩) (fun r h' hq => hq)
  show (As.reverse ++ .ref x :: st).map (cvv G.1) = (As.map (cvv G.1)).reverse ++ .ref (G.1 x) :: st.map (cvv G.1)
  rw [List.map_append, List.map_reverse]
  rfl
theorem s_initN {i c' i' y' n x mc' ms' : Nat} {As : List Value} {st0 : List Value} (hd : decode (mB y) pc = .ok (.invokespecial i, 3)) (hf : cal (mC y) i = some (c', i', 12, y', n)) (hst : st0 = As.reverse ++ .ref x :: st) (hn : As.length = n) (hW : cats st ≤ 8) (hmc : mc' ≤ bc) (hms : ms' ≤ bs)
    (hcall : aCall l G d mc' ms' y' (.ref x :: As) h (fun r h' => aAt l G (d + 1) mc ms y (pc + 3) lv (r.toList ++ st) (bc - mc') (bs - ms') h' Q)) : aAt l G (d + 1) mc ms y pc lv st0 bc bs h Q := by
  intro p e R s m args below meth c ls H locs cells slots E
  obtain ⟨e1, e2, hy, hp, c1, c2, c3, c4⟩ := cal_ok hf
  dsimp only at e1 e2
  subst e1 e2 hst
  obtain ⟨hex, hb, hml, hown, hts, hK, -⟩ := id E.1
  obtain ⟨m1, m2, m3, m4, m5, m6, m7⟩ := mok hy
  obtain ⟨rc, rs, rf, rl⟩ := id E.2.1
  have hws : aWs y' = Cond.code (mN y') (mB y') (mL y') none :: aT := by unfold aWs; rw [c4]
  refine aBack (Q' := fun r h' => aAt l G (d + 1) mc ms y (pc + 3) lv (r.toList ++ st) (bc - mc') (bs - ms') h' Q) E hmc hms rfl (va_runIN (host := "DebtYear") (b := G.1 x) (As := As.map (cvv G.1)) (n := n) (bytes := mB y') (maxL := mL y') ⟨hex, hb, hml, hown, hts⟩ hcall ⟨va_cnB n hts (aGood hy) hws rfl rfl (hK.2.2.1 _ _ _ _ c1) (hts _ m2) ⟨m6, m7, hp⟩ (aRoom.call E.2.1 hy), c3, hts _ c2⟩ ⟨aPc.blind, fun U hU hW => ⟨rfl, by rw [hU]; exact E.2.2.2.1, hK.warm hW⟩⟩ rfl (by rw [List.length_map]; exact hn) E.2.2.1.1 ?_ (lv_room (by rw [cats_cv]; exact hW)) hd ⟨by rw [rc]; have := E.2.2.2.2.2.1; omega, by rw [rs]; have := E.2.2.2.2.2.2; omega⟩) (fun r h' hq => hq)
  show (As.reverse ++ .ref x :: st).map (cvv G.1) = (As.map (cvv G.1)).reverse ++ .ref (G.1 x) :: st.map (cvv G.1)
  rw [List.map_append, List.map_reverse]
  rfl
/-- Object() -/
theorem s_objinit {i c' i' n y' x : Nat} (hd : decode (mB y) pc = .ok (.invokespecial i, 3)) (hf : cal (mC y) i = some (c', i', 3, y', n)) (hW : cats st ≤ 8) (k : aAt l G (d + 1) mc ms y (pc + 3) lv st bc bs h Q) : aAt l G (d + 1) mc ms y pc lv (.ref x :: st) bc bs h Q := by
  intro p e R s m args below meth c ls H locs cells slots E
  obtain ⟨e1, e2, c1⟩ := cal_ok hf
  dsimp only at e1 e2
  subst e1 e2
  obtain ⟨hex, hb, hml, hown, hts, hK, -⟩ := id E.1
  obtain ⟨rc, rs, rf, rl⟩ := id E.2.1
  refine W.objInit hex hb hown (hts _ c1) (hts _ (aT_in (sg_1 (i := 28) rfl) rfl)) (hts _ (aT_in (sg_1 (i := 29) rfl) rfl)) rfl (E.2.2.1.1.trans hml.symm) rfl hd (by omega) ?_ (k p e R s m args below meth c ls H locs cells slots E)
  show 2 * 0 + ((st.map (cvv G.1)).map fun v => v.category).sum + 12 ≤ _
  rw [cats_cv]; omega
theorem s_min {i c' i' n y' : Nat} {a b : Int32} (hd : decode (mB y) pc = .ok (.invokestatic i, 3)) (hf : cal (mC y) i = some (c', i', 6, y', n)) (hW : cats st ≤ 8) (k : aAt l G (d + 1) mc ms y (pc + 3) lv (.int (if b < a then b else a) :: st) bc bs h Q) : aAt l G (d + 1) mc ms y pc lv (.int b :: .int a :: st) bc bs h Q := by
  intro p e R s m args below meth c ls H locs cells slots E
  obtain ⟨e1, e2, c1⟩ := cal_ok hf
  dsimp only at e1 e2
  subst e1 e2
  obtain ⟨hex, hb, hml, hown, hts, hK, -⟩ := id E.1
  obtain ⟨rc, rs, rf, rl⟩ := id E.2.1
  exact va_mmin hex hb (hml.trans E.2.2.1.1.symm) hown (hts _ c1) (hts _ (aT_in (sg_2 (i := 175) rfl) rfl)) (hts _ (aT_in (sg_1 (i := 13) rfl) rfl)) (hts _ (aT_in (sg_2 (i := 176) rfl) rfl)) (by omega) (by rw [cats_cv]; omega) (by have := E.2.2.2.2.2.1; omega) (by have := E.2.2.2.2.2.2; omega) hd (k p e R s m args below meth c ls H locs cells slots E)
theorem s_max {i c' i' n y' : Nat} {a b : Int32} (hd : decode (mB y) pc = .ok (.invokestatic i, 3)) (hf : cal (mC y) i = some (c', i', 7, y', n)) (hW : cats st ≤ 8) (k : aAt l G (d + 1) mc ms y (pc + 3) lv (.int (if a < b then b else a) :: st) bc bs h Q) : aAt l G (d + 1) mc ms y pc lv (.int b :: .int a :: st) bc bs h Q := by
  intro p e R s m args below meth c ls H locs cells slots E
  obtain ⟨e1, e2, c1⟩ := cal_ok hf
  dsimp only at e1 e2
  subst e1 e2
  obtain ⟨hex, hb, hml, hown, hts, hK, -⟩ := id E.1
  obtain ⟨rc, rs, rf, rl⟩ := id E.2.1
  exact va_mmax hex hb (hml.trans E.2.2.1.1.symm) hown (hts _ c1) (hts _ (aT_in (sg_4 (i := 19) rfl) rfl)) (hts _ (aT_in (sg_1 (i := 13) rfl) rfl)) (hts _ (aT_in (sg_4 (i := 20) rfl) rfl)) (by omega) (by rw [cats_cv]; omega) (by have := E.2.2.2.2.2.1; omega) (by have := E.2.2.2.2.2.2; omega) hd (k p e R s m args below meth c ls H locs cells slots E)
end Rows
