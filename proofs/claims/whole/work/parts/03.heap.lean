/-! ===== the heap's rows ===== -/
def hset (h : aHeap) (x j : Nat) (v : Value) : aHeap := (h.1, fun k => if k = x then ((h.2 x).1, (h.2 x).2.1, updV (h.2 x).2.2 j v) else h.2 k)
def hnew (h : aHeap) (c : aCell) : aHeap := (h.1 + 1, fun k => if k = h.1 then c else h.2 k)
theorem aNew.kept {G : aG} {k : Nat} {x : aCell} {H H' : Heap} (h : aNew G k x H) (e : H'[G.1 k]? = H[G.1 k]?) : aNew G k x H' := by
  rcases h with ⟨h1, r, h2, h3, h4⟩ | ⟨h1, h0, h2⟩
  · exact Or.inl ⟨h1, r, h2, h3, h4.kept e⟩
  · exact Or.inr ⟨h1, h0, by rw [e]; exact h2⟩
theorem aSg.ne {G : aG} (g : aSg G) {a b : Nat} (ha : 8 ≤ a) (hb : 8 ≤ b) (hab : a ≠ b) : G.1 a ≠ G.1 b := by
  rw [g.1 a ha, g.1 b hb]; omega
theorem aHR.put {G : aG} (g : aSg G) {h : aHeap} {H H' : Heap} {x j : Nat} {v : Value} (hh : aHR G h H) (hx : 8 ≤ x) (hx2 : x < h.1) (hz : H'.size = H.size) (ho : ∀ q, q ≠ G.1 x → H'[q]? = H[q]?) (hn : aNew G x ((h.2 x).1, (h.2 x).2.1, updV (h.2 x).2.2 j v) H') : aHR G (hset h x j v) H' := by
  obtain ⟨h1, h2, h3, h4, h5⟩ := hh
  refine ⟨h1, by rw [hz]; exact h2, fun q hq => ?_, fun k hk => ?_, fun k hk hk2 => ?_⟩
  · rw [ho q (by rw [g.1 x hx]; omega)]; exact h3 q hq
  · show (if k = x then _ else h.2 k) = _
    rw [if_neg (by omega)]; exact h4 k hk
  · show aNew G k (if k = x then _ else h.2 k) H'
    by_cases e : k = x
    · rw [if_pos e]; subst e; exact hn
    · rw [if_neg e]; exact (h5 k hk hk2).kept (ho _ (g.ne hk hx e))
theorem aHR.push {G : aG} (g : aSg G) {h : aHeap} {H H' : Heap} {c : aCell} (hh : aHR G h H) (hz : H'.size = H.size + 1) (ho : ∀ q, q < H.size → H'[q]? = H[q]?) (hn : aNew G h.1 c H') : aHR G (hnew h c) H' := by
  obtain ⟨h1, h2, h3, h4, h5⟩ := hh
  refine ⟨Nat.le_succ_of_le h1, ?_, fun q hq => ?_, fun k hk => ?_, fun k hk hk2 => ?_⟩
  · show H'.size = _ + (h.1 + 1 - 8)
    rw [hz, h2]; omega
  · rw [ho q (by omega)]; exact h3 q hq
  · show (if k = h.1 then _ else h.2 k) = _
    rw [if_neg (by omega)]; exact h4 k hk
  · show aNew G k (if k = h.1 then _ else h.2 k) H'
    have hk3 : k < h.1 + 1 := hk2
    by_cases e : k = h.1
    · rw [if_pos e]; subst e; exact hn
    · rw [if_neg e]
      exact (h5 k hk (by omega)).kept (ho _ (by rw [g.1 k hk, h2]; omega))
theorem fld_ok {c i : Nat} {e : Nat × Nat × Nat × Nat} (h : fld c i = some e) : e.1 = c ∧ e.2.1 = i ∧ FOK e := by
  have h1 := List.find?_some h
  simp only [Bool.and_eq_true, beq_iff_eq] at h1
  exact ⟨h1.1, h1.2, fok_all e (List.mem_of_find?_eq_some h)⟩
theorem cal_ok {c i : Nat} {e : Nat × Nat × Nat × Nat × Nat} (h : cal c i = some e) : e.1 = c ∧ e.2.1 = i ∧ COK e := by
  have h1 := List.find?_some h
  simp only [Bool.and_eq_true, beq_iff_eq] at h1
  exact ⟨h1.1, h1.2, cok_all e (List.mem_of_find?_eq_some h)⟩
theorem kon_ok {c i : Nat} {e : Nat × Nat × Int32} (h : kon c i = some e) : e.1 = c ∧ e.2.1 = i ∧ Cond.constant (cNm e.1) e.2.1 e.2.2 ∈ aT := by
  have h1 := List.find?_some h
  simp only [Bool.and_eq_true, beq_iff_eq] at h1
  exact ⟨h1.1, h1.2, kok_all e (List.mem_of_find?_eq_some h)⟩
theorem konl_ok {c i : Nat} {e : Nat × Nat × Int64} (h : konl c i = some e) : e.1 = c ∧ e.2.1 = i ∧ Cond.constantLong (cNm e.1) e.2.1 e.2.2 ∈ aT := by
  have h1 := List.find?_some h
  simp only [Bool.and_eq_true, beq_iff_eq] at h1
  exact ⟨h1.1, h1.2, klok_all e (List.mem_of_find?_eq_some h)⟩
theorem ncl_ok {c i : Nat} {e : Nat × Nat × Nat} (h : ncl c i = some e) : e.1 = c ∧ e.2.1 = i ∧ NOK e := by
  have h1 := List.find?_some h
  simp only [Bool.and_eq_true, beq_iff_eq] at h1
  exact ⟨h1.1, h1.2, nok_all e (List.mem_of_find?_eq_some h)⟩
theorem aCl_lt {ci : Nat} {r : vw_C} (h : aCl[ci]? = some r) : ci < 13 := (List.getElem?_eq_some_iff.mp h).1
theorem aKs_ge {k : Nat} (h : k ∈ aKs) : 20 ≤ k := by
  simp only [aKs, List.mem_cons, List.not_mem_nil, or_false] at h
  omega
theorem aNew.obj {G : aG} {k : Nat} {x : aCell} {H : Heap} {r : vw_C} (h : aNew G k x H) (hc : aCl[x.1]? = some r) : x.2.1 = r.2.2 ∧ t_OB (G.1 k) (G.2.2.1.1 x.1) r.2.2 (G.2.2.1.2 x.1) H (fun j => cvv G.1 (x.2.2 j)) := by
  rcases h with ⟨h1, r', h2, h3, h4⟩ | ⟨h1, h2⟩
  · have hr : r' = r := Option.some.inj (h2.symm.trans hc)
    subst hr
    exact ⟨h3, h4⟩
  · have := aKs_ge h1
    have := aCl_lt hc
    omega
theorem aNew.arr {G : aG} {k : Nat} {x : aCell} {H : Heap} (h : aNew G k x H) (hc : 20 ≤ x.1) : x.1 ∈ aKs ∧ x.2.1 < 2 ^ 31 ∧ H[G.1 k]? = some (arrV (G.2.2.2.1 x.1) x.2.1 (fun j => cvv G.1 (x.2.2 j))) := by
  rcases h with ⟨h1, r', h2, h3, h4⟩ | ⟨h1, h2⟩
  · omega
  · exact ⟨h1, h2⟩
theorem aTys_at {cA : Nat → ClassId} {k : Nat} (h : k ∈ aKs) : ∃ t : Nat, (aTys cA)[t]? = some (cA k, aty k) := List.getElem?_of_mem (List.mem_map.mpr ⟨k, h, rfl⟩)
/-- an array, old or new, as the rows that read it want it -/
theorem aArr {G : aG} {h : aHeap} {H : Heap} {s : State} {x : Nat} (hK : aK G s) (hh : aHR G h H) (hx : x < h.1) (hk : 20 ≤ (h.2 x).1) : ∃ cell : Cell, H[G.1 x]? = some cell ∧ s.isArrayOf cell (aty (h.2 x).1) ∧ cell.vm ≠ .unknown ∧ (h.2 x).2.1 ≤ cell.slots.size ∧ cell.slots.size.toInt32 = Int32.ofNat (h.2 x).2.1 ∧ ∀ j, j < (h.2 x).2.1 → cell.slots[j]? = some (cvv G.1 ((h.2 x).2.2 j)) := by
  by_cases h8 : x < 8
  · have e := hh.2.2.2.1 x h8
    rw [e] at hk ⊢
    obtain ⟨-, ⟨f, hf⟩, cell, c1, c2, c3, c4, c5, c6, -⟩ := hK.2.2.2.2.1 x h8 hk
    refine ⟨cell, ?_, c2, c3, c4, c5, fun j hj => ?_⟩
    · rw [hh.2.2.1 _ (hK.1.2 x h8)]; exact c1
    · rw [c6 j hj, hf]; rfl
  · obtain ⟨a1, a2, a3⟩ := (hh.2.2.2.2 x (by omega) hx).arr hk
    obtain ⟨t, ht⟩ := aTys_at (cA := G.2.2.2.1) a1
    exact ⟨_, a3, (hK.2.1.2 t _ ht).1 _ _, (fun q => by cases q), by rw [arrV_size]; exact Nat.le_refl _, by rw [arrV_size], fun j hj => arrV_read _ _ hj⟩
theorem aHR.astore {G : aG} (g : aSg G) {h : aHeap} {H H' : Heap} {x j : Nat} {v : Value} (hh : aHR G h H) (hx : 8 ≤ x) (hx2 : x < h.1) (hk : 20 ≤ (h.2 x).1) (hz : H'.size = H.size) (ho : ∀ q, q ≠ G.1 x → H'[q]? = H[q]?) (hn : H'[G.1 x]? = some ((arrV (G.2.2.2.1 (h.2 x).1) (h.2 x).2.1 (fun j => cvv G.1 ((h.2 x).2.2 j))).setSlot j (cvv G.1 v))) : aHR G (hset h x j v) H' := by
  refine hh.put g hx hx2 hz ho ?_
  obtain ⟨a1, a2, a3⟩ := (hh.2.2.2.2 x hx hx2).arr hk
  refine Or.inr ⟨a1, a2, ?_⟩
  rw [hn, arrV_store]
  congr 2
  funext q
  by_cases hq : q = j
  · simp [updV, hq]
  · simp [updV, hq]
theorem aKs_le {k : Nat} (h : k ∈ aKs) : k ≤ 35 := by
  simp only [aKs, List.mem_cons, List.not_mem_nil, or_false] at h
  omega
/-- old arrays hold numbers -/
theorem aOldNo {G : aG} {s : State} (hK : aK G s) {x : Nat} (hx : x < 8) : ¬ 30 ≤ (G.2.2.2.2 x).1 := fun h => by
  have := (hK.2.2.2.2.1 x hx (by omega)).1
  omega
section Rows
variable {l : Launch} {G : aG} {d mc ms y pc : Nat} {lv : List (Nat × Value)} {st : List Value} {bc bs : Nat} {h : aHeap} {Q : Option Value → aHeap → Prop}
theorem s_getfield {i c' i' ci j x : Nat} (hd : decode (mB y) pc = .ok (.getfield i, 3)) (hf : fld (mC y) i = some (c', i', ci, j)) (hx : 8 ≤ x) (hx2 : x < h.1) (hk : (h.2 x).1 = ci) (k : aAt l G d mc ms y (pc + 3) lv ((h.2 x).2.2 j :: st) bc bs h Q) : aAt l G d mc ms y pc lv (.ref x :: st) bc bs h Q := by
  intro p e R s m args below meth c ls H locs cells slots E
  obtain ⟨e1, e2, r, hr, hj, hlink, hdecl⟩ := fld_ok hf
  dsimp only at e1 e2 hr hj hlink hdecl
  subst e1 e2
  obtain ⟨hex, hb, hml, hown, hts, hK, -⟩ := id E.1
  obtain ⟨o1, cell, q1, q2, q3, q4⟩ := (E.2.2.2.1.2.2.2.2 x hx hx2).obj (r := r) (by rw [hk]; exact hr)
  obtain ⟨hS, hfc, kC, hkC, hkind⟩ := hK.2.1.1 ci r hr
  obtain ⟨cf, kf, fi, f, hi, hsl⟩ := hS j hj
  obtain ⟨-, hin, -, -⟩ := okCls_all hr r hr
  refine W.getf hex hb hown (hts _ hlink) (by rw [hdecl] at hi; exact hi) (u_facts hfc hkC (u_lays hts hin hj) hi).1 q1 (by rw [q3]; exact fun h => by cases h) (v := cvv G.1 ((h.2 x).2.2 j)) ?_ rfl rfl hd (k p e R s m args below meth c ls H locs cells slots E)
  rw [hsl, ← hk, q4 j hj]
theorem s_putfield {i c' i' ci j x : Nat} {v : Value} (hd : decode (mB y) pc = .ok (.putfield i, 3)) (hf : fld (mC y) i = some (c', i', ci, j)) (hx : 8 ≤ x) (hx2 : x < h.1) (hk : (h.2 x).1 = ci) (hn : narrow (aTy ci j) v = v) (hfit : fits (aTy ci j) v = true) (hfin : (∃ r : vw_C, aCl[ci]? = some r ∧ (r.2.1 j).2.2.2 = false) ∨ (ci = mC y ∧ (mN y).name = "<init>")) (k : aAt l G d mc ms y (pc + 3) lv st bc bs (hset h x j v) Q) : aAt l G d mc ms y pc lv (v :: .ref x :: st) bc bs h Q := by
  intro p e R s m args below meth c ls H locs cells slots E
  obtain ⟨e1, e2, r, hr, hj, hlink, hdecl⟩ := fld_ok hf
  dsimp only at e1 e2 hr hj hlink hdecl
  subst e1 e2
  obtain ⟨hex, hb, hml, hown, hts, hK, hlo, hret, hname⟩ := id E.1
  have hNew := E.2.2.2.1.2.2.2.2 x hx hx2
  obtain ⟨o1, cell, q1, q2, q3, q4⟩ := hNew.obj (r := r) (by rw [hk]; exact hr)
  rw [hk] at q2 q4
  obtain ⟨hS, hfc, kC, hkC, hkind⟩ := hK.2.1.1 ci r hr
  obtain ⟨cf, kf, fi, f, hi, hsl⟩ := hS j hj
  obtain ⟨hcn, hin, hty, hnm⟩ := okCls_all hr r hr
  have hap := va_apart (own := r.1) hts hin (aTy ci) hty hnm hK.2.1 hr
  have hst := (u_facts hfc hkC (u_lays hts hin hj) hi).1
  have hlay := hts _ (hin _ (u_in_lay hj))
  have hi' := hi
  rw [hdecl] at hi'
  have fin : ∀ H' : Heap, H'[G.1 x]? = some (cell.setSlot f.slot (cvv G.1 v)) → H'.size = H.size → (∀ q, q ≠ G.1 x → H'[q]? = H[q]?) → W p l e R s m args below meth c H' (locs ++ [⟨G.1 x, f.slot⟩]) cells slots (MQ below (aQc G Q) args s mc ms (aFree G)) (F0 m (pc + 3) ls (st.map (cvv G.1))) := by
    intro H' z1 z2 z3
    refine k p e R s m args below meth c ls H' _ cells slots ⟨E.1, E.2.1, E.2.2.1, E.2.2.2.1.put hK.1 hx hx2 z2 z3 (Or.inl ⟨?_, r, ?_, o1, ?_⟩), fun q hq => ?_, E.2.2.2.2.2⟩
    · rw [hk]; have := aCl_lt hr; show ci < 20; omega
    · rw [hk]; exact hr
    · rw [hk]
      rw [hsl] at z1
      refine t_OB.to (V := updV (fun q => cvv G.1 ((h.2 x).2.2 q)) j (cvv G.1 v)) ⟨_, z1, q2, q3, t_set q4 hap hj (cvv G.1 v)⟩ (fun q _ => ?_)
      by_cases hq : q = j
      · simp [updV, hq]
      · simp [updV, hq]
    · rcases List.mem_append.mp hq with z | z
      · exact E.2.2.2.2.1 q z
      · rw [List.mem_singleton] at z
        subst z
        show G.2.1.size ≤ G.1 x
        rw [hK.1.1 x hx]; omega
  by_cases hff : (r.2.1 j).2.2.2 = true
  · have hin2 : ci = mC y ∧ (mN y).name = "<init>" := by
      rcases hfin with ⟨r', g1, g2⟩ | g
      · rw [Option.some.inj (g1.symm.trans hr), hff] at g2; cases g2
      · exact g
    unfold u_lay at hlay
    rw [if_pos hff] at hlay
    have hcf : m.cls = cf := by
      obtain ⟨_, _, c2, _, _, _, -, -, hf', -, -, -, hown2, -⟩ := Cond.laysFinal_spec hlay
      have e1 : c2 = cf := by have := hi.symm.trans hf'; simp at this; exact this.1.symm
      rw [hdecl, hcn, hin2.1] at hown2
      rw [← e1]; exact Option.some.inj (hown.symm.trans hown2)
    have h6 := u_fits hfc hkC hkind (Or.inr hlay) hi (hty j hj) (cvv_nar (σ := G.1) hn) (cvv_fit (σ := G.1) hfit)
    exact W.putFinK hex hb hown (hts _ hlink) hi' hst hcf (hname hin2.2) (by rw [q2]; exact h6) q1 q3 (by rw [hsl]; exact k2_hasslot (q4 j hj)) rfl rfl hd fin
  · have hff : (r.2.1 j).2.2.2 = false := by cases hb2 : (r.2.1 j).2.2.2 <;> simp_all
    unfold u_lay at hlay
    rw [if_neg (by rw [hff]; decide)] at hlay
    have h6 := u_store hfc hkC hkind hlay hi (hty j hj) (cvv_nar (σ := G.1) hn) (cvv_fit (σ := G.1) hfit)
    exact W.putK hex hb (f := f) ⟨hown, hts _ hlink, ⟨_, _, _, hi'⟩, hst⟩ (by rw [q2]; exact h6) q1 q3 (by rw [hsl]; exact k2_hasslot (q4 j hj)) rfl rfl hd fin
theorem s_alen {x : Nat} (hd : decode (mB y) pc = .ok (.arraylength, 1)) (hx : x < h.1) (hk : 20 ≤ (h.2 x).1) (k : aAt l G d mc ms y (pc + 1) lv (.int (Int32.ofNat (h.2 x).2.1) :: st) bc bs h Q) : aAt l G d mc ms y pc lv (.ref x :: st) bc bs h Q := by
  intro p e R s m args below meth c ls H locs cells slots E
  obtain ⟨cell, c1, c2, c3, c4, c5, c6⟩ := aArr E.1.2.2.2.2.2.1 E.2.2.2.1 hx hk
  exact W.alen E.1.1 E.1.2.1 c1 c2 c5 rfl rfl hd (k p e R s m args below meth c ls H locs cells slots E)
theorem s_iaload {x : Nat} {i : Int32} {w : Int32} (hd : decode (mB y) pc = .ok (.iaload, 1)) (hx : x < h.1) (hk : (h.2 x).1 = 20) (hin : vp_in i (h.2 x).2.1) (hv : (h.2 x).2.2 i.toNatClampNeg = .int w) (k : aAt l G d mc ms y (pc + 1) lv (.int w :: st) bc bs h Q) : aAt l G d mc ms y pc lv (.int i :: .ref x :: st) bc bs h Q := by
  intro p e R s m args below meth c ls H locs cells slots E
  obtain ⟨cell, c1, c2, c3, c4, c5, c6⟩ := aArr E.1.2.2.2.2.2.1 E.2.2.2.1 hx (by rw [hk]; decide)
  rw [hk] at c2
  have hlt : i.toNatClampNeg < (h.2 x).2.1 := Nat.not_le.mp fun q => hin (Or.inr q)
  exact W.iald E.1.1 E.1.2.1 c1 c2 c3 (fun q => hin (q.elim Or.inl (fun z => Or.inr (Nat.le_trans c4 z)))) (v := .int w) (by rw [c6 _ hlt, hv]; rfl) rfl rfl hd (k p e R s m args below meth c ls H locs cells slots E)
theorem s_laload {x : Nat} {i : Int32} {w : Int64} (hd : decode (mB y) pc = .ok (.laload, 1)) (hx : x < h.1) (hk : (h.2 x).1 = 21) (hin : vp_in i (h.2 x).2.1) (hv : (h.2 x).2.2 i.toNatClampNeg = .long w) (k : aAt l G d mc ms y (pc + 1) lv (.long w :: st) bc bs h Q) : aAt l G d mc ms y pc lv (.int i :: .ref x :: st) bc bs h Q := by
  intro p e R s m args below meth c ls H locs cells slots E
  obtain ⟨cell, c1, c2, c3, c4, c5, c6⟩ := aArr E.1.2.2.2.2.2.1 E.2.2.2.1 hx (by rw [hk]; decide)
  rw [hk] at c2
  have hlt : i.toNatClampNeg < (h.2 x).2.1 := Nat.not_le.mp fun q => hin (Or.inr q)
  exact W.lald E.1.1 E.1.2.1 c1 c2 c3 (fun q => hin (q.elim Or.inl (fun z => Or.inr (Nat.le_trans c4 z)))) (v := .long w) (by rw [c6 _ hlt, hv]; rfl) rfl rfl hd (k p e R s m args below meth c ls H locs cells slots E)
theorem s_baload {x : Nat} {i : Int32} {w : Int32} (hd : decode (mB y) pc = .ok (.baload, 1)) (hx : x < h.1) (hk : (h.2 x).1 = 22) (hin : vp_in i (h.2 x).2.1) (hv : (h.2 x).2.2 i.toNatClampNeg = .int w) (k : aAt l G d mc ms y (pc + 1) lv (.int w :: st) bc bs h Q) : aAt l G d mc ms y pc lv (.int i :: .ref x :: st) bc bs h Q := by
  intro p e R s m args below meth c ls H locs cells slots E
  obtain ⟨cell, c1, c2, c3, c4, c5, c6⟩ := aArr E.1.2.2.2.2.2.1 E.2.2.2.1 hx (by rw [hk]; decide)
  rw [hk] at c2
  have hlt : i.toNatClampNeg < (h.2 x).2.1 := Nat.not_le.mp fun q => hin (Or.inr q)
  exact W.bald E.1.1 E.1.2.1 c1 c2 c3 (fun q => hin (q.elim Or.inl (fun z => Or.inr (Nat.le_trans c4 z)))) (v := .int w) (by rw [c6 _ hlt, hv]; rfl) rfl rfl hd (k p e R s m args below meth c ls H locs cells slots E)
theorem s_caload {x : Nat} {i : Int32} {w : Int32} (hd : decode (mB y) pc = .ok (.caload, 1)) (hx : x < h.1) (hk : (h.2 x).1 = 23) (hin : vp_in i (h.2 x).2.1) (hv : (h.2 x).2.2 i.toNatClampNeg = .int w) (k : aAt l G d mc ms y (pc + 1) lv (.int w :: st) bc bs h Q) : aAt l G d mc ms y pc lv (.int i :: .ref x :: st) bc bs h Q := by
  intro p e R s m args below meth c ls H locs cells slots E
  obtain ⟨cell, c1, c2, c3, c4, c5, c6⟩ := aArr E.1.2.2.2.2.2.1 E.2.2.2.1 hx (by rw [hk]; decide)
  rw [hk] at c2
  have hlt : i.toNatClampNeg < (h.2 x).2.1 := Nat.not_le.mp fun q => hin (Or.inr q)
  exact W.cald E.1.1 E.1.2.1 c1 c2 c3 (fun q => hin (q.elim Or.inl (fun z => Or.inr (Nat.le_trans c4 z)))) (v := .int w) (by rw [c6 _ hlt, hv]; rfl) rfl rfl hd (k p e R s m args below meth c ls H locs cells slots E)
theorem s_zaload {x : Nat} {i : Int32} {w : Int32} (hd : decode (mB y) pc = .ok (.baload, 1)) (hx : x < h.1) (hk : (h.2 x).1 = 24) (hin : vp_in i (h.2 x).2.1) (hv : (h.2 x).2.2 i.toNatClampNeg = .int w) (k : aAt l G d mc ms y (pc + 1) lv (.int w :: st) bc bs h Q) : aAt l G d mc ms y pc lv (.int i :: .ref x :: st) bc bs h Q := by
  intro p e R s m args below meth c ls H locs cells slots E
  obtain ⟨cell, c1, c2, c3, c4, c5, c6⟩ := aArr E.1.2.2.2.2.2.1 E.2.2.2.1 hx (by rw [hk]; decide)
  rw [hk] at c2
  have hlt : i.toNatClampNeg < (h.2 x).2.1 := Nat.not_le.mp fun q => hin (Or.inr q)
  exact W.zald E.1.1 E.1.2.1 c1 c2 c3 (fun q => hin (q.elim Or.inl (fun z => Or.inr (Nat.le_trans c4 z)))) (v := .int w) (by rw [c6 _ hlt, hv]; rfl) rfl rfl hd (k p e R s m args below meth c ls H locs cells slots E)
theorem s_aaload {x : Nat} {i : Int32} {w : Value} (hd : decode (mB y) pc = .ok (.aaload, 1)) (hx : x < h.1) (hk : 30 ≤ (h.2 x).1) (hin : vp_in i (h.2 x).2.1) (hv : (h.2 x).2.2 i.toNatClampNeg = w) (k : aAt l G d mc ms y (pc + 1) lv (w :: st) bc bs h Q) : aAt l G d mc ms y pc lv (.int i :: .ref x :: st) bc bs h Q := by
  intro p e R s m args below meth c ls H locs cells slots E
  have h8 : 8 ≤ x := by
    rcases Nat.lt_or_ge x 8 with q | q
    · have e1 := E.2.2.2.1.2.2.2.1 x q
      rw [e1] at hk
      exact absurd hk (aOldNo E.1.2.2.2.2.2.1 q)
    · exact q
  obtain ⟨a1, a2, a3⟩ := (E.2.2.2.1.2.2.2.2 x h8 hx).arr (by omega)
  obtain ⟨t, ht⟩ := aTys_at (cA := G.2.2.2.1) a1
  obtain ⟨C, hC, -⟩ := E.1.2.2.2.2.2.1.2.2.2.1 (h.2 x).1 hk (aKs_le a1)
  have hlt : i.toNatClampNeg < (h.2 x).2.1 := Nat.not_le.mp fun q => hin (Or.inr q)
  exact W.aald E.1.1 E.1.2.1 a3 ((E.1.2.2.2.2.2.1.2.1.2 t _ ht).1 _ _) (by rw [hC]; rfl) (fun q => by cases q) (by rw [arrV_size]; exact hin) (v := cvv G.1 w) (by rw [arrV_read _ _ hlt, hv]) rfl rfl hd (k p e R s m args below meth c ls H locs cells slots E)
theorem s_iastore {x : Nat} {i : Int32} {w : Int32} (hd : decode (mB y) pc = .ok (.iastore, 1)) (hx : 8 ≤ x) (hx2 : x < h.1) (hk : (h.2 x).1 = 20) (hin : vp_in i (h.2 x).2.1) (k : aAt l G d mc ms y (pc + 1) lv st bc bs (hset h x i.toNatClampNeg (.int w)) Q) : aAt l G d mc ms y pc lv (.int w :: .int i :: .ref x :: st) bc bs h Q := by
  intro p e R s m args below meth c ls H locs cells slots E
  obtain ⟨a1, a2, a3⟩ := (E.2.2.2.1.2.2.2.2 x hx hx2).arr (by rw [hk]; decide)
  obtain ⟨t, ht⟩ := aTys_at (cA := G.2.2.2.1) a1
  have har := (E.1.2.2.2.2.2.1.2.1.2 t _ ht).1 (h.2 x).2.1 (fun j => cvv G.1 ((h.2 x).2.2 j))
  have har2 : s.isArrayOf (arrV (G.2.2.2.1 (h.2 x).1) (h.2 x).2.1 (fun j => cvv G.1 ((h.2 x).2.2 j))) (aty 20) := by rw [hk] at har ⊢; exact har
  exact W.iast E.1.1 E.1.2.1 a3 har2 (fun q => by cases q) (by rw [arrV_size]; exact hin) rfl rfl hd fun H1 e1 z1 o1 =>
    k p e R s m args below meth c ls H1 _ cells slots ⟨E.1, E.2.1, E.2.2.1, E.2.2.2.1.astore E.1.2.2.2.2.2.1.1 hx hx2 (by rw [hk]; decide) z1 o1 e1, fun q hq => by
      rcases List.mem_append.mp hq with z | z
      · exact E.2.2.2.2.1 q z
      · rw [List.mem_singleton] at z
        subst z
        show G.2.1.size ≤ G.1 x
        rw [E.1.2.2.2.2.2.1.1.1 x hx]; omega, E.2.2.2.2.2⟩
theorem s_lastore {x : Nat} {i : Int32} {w : Int64} (hd : decode (mB y) pc = .ok (.lastore, 1)) (hx : 8 ≤ x) (hx2 : x < h.1) (hk : (h.2 x).1 = 21) (hin : vp_in i (h.2 x).2.1) (k : aAt l G d mc ms y (pc + 1) lv st bc bs (hset h x i.toNatClampNeg (.long w)) Q) : aAt l G d mc ms y pc lv (.long w :: .int i :: .ref x :: st) bc bs h Q := by
  intro p e R s m args below meth c ls H locs cells slots E
  obtain ⟨a1, a2, a3⟩ := (E.2.2.2.1.2.2.2.2 x hx hx2).arr (by rw [hk]; decide)
  obtain ⟨t, ht⟩ := aTys_at (cA := G.2.2.2.1) a1
  have har := (E.1.2.2.2.2.2.1.2.1.2 t _ ht).1 (h.2 x).2.1 (fun j => cvv G.1 ((h.2 x).2.2 j))
  have har2 : s.isArrayOf (arrV (G.2.2.2.1 (h.2 x).1) (h.2 x).2.1 (fun j => cvv G.1 ((h.2 x).2.2 j))) (aty 21) := by rw [hk] at har ⊢; exact har
  exact W.last E.1.1 E.1.2.1 a3 har2 (fun q => by cases q) (by rw [arrV_size]; exact hin) rfl rfl hd fun H1 e1 z1 o1 =>
    k p e R s m args below meth c ls H1 _ cells slots ⟨E.1, E.2.1, E.2.2.1, E.2.2.2.1.astore E.1.2.2.2.2.2.1.1 hx hx2 (by rw [hk]; decide) z1 o1 e1, fun q hq => by
      rcases List.mem_append.mp hq with z | z
      · exact E.2.2.2.2.1 q z
      · rw [List.mem_singleton] at z
        subst z
        show G.2.1.size ≤ G.1 x
        rw [E.1.2.2.2.2.2.1.1.1 x hx]; omega, E.2.2.2.2.2⟩
theorem s_bastore {x : Nat} {i : Int32} {w : Int32} (hd : decode (mB y) pc = .ok (.bastore, 1)) (hx : 8 ≤ x) (hx2 : x < h.1) (hk : (h.2 x).1 = 22) (hin : vp_in i (h.2 x).2.1) (k : aAt l G d mc ms y (pc + 1) lv st bc bs (hset h x i.toNatClampNeg (.int (vp_nar .byte w))) Q) : aAt l G d mc ms y pc lv (.int w :: .int i :: .ref x :: st) bc bs h Q := by
  intro p e R s m args below meth c ls H locs cells slots E
  obtain ⟨a1, a2, a3⟩ := (E.2.2.2.1.2.2.2.2 x hx hx2).arr (by rw [hk]; decide)
  obtain ⟨t, ht⟩ := aTys_at (cA := G.2.2.2.1) a1
  have har := (E.1.2.2.2.2.2.1.2.1.2 t _ ht).1 (h.2 x).2.1 (fun j => cvv G.1 ((h.2 x).2.2 j))
  have har2 : s.isArrayOf (arrV (G.2.2.2.1 (h.2 x).1) (h.2 x).2.1 (fun j => cvv G.1 ((h.2 x).2.2 j))) (aty 22) := by rw [hk] at har ⊢; exact har
  exact W.bast E.1.1 E.1.2.1 a3 har2 (fun q => by cases q) (by rw [arrV_size]; exact hin) rfl rfl hd fun H1 e1 z1 o1 =>
    k p e R s m args below meth c ls H1 _ cells slots ⟨E.1, E.2.1, E.2.2.1, E.2.2.2.1.astore E.1.2.2.2.2.2.1.1 hx hx2 (by rw [hk]; decide) z1 o1 e1, fun q hq => by
      rcases List.mem_append.mp hq with z | z
      · exact E.2.2.2.2.1 q z
      · rw [List.mem_singleton] at z
        subst z
        show G.2.1.size ≤ G.1 x
        rw [E.1.2.2.2.2.2.1.1.1 x hx]; omega, E.2.2.2.2.2⟩
theorem s_castore {x : Nat} {i : Int32} {w : Int32} (hd : decode (mB y) pc = .ok (.castore, 1)) (hx : 8 ≤ x) (hx2 : x < h.1) (hk : (h.2 x).1 = 23) (hin : vp_in i (h.2 x).2.1) (k : aAt l G d mc ms y (pc + 1) lv st bc bs (hset h x i.toNatClampNeg (.int (vp_nar .char w))) Q) : aAt l G d mc ms y pc lv (.int w :: .int i :: .ref x :: st) bc bs h Q := by
  intro p e R s m args below meth c ls H locs cells slots E
  obtain ⟨a1, a2, a3⟩ := (E.2.2.2.1.2.2.2.2 x hx hx2).arr (by rw [hk]; decide)
  obtain ⟨t, ht⟩ := aTys_at (cA := G.2.2.2.1) a1
  have har := (E.1.2.2.2.2.2.1.2.1.2 t _ ht).1 (h.2 x).2.1 (fun j => cvv G.1 ((h.2 x).2.2 j))
  have har2 : s.isArrayOf (arrV (G.2.2.2.1 (h.2 x).1) (h.2 x).2.1 (fun j => cvv G.1 ((h.2 x).2.2 j))) (aty 23) := by rw [hk] at har ⊢; exact har
  exact W.cast E.1.1 E.1.2.1 a3 har2 (fun q => by cases q) (by rw [arrV_size]; exact hin) rfl rfl hd fun H1 e1 z1 o1 =>
    k p e R s m args below meth c ls H1 _ cells slots ⟨E.1, E.2.1, E.2.2.1, E.2.2.2.1.astore E.1.2.2.2.2.2.1.1 hx hx2 (by rw [hk]; decide) z1 o1 e1, fun q hq => by
      rcases List.mem_append.mp hq with z | z
      · exact E.2.2.2.2.1 q z
      · rw [List.mem_singleton] at z
        subst z
        show G.2.1.size ≤ G.1 x
        rw [E.1.2.2.2.2.2.1.1.1 x hx]; omega, E.2.2.2.2.2⟩
theorem s_zastore {x : Nat} {i : Int32} {w : Int32} (hd : decode (mB y) pc = .ok (.bastore, 1)) (hx : 8 ≤ x) (hx2 : x < h.1) (hk : (h.2 x).1 = 24) (hin : vp_in i (h.2 x).2.1) (k : aAt l G d mc ms y (pc + 1) lv st bc bs (hset h x i.toNatClampNeg (.int (vp_nar .boolean w))) Q) : aAt l G d mc ms y pc lv (.int w :: .int i :: .ref x :: st) bc bs h Q := by
  intro p e R s m args below meth c ls H locs cells slots E
  obtain ⟨a1, a2, a3⟩ := (E.2.2.2.1.2.2.2.2 x hx hx2).arr (by rw [hk]; decide)
  obtain ⟨t, ht⟩ := aTys_at (cA := G.2.2.2.1) a1
  have har := (E.1.2.2.2.2.2.1.2.1.2 t _ ht).1 (h.2 x).2.1 (fun j => cvv G.1 ((h.2 x).2.2 j))
  have har2 : s.isArrayOf (arrV (G.2.2.2.1 (h.2 x).1) (h.2 x).2.1 (fun j => cvv G.1 ((h.2 x).2.2 j))) (aty 24) := by rw [hk] at har ⊢; exact har
  exact W.zast E.1.1 E.1.2.1 a3 har2 (fun q => by cases q) (by rw [arrV_size]; exact hin) rfl rfl hd fun H1 e1 z1 o1 =>
    k p e R s m args below meth c ls H1 _ cells slots ⟨E.1, E.2.1, E.2.2.1, E.2.2.2.1.astore E.1.2.2.2.2.2.1.1 hx hx2 (by rw [hk]; decide) z1 o1 e1, fun q hq => by
      rcases List.mem_append.mp hq with z | z
      · exact E.2.2.2.2.1 q z
      · rw [List.mem_singleton] at z
        subst z
        show G.2.1.size ≤ G.1 x
        rw [E.1.2.2.2.2.2.1.1.1 x hx]; omega, E.2.2.2.2.2⟩
end Rows
