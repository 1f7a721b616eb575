/-! ===== new cells, answers, constants, calls ===== -/
def aDef (ci : Nat) : Nat → Value := fun j => defaultValue (aTy ci j)
def cats (st : List Value) : Nat := (st.map fun v => v.category).sum
theorem cats_cv (σ : Nat → Nat) (st : List Value) : ((st.map (cvv σ)).map fun v => v.category).sum = cats st := by
  unfold cats
  rw [List.map_map]
  congr 2
  funext v
  exact cvv_cat σ v
theorem cvv_def (σ : Nat → Nat) (ty : FieldType) : cvv σ (defaultValue ty) = defaultValue ty := by cases ty <;> rfl
def akOf (t : ArrayType) : Nat := match t with
  | .int => 20
  | .long => 21
  | .byte => 22
  | .char => 23
  | .boolean => 24
  | _ => 99
theorem akOf_ty {t : ArrayType} (h : akOf t ≠ 99) : newarray.typeOf t = aty (akOf t) ∧ akOf t ∈ aKs ∧ Cond.arrayClass (newarray.typeOf t) ∈ aT ∧ componentBytes (newarray.typeOf t) ≤ 8 := by
  cases t <;> first
    | exact absurd rfl h
    | exact ⟨rfl, by decide, aT_in (sg_1 (i := 97) rfl) rfl, by decide⟩
    | exact ⟨rfl, by decide, aT_in (sg_2 (i := 119) rfl) rfl, by decide⟩
    | exact ⟨rfl, by decide, aT_in (sg_4 (i := 123) rfl) rfl, by decide⟩
    | exact ⟨rfl, by decide, aT_in (sg_6 (i := 28) rfl) rfl, by decide⟩
    | exact ⟨rfl, by decide, aT_in (sg_6 (i := 27) rfl) rfl, by decide⟩
section Rows
variable {l : Launch} {G : aG} {d mc ms y pc : Nat} {lv : List (Nat × Value)} {st : List Value} {bc bs : Nat} {h : aHeap} {Q : Option Value → aHeap → Prop}
theorem s_ldc {i c' i' : Nat} {v : Int32} (hd : decode (mB y) pc = .ok (.ldc i, 2)) (hf : kon (mC y) i = some (c', i', v)) (k : aAt l G d mc ms y (pc + 2) lv (.int v :: st) bc bs h Q) : aAt l G d mc ms y pc lv st bc bs h Q := by
  intro p e R s m args below meth c ls H locs cells slots E
  obtain ⟨e1, e2, e3⟩ := kon_ok hf
  dsimp only at e1 e2 e3
  subst e1 e2
  exact lv_ldc E.1.1 E.1.2.1 E.1.2.2.2.1 (E.1.2.2.2.2.1 _ e3) hd (k p e R s m args below meth c ls H locs cells slots E)
theorem s_ldc2 {i c' i' : Nat} {v : Int64} (hd : decode (mB y) pc = .ok (.ldc2_w i, 3)) (hf : konl (mC y) i = some (c', i', v)) (k : aAt l G d mc ms y (pc + 3) lv (.long v :: st) bc bs h Q) : aAt l G d mc ms y pc lv st bc bs h Q := by
  intro p e R s m args below meth c ls H locs cells slots E
  obtain ⟨e1, e2, e3⟩ := konl_ok hf
  dsimp only at e1 e2 e3
  subst e1 e2
  exact lv_ldc2 E.1.1 E.1.2.1 E.1.2.2.2.1 (E.1.2.2.2.2.1 _ e3) hd (k p e R s m args below meth c ls H locs cells slots E)
theorem s_new {i c' i' ci N : Nat} (hd : decode (mB y) pc = .ok (.new i, 3)) (hf : ncl (mC y) i = some (c', i', ci)) (hN : ∃ r : vw_C, aCl[ci]? = some r ∧ r.2.2 = N) (hc : 1 ≤ bc) (hs : N ≤ bs) (k : aAt l G d mc ms y (pc + 3) lv (.ref h.1 :: st) (bc - 1) (bs - N) (hnew h (ci, N, aDef ci)) Q) : aAt l G d mc ms y pc lv st bc bs h Q := by
  intro p e R s m args below meth c ls H locs cells slots E
  obtain ⟨e1, e2, r, hr, n1, n2, n3⟩ := ncl_ok hf
  dsimp only at e1 e2 hr n1
  subst e1 e2
  obtain ⟨r', hr', hN'⟩ := hN
  have : r' = r := Option.some.inj (hr'.symm.trans hr)
  subst this
  subst hN'
  obtain ⟨hex, hb, hml, hown, hts, hK, hlo, hret, hname⟩ := id E.1
  obtain ⟨rc, rs, rf, rl⟩ := id E.2.1
  obtain ⟨hcn, hin, hty, hnm⟩ := okCls_all hr r' hr
  have hKn := hK.2.1.1 ci r' hr
  have hsz : H.size = G.1 h.1 := by rw [hK.1.1 h.1 E.2.2.2.1.1]; exact E.2.2.2.1.2.1
  refine W.newcK hex hb hown (hts _ n1) (hts _ n2) (hts _ n3) rfl hd (by rw [rc]; have := E.2.2.2.2.2.1; omega) (by rw [rs]; have := E.2.2.2.2.2.2; omega) hKn.2.1 rfl fun H1 kC hkC w1 z1 o1 => ?_
  have key : aNew G h.1 (ci, r'.2.2, aDef ci) H1 := by
    refine Or.inl ⟨by have := aCl_lt hr; show ci < 20; omega, r', hr, rfl, ?_⟩
    rw [← hsz]
    refine (u_born (aTy ci) hts hin hKn hkC w1 hty).to (fun q _ => ?_)
    exact (cvv_def G.1 _).symm
  have := k p e R s m args below meth c ls H1 locs (cells + 1) (slots + r'.2.2) ⟨E.1, E.2.1, E.2.2.1, E.2.2.2.1.push hK.1 z1 o1 key, E.2.2.2.2.1, by have := E.2.2.2.2.2.1; omega, by have := E.2.2.2.2.2.2; omega⟩
  rw [List.map_cons, show cvv G.1 (.ref h.1) = Value.ref H.size by rw [hsz]; rfl] at this
  exact this
theorem s_newarray {t : ArrayType} {n : Int32} {N : Nat} (hd : decode (mB y) pc = .ok (.newarray t, 2)) (ht : akOf t ≠ 99) (hn : ¬ n < 0) (hN : n.toNatClampNeg = N) (hb : N ≤ 60000) (hc : 1 ≤ bc) (hs : N ≤ bs) (k : aAt l G d mc ms y (pc + 2) lv (.ref h.1 :: st) (bc - 1) (bs - N) (hnew h (akOf t, N, fun _ => defaultValue (aty (akOf t)))) Q) : aAt l G d mc ms y pc lv (.int n :: st) bc bs h Q := by
  intro p e R s m args below meth c ls H locs cells slots E
  obtain ⟨hex, hb1, hml, hown, hts, hK, hlo, hret, hname⟩ := id E.1
  obtain ⟨rc, rs, rf, rl⟩ := id E.2.1
  obtain ⟨t1, t2, t3, t4⟩ := akOf_ty ht
  have hsz : H.size = G.1 h.1 := by rw [hK.1.1 h.1 E.2.2.2.1.1]; exact E.2.2.2.1.2.1
  refine va_newaK hex hb1 (hts _ t3) rfl hd rfl hn hN (by have : N * componentBytes (newarray.typeOf t) ≤ 60000 * 8 := Nat.mul_le_mul hb t4; omega) (by rw [rc]; have := E.2.2.2.2.2.1; omega) (by rw [rs]; have := E.2.2.2.2.2.2; omega) rfl fun H1 cA w1 z1 o1 hA hfc => ?_
  obtain ⟨q, hq⟩ := aTys_at (cA := G.2.2.2.1) t2
  have hra := (hK.2.1.2 q _ hq).2
  have hcA : cA = G.2.2.2.1 (akOf t) := by
    have h2 : s.vm.findClass ("[" ++ (aty (akOf t)).toString) = some (G.2.2.2.1 (akOf t)) := by
      cases t <;> first | exact absurd rfl ht | exact hra
    rw [t1] at hfc
    exact Option.some.inj (hfc.symm.trans h2)
  subst hcA
  have key : aNew G h.1 (akOf t, N, fun _ => defaultValue (aty (akOf t))) H1 := by
    refine Or.inr ⟨t2, by show N < 2 ^ 31; omega, ?_⟩
    rw [← hsz, w1, t1]
    congr 2
    funext _
    exact (cvv_def G.1 _).symm
  have := k p e R s m args below meth c ls H1 locs (cells + 1) (slots + N) ⟨E.1, E.2.1, E.2.2.1, E.2.2.2.1.push hK.1 z1 o1 key, E.2.2.2.2.1, by have := E.2.2.2.2.2.1; omega, by have := E.2.2.2.2.2.2; omega⟩
  rw [List.map_cons, show cvv G.1 (.ref h.1) = Value.ref H.size by rw [hsz]; rfl] at this
  exact this
/-- anewarray: the kind by the table of classes -/
theorem s_anewarray {i ak : Nat} {n : Int32} {N : Nat} {C : String} (hd : decode (mB y) pc = .ok (.anewarray i, 3)) (hl : Cond.classLink (cNm (mC y)) i C ∈ aT) (h1 : 30 ≤ ak) (h2 : ak ≤ 35) (hC : aty ak = .object C) (hn : ¬ n < 0) (hN : n.toNatClampNeg = N) (hb : N ≤ 60000) (hc : 1 ≤ bc) (hs : N ≤ bs) (k : aAt l G d mc ms y (pc + 3) lv (.ref h.1 :: st) (bc - 1) (bs - N) (hnew h (ak, N, fun _ => .null)) Q) : aAt l G d mc ms y pc lv (.int n :: st) bc bs h Q := by
  intro p e R s m args below meth c ls H locs cells slots E
  obtain ⟨hex, hb1, hml, hown, hts, hK, hlo, hret, hname⟩ := id E.1
  obtain ⟨rc, rs, rf, rl⟩ := id E.2.1
  have hsz : H.size = G.1 h.1 := by rw [hK.1.1 h.1 E.2.2.2.1.1]; exact E.2.2.2.1.2.1
  obtain ⟨C', hC', hov⟩ := hK.2.2.2.1 ak h1 h2
  have hCC : C' = C := by rw [hC] at hC'; exact (FieldType.object.inj hC').symm
  subst hCC
  subst hN
  refine W.anew hex hb1 hown (hts _ hl) (va_AO.use hov) rfl hd rfl hn (by omega) (by rw [rc]; have := E.2.2.2.2.2.1; omega) (by rw [rs]; have := E.2.2.2.2.2.2; omega) fun cA kA comp f1 f2 f3 f4 => ?_
  have hin : ak ∈ aKs := by
    have : ak = 30 ∨ ak = 31 ∨ ak = 32 ∨ ak = 33 ∨ ak = 34 ∨ ak = 35 := by omega
    rcases this with rfl | rfl | rfl | rfl | rfl | rfl <;> decide
  obtain ⟨q, hq⟩ := aTys_at (cA := G.2.2.2.1) hin
  have hra := (hK.2.1.2 q _ hq).2
  have hcA : cA = G.2.2.2.1 ak := by
    dsimp only at hra
    rw [hC] at hra
    obtain ⟨kA', comp', g1, g2, g3, g4⟩ := hra
    exact Option.some.inj (f1.symm.trans g4)
  subst hcA
  generalize hH1 : H.push ({ cls := G.2.2.2.1 ak, slots := Array.replicate n.toNatClampNeg .null, vm := .none } : Cell) = H1
  have z1 : H1.size = H.size + 1 := by rw [← hH1, Array.size_push]
  have w1 : H1[H.size]? = some (arrV (G.2.2.2.1 ak) n.toNatClampNeg (fun _ => .null)) := by rw [← hH1, Array.getElem?_push_size, ← arrV_new]
  have o1 : ∀ q : Nat, q < H.size → H1[q]? = H[q]? := fun q hq => by rw [← hH1, Array.getElem?_push, if_neg (Nat.ne_of_lt hq)]
  have key : aNew G h.1 (ak, n.toNatClampNeg, fun _ => .null) H1 := Or.inr ⟨hin, by show n.toNatClampNeg < 2 ^ 31; omega, by rw [← hsz]; exact w1⟩
  have := k p e R s m args below meth c ls H1 locs (cells + 1) (slots + n.toNatClampNeg) ⟨E.1, E.2.1, E.2.2.1, E.2.2.2.1.push hK.1 z1 o1 key, E.2.2.2.2.1, by have := E.2.2.2.2.2.1; omega, by have := E.2.2.2.2.2.2; omega⟩
  rw [List.map_cons, show cvv G.1 (.ref h.1) = Value.ref H.size by rw [hsz]; rfl] at this
  exact this
/-- a store of a reference: an object of the array's class -/
theorem s_aastore {x v : Nat} {i : Int32} (hd : decode (mB y) pc = .ok (.aastore, 1)) (hx : 8 ≤ x) (hx2 : x < h.1) (hk : 30 ≤ (h.2 x).1) (hv : 8 ≤ v) (hv2 : v < h.1) (hkv : (h.2 v).1 = aOf (h.2 x).1) (hin : vp_in i (h.2 x).2.1) (k : aAt l G d mc ms y (pc + 1) lv st bc bs (hset h x i.toNatClampNeg (.ref v)) Q) : aAt l G d mc ms y pc lv (.ref v :: .int i :: .ref x :: st) bc bs h Q := by
  intro p e R s m args below meth c ls H locs cells slots E
  obtain ⟨hex, hb1, hml, hown, hts, hK, hlo, hret, hname⟩ := id E.1
  obtain ⟨a1, a2, a3⟩ := (E.2.2.2.1.2.2.2.2 x hx hx2).arr (by omega)
  obtain ⟨t, ht⟩ := aTys_at (cA := G.2.2.2.1) a1
  have hlt : i.toNatClampNeg < (h.2 x).2.1 := Nat.not_le.mp fun q => hin (Or.inr q)
  have h0 : ¬ i < 0 := fun q => hin (Or.inl q)
  have hobj : ∃ (C : String) (r : vw_C), aty (h.2 x).1 = .object C ∧ aCl[aOf (h.2 x).1]? = some r ∧ r.1 = C := by
    have : (h.2 x).1 = 30 ∨ (h.2 x).1 = 31 ∨ (h.2 x).1 = 32 ∨ (h.2 x).1 = 33 ∨ (h.2 x).1 = 34 ∨ (h.2 x).1 = 35 := by have := aKs_le a1; omega
    rcases this with q | q | q | q | q | q <;> rw [q] <;> exact ⟨_, _, rfl, rfl, rfl⟩
  obtain ⟨C, r, o1, o2, o3⟩ := hobj
  subst o3
  obtain ⟨-, cellV, g1, g2, g3, -⟩ := (E.2.2.2.1.2.2.2.2 v hv hv2).obj (r := r) (by rw [hkv]; exact o2)
  rw [hkv] at g2
  have hcls := (hK.2.1.1 _ r o2).2
  have hra := (hK.2.1.2 t _ ht).2
  dsimp only at hra
  rw [o1] at hra
  obtain ⟨kA, comp, k1, k2, k3, -⟩ := hra
  have hcomp : comp = G.2.2.1.1 (aOf (h.2 x).1) := Option.some.inj (k3.symm.trans hcls.1)
  subst hcomp
  obtain ⟨kC, hkC, -⟩ := hcls.2
  refine W.aast hex hb1 a3 (fun q h => by cases h) (fun h => by cases h) k1 k2 rfl hkC ⟨h0, by rw [arrV_size]; exact hlt⟩ g1 (fun q h => by rw [g3] at h; cases h) (by rw [g2]; exact hkC) (by rw [g2]; exact va_assign hcls) rfl rfl hd fun H1 e1 z1 o1 => ?_
  exact k p e R s m args below meth c ls H1 _ cells slots ⟨E.1, E.2.1, E.2.2.1, E.2.2.2.1.astore hK.1 hx hx2 (by omega) z1 o1 e1, fun q hq => by
      rcases List.mem_append.mp hq with z | z
      · exact E.2.2.2.2.1 q z
      · rw [List.mem_singleton] at z
        subst z
        show G.2.1.size ≤ G.1 x
        rw [hK.1.1 x hx]; omega, E.2.2.2.2.2⟩
theorem s_aastoreN {x : Nat} {i : Int32} (hd : decode (mB y) pc = .ok (.aastore, 1)) (hx : 8 ≤ x) (hx2 : x < h.1) (hk : 30 ≤ (h.2 x).1) (hin : vp_in i (h.2 x).2.1) (k : aAt l G d mc ms y (pc + 1) lv st bc bs (hset h x i.toNatClampNeg .null) Q) : aAt l G d mc ms y pc lv (.null :: .int i :: .ref x :: st) bc bs h Q := by
  intro p e R s m args below meth c ls H locs cells slots E
  obtain ⟨hex, hb1, hml, hown, hts, hK, hlo, hret, hname⟩ := id E.1
  obtain ⟨a1, a2, a3⟩ := (E.2.2.2.1.2.2.2.2 x hx hx2).arr (by omega)
  obtain ⟨t, ht⟩ := aTys_at (cA := G.2.2.2.1) a1
  obtain ⟨C, hC, -⟩ := hK.2.2.2.1 (h.2 x).1 hk (aKs_le a1)
  have har := (hK.2.1.2 t _ ht).1 (h.2 x).2.1 (fun j => cvv G.1 ((h.2 x).2.2 j))
  dsimp only at har
  rw [hC] at har
  refine va_WaastN (C := C) hex hb1 a3 har (fun h => by cases h) (by rw [arrV_size]; exact hin) rfl rfl hd fun H1 e1 z1 o1 => ?_
  exact k p e R s m args below meth c ls H1 _ cells slots ⟨E.1, E.2.1, E.2.2.1, E.2.2.2.1.astore hK.1 hx hx2 (by omega) z1 o1 e1, fun q hq => by
      rcases List.mem_append.mp hq with z | z
      · exact E.2.2.2.2.1 q z
      · rw [List.mem_singleton] at z
        subst z
        show G.2.1.size ≤ G.1 x
        rw [hK.1.1 x hx]; omega, E.2.2.2.2.2⟩
theorem s_ireturn {v : Int32} {ty : FieldType} (hd : decode (mB y) pc = .ok (.ireturn, 1)) (hr : mR y = some ty) (hn : narrow ty (.int v) = .int v) (k : Q (some (.int v)) h) : aAt l G d mc ms y pc lv [.int v] bc bs h Q := by
  intro p e R s m args below meth c ls H locs cells slots E
  have hlocks := E.1.2.2.2.2.2.2.1
  refine W.widen (k := mc) (n := ms) (by have := E.2.2.2.2.2.1; omega) (by have := E.2.2.2.2.2.2; omega) ?_
  exact W.zret E.1.1 E.1.2.1 (E.1.2.2.2.2.2.2.2.1.trans hr) hn (fun t ht _ => ⟨some (.int v), h, rfl, by rw [ht]; exact E.2.2.2.1, k⟩) E.2.2.2.2.1 hd
theorem s_return (hd : decode (mB y) pc = .ok (.return_, 1)) (hr : mR y = none) (k : Q none h) : aAt l G d mc ms y pc lv [] bc bs h Q := by
  intro p e R s m args below meth c ls H locs cells slots E
  have hlocks := E.1.2.2.2.2.2.2.1
  refine W.widen (k := mc) (n := ms) (by have := E.2.2.2.2.2.1; omega) (by have := E.2.2.2.2.2.2; omega) ?_
  exact W.vret E.1.1 E.1.2.1 (E.1.2.2.2.2.2.2.2.1.trans hr) (fun t ht _ => ⟨none, h, rfl, by rw [ht]; exact E.2.2.2.1, k⟩) E.2.2.2.2.1 hd
theorem s_areturn {x : Nat} {rt : FieldType} (hd : decode (mB y) pc = .ok (.areturn, 1)) (hr : mR y = some rt) (hrt : (∃ n, rt = .object n) ∨ ∃ t, rt = .array t) (k : Q (some (.ref x)) h) : aAt l G d mc ms y pc lv [.ref x] bc bs h Q := by
  intro p e R s m args below meth c ls H locs cells slots E
  have hlocks := E.1.2.2.2.2.2.2.1
  refine W.widen (k := mc) (n := ms) (by have := E.2.2.2.2.2.1; omega) (by have := E.2.2.2.2.2.2; omega) ?_
  exact W.aret E.1.1 E.1.2.1 (E.1.2.2.2.2.2.2.2.1.trans hr) hrt (Or.inr ⟨G.1 x, rfl⟩) (fun t ht _ => ⟨some (.ref x), h, rfl, by rw [ht]; exact E.2.2.2.1, k⟩) E.2.2.2.2.1 hd
end Rows
