/-! ===== rows over the layout ===== -/
theorem lkp_keys {lv lv' : List (Nat × Value)} (h : lv'.map (fun q => lkp lv q.1) = lv'.map (fun q => some q.2)) : ∀ q ∈ lv', q ∈ lv := by
  induction lv' with
  | nil => intro q hq; cases hq
  | cons a r ih =>
    rw [List.map_cons, List.map_cons] at h
    injection h with h1 h2
    intro q hq
    rcases List.mem_cons.mp hq with rfl | hq
    · exact lkp_mem h1
    · exact ih h2 q hq
theorem nfit {ty : FieldType} {v : Int32} (h : ty = .int ∨ (ty = .boolean ∧ (v = 0 ∨ v = 1))) : narrow ty (.int v) = .int v ∧ fits ty (.int v) = true := by
  rcases h with rfl | ⟨rfl, rfl | rfl⟩
  · exact ⟨rfl, rfl⟩
  · exact ⟨rfl, rfl⟩
  · exact ⟨rfl, rfl⟩
section LRows
variable {l : Launch} {G : aG} {d mc ms y pc : Nat} {lv : List (Nat × Value)} {st : List Value} {bc bs : Nat} {h : aHeap} {Q : Option Value → aHeap → Prop}
variable {o : Nat → aCell} {k : Nat} {S : Nat → Nat → Int32} {K : Nat → Int64} {T : Nat → Nat → Value} {tl : Nat → Nat}
/-- fewer locals, in any order -/
theorem aAt.sub (lv' : List (Nat × Value)) (hs : lv'.map (fun q => lkp lv q.1) = lv'.map (fun q => some q.2)) (kk : aAt l G d mc ms y pc lv' st bc bs h Q) : aAt l G d mc ms y pc lv st bc bs h Q := by
  intro p e R s m args below meth c ls H locs cells slots E
  refine kk p e R s m args below meth c ls H locs cells slots ⟨E.1, E.2.1, ⟨E.2.2.1.1, E.2.2.1.2.1, fun q hq => ?_⟩, E.2.2.2⟩
  obtain ⟨z, hz, rfl⟩ := List.mem_map.mp hq
  exact E.2.2.1.2.2 _ (List.mem_map.mpr ⟨z, lkp_keys hs z hz, rfl⟩)
theorem L_getI {i c' i' ci j x : Nat} (hd : decode (mB y) pc = .ok (.getfield i, 3)) (hf : fld (mC y) i = some (c', i', ci, j)) (hx : ob k x ci) (hs : sc x j = 0) (kk : aAt l G d mc ms y (pc + 3) lv (.int (S x j) :: st) bc bs (lay o k S K T tl) Q) : aAt l G d mc ms y pc lv (.ref x :: st) bc bs (lay o k S K T tl) Q := by
  refine s_getfield hd hf hx.1 hx.2.1 (by rw [lay_2 hx.1]; exact hx.2.2) ?_
  rw [lay_2 hx.1]
  show aAt l G d mc ms y (pc + 3) lv (sv S K T x j :: st) bc bs (lay o k S K T tl) Q
  unfold sv
  rw [hs]
  exact kk
theorem L_getR {i c' i' ci j x q : Nat} (hd : decode (mB y) pc = .ok (.getfield i, 3)) (hf : fld (mC y) i = some (c', i', ci, j)) (hx : ob k x ci) (hs : sc x j = 3) (hr : rf x j = q) (kk : aAt l G d mc ms y (pc + 3) lv (.ref q :: st) bc bs (lay o k S K T tl) Q) : aAt l G d mc ms y pc lv (.ref x :: st) bc bs (lay o k S K T tl) Q := by
  refine s_getfield hd hf hx.1 hx.2.1 (by rw [lay_2 hx.1]; exact hx.2.2) ?_
  rw [lay_2 hx.1]
  show aAt l G d mc ms y (pc + 3) lv (sv S K T x j :: st) bc bs (lay o k S K T tl) Q
  unfold sv
  rw [hs]
  subst hr
  exact kk
theorem L_getT {i c' i' ci j x : Nat} (hd : decode (mB y) pc = .ok (.getfield i, 3)) (hf : fld (mC y) i = some (c', i', ci, j)) (hx : ob k x ci) (hs : sc x j = 2) (kk : aAt l G d mc ms y (pc + 3) lv (T x j :: st) bc bs (lay o k S K T tl) Q) : aAt l G d mc ms y pc lv (.ref x :: st) bc bs (lay o k S K T tl) Q := by
  refine s_getfield hd hf hx.1 hx.2.1 (by rw [lay_2 hx.1]; exact hx.2.2) ?_
  rw [lay_2 hx.1]
  show aAt l G d mc ms y (pc + 3) lv (sv S K T x j :: st) bc bs (lay o k S K T tl) Q
  unfold sv
  rw [hs]
  exact kk
def nonFin (ci j : Nat) : Bool := match aCl[ci]? with
  | none => false
  | some r => !(r.2.1 j).2.2.2
theorem nonFin_ok {ci j : Nat} (h : nonFin ci j = true) : ∃ r : vw_C, aCl[ci]? = some r ∧ (r.2.1 j).2.2.2 = false := by
  unfold nonFin at h
  cases hc : aCl[ci]? with
  | none => rw [hc] at h; cases h
  | some r =>
    rw [hc] at h
    exact ⟨r, rfl, by simpa using h⟩
theorem L_putI {i c' i' ci j x : Nat} {v : Int32} (hd : decode (mB y) pc = .ok (.putfield i, 3)) (hf : fld (mC y) i = some (c', i', ci, j)) (hx : ob k x ci) (hs : sc x j = 0) (hv : aTy ci j = .int ∨ (aTy ci j = .boolean ∧ (v = 0 ∨ v = 1))) (hfin : nonFin ci j = true) (kk : aAt l G d mc ms y (pc + 3) lv st bc bs (lay o k (up S x j v) K T tl) Q) : aAt l G d mc ms y pc lv (.int v :: .ref x :: st) bc bs (lay o k S K T tl) Q := by
  refine s_putfield hd hf hx.1 hx.2.1 (by rw [lay_2 hx.1]; exact hx.2.2) (nfit hv).1 (nfit hv).2 (Or.inl (nonFin_ok hfin)) ?_
  rw [lay_setI hx.1 hs]
  exact kk
theorem L_putT {i c' i' ci j x : Nat} {v : Value} {C : String} (hd : decode (mB y) pc = .ok (.putfield i, 3)) (hf : fld (mC y) i = some (c', i', ci, j)) (hx : ob k x ci) (hs : sc x j = 2) (hty : aTy ci j = .object C) (hv : v = .null ∨ ∃ q, v = .ref q) (hfin : nonFin ci j = true) (kk : aAt l G d mc ms y (pc + 3) lv st bc bs (lay o k S K (upT T x j v) tl) Q) : aAt l G d mc ms y pc lv (v :: .ref x :: st) bc bs (lay o k S K T tl) Q := by
  refine s_putfield hd hf hx.1 hx.2.1 (by rw [lay_2 hx.1]; exact hx.2.2) (by rw [hty]; rcases hv with rfl | ⟨q, rfl⟩ <;> rfl) (by rw [hty]; rcases hv with rfl | ⟨q, rfl⟩ <;> rfl) (Or.inl (nonFin_ok hfin)) ?_
  rw [lay_setT hx.1 hs]
  exact kk
theorem vpn {q n : Nat} (h : q < n) (hn : n < 2 ^ 31) : vp_in (nI q) n ∧ (nI q).toNatClampNeg = q := ⟨vp_in_nI h hn, nI_clamp (Nat.lt_trans h hn)⟩
theorem lay_ln {x : Nat} (hx : 8 ≤ x) : ((lay o k S K T tl).2 x).2.1 = ln tl x := by rw [lay_2 hx]
theorem lay_sv {x j : Nat} (hx : 8 ≤ x) : ((lay o k S K T tl).2 x).2.2 j = sv S K T x j := by rw [lay_2 hx]
theorem sv0 {x j : Nat} (h : sc x j = 0) : sv S K T x j = .int (S x j) := by unfold sv; rw [h]; rfl
theorem sv1 {x j : Nat} (h : sc x j = 1) : sv S K T x j = .long (K j) := by unfold sv; rw [h]; rfl
theorem sv2 {x j : Nat} (h : sc x j = 2) : sv S K T x j = T x j := by unfold sv; rw [h]; rfl
theorem sv3 {x j : Nat} (h : sc x j = 3) : sv S K T x j = .ref (rf x j) := by unfold sv; rw [h]; rfl
theorem L_alen {x ak n : Nat} (hd : decode (mB y) pc = .ok (.arraylength, 1)) (hx : ob k x ak) (hk : 20 ≤ ak) (hn : ln tl x = n) (kk : aAt l G d mc ms y (pc + 1) lv (.int (nI n) :: st) bc bs (lay o k S K T tl) Q) : aAt l G d mc ms y pc lv (.ref x :: st) bc bs (lay o k S K T tl) Q := by
  refine s_alen hd hx.2.1 (by rw [lay_2 hx.1]; show 20 ≤ kd x; rw [hx.2.2]; exact hk) ?_
  rw [lay_ln hx.1, hn]
  exact kk
theorem L_iaload {x q : Nat} {i : Int32} (hd : decode (mB y) pc = .ok (.iaload, 1)) (hx : ob k x 20) (hi : i = nI q) (hq : q < ln tl x) (hl : ln tl x < 2 ^ 31) (hs : sc x q = 0) (kk : aAt l G d mc ms y (pc + 1) lv (.int (S x q) :: st) bc bs (lay o k S K T tl) Q) : aAt l G d mc ms y pc lv (.int i :: .ref x :: st) bc bs (lay o k S K T tl) Q := by
  subst hi
  exact s_iaload hd hx.2.1 (by rw [lay_2 hx.1]; exact hx.2.2) (by rw [lay_ln hx.1]; exact (vpn hq hl).1) (by rw [lay_sv hx.1, (vpn hq hl).2, sv0 hs]) kk
theorem L_laload {x q : Nat} {i : Int32} (hd : decode (mB y) pc = .ok (.laload, 1)) (hx : ob k x 21) (hi : i = nI q) (hq : q < ln tl x) (hl : ln tl x < 2 ^ 31) (hs : sc x q = 1) (kk : aAt l G d mc ms y (pc + 1) lv (.long (K q) :: st) bc bs (lay o k S K T tl) Q) : aAt l G d mc ms y pc lv (.int i :: .ref x :: st) bc bs (lay o k S K T tl) Q := by
  subst hi
  exact s_laload hd hx.2.1 (by rw [lay_2 hx.1]; exact hx.2.2) (by rw [lay_ln hx.1]; exact (vpn hq hl).1) (by rw [lay_sv hx.1, (vpn hq hl).2, sv1 hs]) kk
theorem L_baload {x q : Nat} {i : Int32} (hd : decode (mB y) pc = .ok (.baload, 1)) (hx : ob k x 22) (hi : i = nI q) (hq : q < ln tl x) (hl : ln tl x < 2 ^ 31) (hs : sc x q = 0) (kk : aAt l G d mc ms y (pc + 1) lv (.int (S x q) :: st) bc bs (lay o k S K T tl) Q) : aAt l G d mc ms y pc lv (.int i :: .ref x :: st) bc bs (lay o k S K T tl) Q := by
  subst hi
  exact s_baload hd hx.2.1 (by rw [lay_2 hx.1]; exact hx.2.2) (by rw [lay_ln hx.1]; exact (vpn hq hl).1) (by rw [lay_sv hx.1, (vpn hq hl).2, sv0 hs]) kk
theorem L_caload {x q : Nat} {i : Int32} (hd : decode (mB y) pc = .ok (.caload, 1)) (hx : ob k x 23) (hi : i = nI q) (hq : q < ln tl x) (hl : ln tl x < 2 ^ 31) (hs : sc x q = 0) (kk : aAt l G d mc ms y (pc + 1) lv (.int (S x q) :: st) bc bs (lay o k S K T tl) Q) : aAt l G d mc ms y pc lv (.int i :: .ref x :: st) bc bs (lay o k S K T tl) Q := by
  subst hi
  exact s_caload hd hx.2.1 (by rw [lay_2 hx.1]; exact hx.2.2) (by rw [lay_ln hx.1]; exact (vpn hq hl).1) (by rw [lay_sv hx.1, (vpn hq hl).2, sv0 hs]) kk
theorem L_zaload {x q : Nat} {i : Int32} (hd : decode (mB y) pc = .ok (.baload, 1)) (hx : ob k x 24) (hi : i = nI q) (hq : q < ln tl x) (hl : ln tl x < 2 ^ 31) (hs : sc x q = 0) (kk : aAt l G d mc ms y (pc + 1) lv (.int (S x q) :: st) bc bs (lay o k S K T tl) Q) : aAt l G d mc ms y pc lv (.int i :: .ref x :: st) bc bs (lay o k S K T tl) Q := by
  subst hi
  exact s_zaload hd hx.2.1 (by rw [lay_2 hx.1]; exact hx.2.2) (by rw [lay_ln hx.1]; exact (vpn hq hl).1) (by rw [lay_sv hx.1, (vpn hq hl).2, sv0 hs]) kk
theorem L_aaload {x q ak r : Nat} {i : Int32} (hd : decode (mB y) pc = .ok (.aaload, 1)) (hx : ob k x ak) (hk : 30 ≤ ak) (hi : i = nI q) (hq : q < ln tl x) (hl : ln tl x < 2 ^ 31) (hs : sc x q = 3) (hr : rf x q = r) (kk : aAt l G d mc ms y (pc + 1) lv (.ref r :: st) bc bs (lay o k S K T tl) Q) : aAt l G d mc ms y pc lv (.int i :: .ref x :: st) bc bs (lay o k S K T tl) Q := by
  subst hi hr
  exact s_aaload hd hx.2.1 (by rw [lay_2 hx.1]; show 30 ≤ kd x; rw [hx.2.2]; exact hk) (by rw [lay_ln hx.1]; exact (vpn hq hl).1) (by rw [lay_sv hx.1, (vpn hq hl).2, sv3 hs]) kk
theorem L_aaloadT {x q ak : Nat} {i : Int32} (hd : decode (mB y) pc = .ok (.aaload, 1)) (hx : ob k x ak) (hk : 30 ≤ ak) (hi : i = nI q) (hq : q < ln tl x) (hl : ln tl x < 2 ^ 31) (hs : sc x q = 2) (kk : aAt l G d mc ms y (pc + 1) lv (T x q :: st) bc bs (lay o k S K T tl) Q) : aAt l G d mc ms y pc lv (.int i :: .ref x :: st) bc bs (lay o k S K T tl) Q := by
  subst hi
  exact s_aaload hd hx.2.1 (by rw [lay_2 hx.1]; show 30 ≤ kd x; rw [hx.2.2]; exact hk) (by rw [lay_ln hx.1]; exact (vpn hq hl).1) (by rw [lay_sv hx.1, (vpn hq hl).2, sv2 hs]) kk
theorem L_iastore {x q : Nat} {i : Int32} {w : Int32} (hd : decode (mB y) pc = .ok (.iastore, 1)) (hx : ob k x 20) (hi : i = nI q) (hq : q < ln tl x) (hl : ln tl x < 2 ^ 31) (hs : sc x q = 0) (kk : aAt l G d mc ms y (pc + 1) lv st bc bs (lay o k (up S x q w) K T tl) Q) : aAt l G d mc ms y pc lv (.int w :: .int i :: .ref x :: st) bc bs (lay o k S K T tl) Q := by
  subst hi
  refine s_iastore hd hx.1 hx.2.1 (by rw [lay_2 hx.1]; exact hx.2.2) (by rw [lay_ln hx.1]; exact (vpn hq hl).1) ?_
  rw [(vpn hq hl).2, lay_setI hx.1 hs]
  exact kk
theorem L_lastore {x q : Nat} {i : Int32} {w : Int64} (hd : decode (mB y) pc = .ok (.lastore, 1)) (hx : ob k x 21) (hi : i = nI q) (hq : q < ln tl x) (hl : ln tl x < 2 ^ 31) (hs : sc x q = 1) (kk : aAt l G d mc ms y (pc + 1) lv st bc bs (lay o k S (upK K q w) T tl) Q) : aAt l G d mc ms y pc lv (.long w :: .int i :: .ref x :: st) bc bs (lay o k S K T tl) Q := by
  subst hi
  refine s_lastore hd hx.1 hx.2.1 (by rw [lay_2 hx.1]; exact hx.2.2) (by rw [lay_ln hx.1]; exact (vpn hq hl).1) ?_
  rw [(vpn hq hl).2, lay_setK hx.1 hs]
  exact kk
theorem L_bastore {x q : Nat} {i : Int32} {w : Int32} (hd : decode (mB y) pc = .ok (.bastore, 1)) (hx : ob k x 22) (hi : i = nI q) (hq : q < ln tl x) (hl : ln tl x < 2 ^ 31) (hs : sc x q = 0) (kk : aAt l G d mc ms y (pc + 1) lv st bc bs (lay o k (up S x q (vp_nar .byte w)) K T tl) Q) : aAt l G d mc ms y pc lv (.int w :: .int i :: .ref x :: st) bc bs (lay o k S K T tl) Q := by
  subst hi
  refine s_bastore hd hx.1 hx.2.1 (by rw [lay_2 hx.1]; exact hx.2.2) (by rw [lay_ln hx.1]; exact (vpn hq hl).1) ?_
  rw [(vpn hq hl).2, lay_setI hx.1 hs]
  exact kk
theorem L_castore {x q : Nat} {i : Int32} {w : Int32} (hd : decode (mB y) pc = .ok (.castore, 1)) (hx : ob k x 23) (hi : i = nI q) (hq : q < ln tl x) (hl : ln tl x < 2 ^ 31) (hs : sc x q = 0) (kk : aAt l G d mc ms y (pc + 1) lv st bc bs (lay o k (up S x q (vp_nar .char w)) K T tl) Q) : aAt l G d mc ms y pc lv (.int w :: .int i :: .ref x :: st) bc bs (lay o k S K T tl) Q := by
  subst hi
  refine s_castore hd hx.1 hx.2.1 (by rw [lay_2 hx.1]; exact hx.2.2) (by rw [lay_ln hx.1]; exact (vpn hq hl).1) ?_
  rw [(vpn hq hl).2, lay_setI hx.1 hs]
  exact kk
theorem L_zastore {x q : Nat} {i : Int32} {w : Int32} (hd : decode (mB y) pc = .ok (.bastore, 1)) (hx : ob k x 24) (hi : i = nI q) (hq : q < ln tl x) (hl : ln tl x < 2 ^ 31) (hs : sc x q = 0) (kk : aAt l G d mc ms y (pc + 1) lv st bc bs (lay o k (up S x q (vp_nar .boolean w)) K T tl) Q) : aAt l G d mc ms y pc lv (.int w :: .int i :: .ref x :: st) bc bs (lay o k S K T tl) Q := by
  subst hi
  refine s_zastore hd hx.1 hx.2.1 (by rw [lay_2 hx.1]; exact hx.2.2) (by rw [lay_ln hx.1]; exact (vpn hq hl).1) ?_
  rw [(vpn hq hl).2, lay_setI hx.1 hs]
  exact kk
theorem L_aastore {x q ak v : Nat} {i : Int32} (hd : decode (mB y) pc = .ok (.aastore, 1)) (hx : ob k x ak) (hk : 30 ≤ ak) (hv : ob k v (aOf ak)) (hi : i = nI q) (hq : q < ln tl x) (hl : ln tl x < 2 ^ 31) (hs : sc x q = 2) (kk : aAt l G d mc ms y (pc + 1) lv st bc bs (lay o k S K (upT T x q (.ref v)) tl) Q) : aAt l G d mc ms y pc lv (.ref v :: .int i :: .ref x :: st) bc bs (lay o k S K T tl) Q := by
  subst hi
  have hkx : ((lay o k S K T tl).2 x).1 = ak := by rw [lay_2 hx.1]; exact hx.2.2
  refine s_aastore hd hx.1 hx.2.1 (by rw [hkx]; exact hk) hv.1 hv.2.1 (by rw [hkx, lay_2 hv.1]; exact hv.2.2) (by rw [lay_ln hx.1]; exact (vpn hq hl).1) ?_
  rw [(vpn hq hl).2, lay_setT hx.1 hs]
  exact kk
theorem L_aastoreN {x q ak : Nat} {i : Int32} (hd : decode (mB y) pc = .ok (.aastore, 1)) (hx : ob k x ak) (hk : 30 ≤ ak) (hi : i = nI q) (hq : q < ln tl x) (hl : ln tl x < 2 ^ 31) (hs : sc x q = 2) (kk : aAt l G d mc ms y (pc + 1) lv st bc bs (lay o k S K (upT T x q .null) tl) Q) : aAt l G d mc ms y pc lv (.null :: .int i :: .ref x :: st) bc bs (lay o k S K T tl) Q := by
  subst hi
  have hkx : ((lay o k S K T tl).2 x).1 = ak := by rw [lay_2 hx.1]; exact hx.2.2
  refine s_aastoreN hd hx.1 hx.2.1 (by rw [hkx]; exact hk) (by rw [lay_ln hx.1]; exact (vpn hq hl).1) ?_
  rw [(vpn hq hl).2, lay_setT hx.1 hs]
  exact kk
/-- calls of own methods that make nothing -/
theorem L_virt {i c' i' y' n x : Nat} {As : List Value} {st0 : List Value} (hd : decode (mB y) pc = .ok (.invokevirtual i, 3)) (hf : cal (mC y) i = some (c', i', 0, y', n)) (hst : st0 = As.reverse ++ .ref x :: st) (hn : As.length = n) (hx : ob k x (mC y')) (hc : mC y' < 13) (hW : cats st ≤ 8)
    (hcall : aCall l G d 0 0 y' (.ref x :: As) (lay o k S K T tl) (fun r h' => aAt l G (d + 1) mc ms y (pc + 3) lv (r.toList ++ st) bc bs h' Q)) : aAt l G (d + 1) mc ms y pc lv st0 bc bs (lay o k S K T tl) Q :=
  s_virt hd hf hst hn hx.1 hx.2.1 (by rw [lay_2 hx.1]; exact hx.2.2) hc hW (Nat.zero_le _) (Nat.zero_le _) hcall
theorem L_virtN {i c' i' y' n x : Nat} {As : List Value} {st0 : List Value} (hd : decode (mB y) pc = .ok (.invokevirtual i, 3)) (hf : cal (mC y) i = some (c', i', 10, y', n)) (hst : st0 = As.reverse ++ .ref x :: st) (hn : As.length = n) (hx : ob k x (mC y')) (hc : mC y' < 13) (hW : cats st ≤ 8)
    (hcall : aCall l G d 0 0 y' (.ref x :: As) (lay o k S K T tl) (fun r h' => aAt l G (d + 1) mc ms y (pc + 3) lv (r.toList ++ st) bc bs h' Q)) : aAt l G (d + 1) mc ms y pc lv st0 bc bs (lay o k S K T tl) Q :=
  s_virtN hd hf hst hn hx.1 hx.2.1 (by rw [lay_2 hx.1]; exact hx.2.2) hc hW (Nat.zero_le _) (Nat.zero_le _) hcall
theorem L_stat {i c' i' y' n : Nat} {As : List Value} {st0 : List Value} (hd : decode (mB y) pc = .ok (.invokestatic i, 3)) (hf : cal (mC y) i = some (c', i', 1, y', n)) (hst : st0 = As.reverse ++ st) (hn : As.length = n) (hW : cats st ≤ 8)
    (hcall : aCall l G d 0 0 y' As h (fun r h' => aAt l G (d + 1) mc ms y (pc + 3) lv (r.toList ++ st) bc bs h' Q)) : aAt l G (d + 1) mc ms y pc lv st0 bc bs h Q :=
  s_stat hd hf hst hn hW (Nat.zero_le _) (Nat.zero_le _) hcall
theorem L_statN {i c' i' y' n : Nat} {As : List Value} {st0 : List Value} (hd : decode (mB y) pc = .ok (.invokestatic i, 3)) (hf : cal (mC y) i = some (c', i', 11, y', n)) (hst : st0 = As.reverse ++ st) (hn : As.length = n) (hW : cats st ≤ 8)
    (hcall : aCall l G d 0 0 y' As h (fun r h' => aAt l G (d + 1) mc ms y (pc + 3) lv (r.toList ++ st) bc bs h' Q)) : aAt l G (d + 1) mc ms y pc lv st0 bc bs h Q :=
  s_statN hd hf hst hn hW (Nat.zero_le _) (Nat.zero_le _) hcall
end LRows
