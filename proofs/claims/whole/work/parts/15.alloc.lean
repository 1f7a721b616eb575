/-! ===== a new text; heaps that agree ===== -/
def hEq (h h' : aHeap) : Prop := h.1 = h'.1 ∧ (∀ k, k < 8 → h.2 k = h'.2 k) ∧ ∀ k, 8 ≤ k → k < h.1 → (h.2 k).1 = (h'.2 k).1 ∧ (h.2 k).2.1 = (h'.2 k).2.1 ∧ ∀ j, j < (h.2 k).2.1 → (h.2 k).2.2 j = (h'.2 k).2.2 j
theorem arrV_cong {c : ClassId} {n : Nat} {f g : Nat → Value} (h : ∀ j, j < n → f j = g j) : arrV c n f = arrV c n g := by
  unfold arrV
  congr 1
  congr 1
  funext j
  exact h j.val j.isLt
theorem aHR.cong {G : aG} {h h' : aHeap} {H : Heap} (e : hEq h h') (hh : aHR G h' H) : aHR G h H := by
  obtain ⟨e1, e2, e3⟩ := e
  obtain ⟨a1, a2, a3, a4, a5⟩ := hh
  refine ⟨by omega, by rw [e1]; exact a2, a3, fun k hk => by rw [e2 k hk]; exact a4 k hk, fun k hk hk2 => ?_⟩
  obtain ⟨c1, c2, c3⟩ := e3 k hk hk2
  have hn := a5 k hk (by omega)
  unfold aNew at hn ⊢
  rw [c1, c2]
  rcases hn with ⟨q1, r, q2, q3, cell, q4, q5, q6, q7⟩ | ⟨q1, q2, q3⟩
  · refine Or.inl ⟨q1, r, q2, q3, cell, q4, q5, q6, fun j hj => ?_⟩
    rw [q7 j hj]
    dsimp only
    rw [c3 j (by rw [c2, q3]; exact hj)]
  · refine Or.inr ⟨q1, q2, ?_⟩
    rw [q3]
    congr 1
    exact arrV_cong (fun j hj => by rw [c3 j (by rw [c2]; exact hj)])
theorem aAt.heap {l : Launch} {G : aG} {d mc ms y pc : Nat} {lv : List (Nat × Value)} {st : List Value} {bc bs : Nat} {h h' : aHeap} {Q : Option Value → aHeap → Prop} (e : hEq h h') (k : aAt l G d mc ms y pc lv st bc bs h Q) : aAt l G d mc ms y pc lv st bc bs h' Q := by
  intro p e1 R s m args below meth c ls H locs cells slots E
  exact k p e1 R s m args below meth c ls H locs cells slots ⟨E.1, E.2.1, E.2.2.1, E.2.2.2.1.cong e, E.2.2.2.2⟩
def txS (S : SS) (a n : Nat) : SS := fun x j => if x = a then (if j = 1 then S 142 1 else if j = 2 then S 142 2 else 0) else if x = a + 1 then (if j < n then S 141 j else 0) else S x j
def txX (X : XS) (n : Nat) : XS := (fun x => if x = 173 + X.2 then n else X.1 x, X.2 + 2)
theorem ca_7_52 : cal 7 52 = some (7, 52, 1, 106, 2) := by decide +kernel
theorem ca_7_58 : cal 7 58 = some (7, 58, 2, 107, 3) := by decide +kernel
theorem ca_10_3 : cal 10 3 = some (10, 3, 3, 0, 0) := by decide +kernel
theorem ca_44_150 : cal 44 150 = some (44, 150, 4, 0, 5) := by decide +kernel
theorem ca_44_304 : cal 44 304 = some (44, 304, 6, 0, 2) := by decide +kernel
theorem nc_7_50 : ncl 7 50 = some (7, 50, 10) := by decide +kernel
def cpH (h : aHeap) (n : Nat) : aHeap := (h.1 + 1, fun k => if k = h.1 then (20, n, fun j => va_cpy (h.2 141).2.2 (fun _ => .int 0) 0 0 n j) else h.2 k)
section Alloc
variable {l : Launch} {G : aG} {d mc ms y pc : Nat} {lv : List (Nat × Value)} {st : List Value} {bc bs : Nat} {Q : Option Value → aHeap → Prop}
variable {sl : Nat} {sx : Nat → Int32} {S : SS} {K : KS} {T : TS} {X : XS} {M : SS}
theorem c_copyOf {h : aHeap} {n : Nat} {f : Nat → Int32} (h1 : 141 < h.1) (hk : (h.2 141).1 = 20) (hl : (h.2 141).2.1 = 200) (hv : ∀ j, (h.2 141).2.2 j = .int (f j)) (hn : n < 200) (hQ : Q (some (.ref h.1)) (cpH h n)) : aCall l G (d + 1) 1 200 106 [.ref 141, .int (nI n)] h Q := by
  refine aCall.of (by decide) (Nat.le_of_ble_eq_true rfl) ?_
  refine aAt.sub [(0, .ref 141), (1, .int (nI n))] rfl ?_
  refine s_iload_n f_106_0 rfl ?_
  refine s_aload_n f_106_1 rfl ?_
  refine s_alen f_106_2 h1 (by rw [hk]; decide) ?_
  refine s_icmp_ne 14 f_106_3 (by decide) (fun c => ?_) (fun c => absurd ((nI_eq (by omega) (by decide)).mp (show nI n = nI 200 from by rw [c, hl]; rfl)) (by omega))
  refine s_iload_n f_106_14 rfl ?_
  refine s_newarray (N := n) f_106_15 (by decide) (nI_pos (by omega)) (nI_clamp (by omega)) (by omega) (Nat.le_refl 1) (by omega) ?_
  refine s_astore_n f_106_17 (by decide) ?_
  refine aAt.sub [(0, .ref 141), (1, .int (nI n)), (2, .ref h.1)] rfl ?_
  refine s_aload_n f_106_18 rfl ?_
  refine k_iconst (v := 0) f_106_19 (by decide) ?_
  refine s_aload_n f_106_20 rfl ?_
  refine k_iconst (v := 0) f_106_21 (by decide) ?_
  refine s_aload_n f_106_22 rfl ?_
  have hne : ¬ 141 = h.1 := by omega
  have hh : (hnew h (akOf .int, n, fun _ => defaultValue (aty (akOf .int)))).2 141 = h.2 141 := if_neg hne
  have hh2 : (hnew h (akOf .int, n, fun _ => defaultValue (aty (akOf .int)))).2 h.1 = (20, n, fun _ => .int 0) := if_pos rfl
  refine s_alen f_106_23 (show 141 < h.1 + 1 by omega) (by rw [hh, hk]; decide) ?_
  rw [hh, hl]
  refine s_iload_n f_106_24 rfl ?_
  refine s_min f_106_25 ca_44_304 (Nat.le_of_ble_eq_true rfl) ?_
  rw [if_pos (show nI n < Int32.ofNat 200 from nI_lt hn (by decide))]
  refine s_acopy (nx := 200) (ny := n) (f := f) f_106_28 ca_44_150 ⟨by omega, show 141 < h.1 + 1 by omega⟩ ⟨by omega, show h.1 < h.1 + 1 by omega⟩ (by rw [hh, hk]) (by rw [hh2]) (by rw [hh, hl]) (by rw [hh2]) (by rw [hh]; exact hv) ?_ (Nat.le_of_ble_eq_true rfl) ?_
  · refine ⟨by decide, by decide, ?_, ?_, ?_⟩
    · rw [nI_toInt (by omega)]; omega
    · rw [nI_toInt (by omega)]; show (0 : Int) + _ ≤ _; omega
    · rw [nI_toInt (by omega)]; show (0 : Int) + _ ≤ _; omega
  refine s_aload_n f_106_31 rfl ?_
  refine s_areturn f_106_32 rfl (Or.inr ⟨_, rfl⟩) ?_
  rw [hh, hh2]
  have e : (h.1 + 1, fun k => if k = h.1 then (20, n, fun j => va_cpy (h.2 141).2.2 (fun _ => Value.int 0) (ix 0) (ix 0) (ix (nI n)) j) else (hnew h (akOf .int, n, fun _ => defaultValue (aty (akOf .int)))).2 k) = cpH h n := by
    unfold cpH
    refine Prod.ext rfl (funext fun k => ?_)
    dsimp only
    by_cases hk2 : k = h.1
    · rw [if_pos hk2, if_pos hk2, nI_ix (by omega)]
      rfl
    · rw [if_neg hk2, if_neg hk2]
      exact if_neg hk2
  rw [show (hnew h (akOf .int, n, fun _ => defaultValue (aty (akOf .int)))).1 = h.1 + 1 from rfl, e]
  exact hQ
theorem c_textInit {h : aHeap} {a q : Nat} {u v : Int32} (h8 : 8 ≤ a) (ha : a < h.1) (hk : (h.2 a).1 = 10) (hQ : Q none (hset (hset (hset h a 0 (.ref q)) a 1 (.int u)) a 2 (.int v))) : aCall l G (d + 1) 0 0 107 [.ref a, .ref q, .int u, .int v] h Q := by
  refine aCall.of (by decide) (Nat.le_of_ble_eq_true rfl) ?_
  refine aAt.sub [(0, .ref a), (1, .ref q), (2, .int u), (3, .int v)] rfl ?_
  refine s_aload_n f_107_0 rfl ?_
  refine s_objinit f_107_1 ca_10_3 (Nat.le_of_ble_eq_true rfl) ?_
  refine s_aload_n f_107_4 rfl ?_
  refine s_aload_n f_107_5 rfl ?_
  refine s_putfield f_107_6 fd_10_9 h8 ha hk rfl rfl (Or.inr ⟨rfl, rfl⟩) ?_
  refine s_aload_n f_107_9 rfl ?_
  refine s_iload_n f_107_10 rfl ?_
  have e1 : ((hset h a 0 (.ref q)).2 a).1 = 10 := by show (if a = a then _ else _ : aCell).1 = 10; rw [if_pos rfl]; exact hk
  refine s_putfield f_107_11 fd_10_15 h8 ha e1 rfl rfl (Or.inr ⟨rfl, rfl⟩) ?_
  refine s_aload_n f_107_14 rfl ?_
  refine s_iload_n f_107_15 rfl ?_
  have e2 : ((hset (hset h a 0 (.ref q)) a 1 (.int u)).2 a).1 = 10 := by show (if a = a then _ else _ : aCell).1 = 10; rw [if_pos rfl]; exact e1
  refine s_putfield f_107_16 fd_10_19 h8 ha e2 rfl rfl (Or.inr ⟨rfl, rfl⟩) ?_
  exact s_return f_107_19 rfl hQ
theorem hset_s {h : aHeap} {x j : Nat} {v : Value} : (hset h x j v).2 x = ((h.2 x).1, (h.2 x).2.1, updV (h.2 x).2.2 j v) := if_pos rfl
theorem hset_n {h : aHeap} {x j k : Nat} {v : Value} (hk : ¬ k = x) : (hset h x j v).2 k = h.2 k := if_neg hk
theorem cpH_s {h : aHeap} {n : Nat} : (cpH h n).2 h.1 = (20, n, fun j => va_cpy (h.2 141).2.2 (fun _ => .int 0) 0 0 n j) := if_pos rfl
theorem cpH_n {h : aHeap} {n k : Nat} (hk : ¬ k = h.1) : (cpH h n).2 k = h.2 k := if_neg hk
theorem hnew_s {h : aHeap} {c : aCell} : (hnew h c).2 h.1 = c := if_pos rfl
theorem hnew_n {h : aHeap} {c : aCell} {k : Nat} (hk : ¬ k = h.1) : (hnew h c).2 k = h.2 k := if_neg hk
theorem lh_old {o : Nat → aCell} {k : Nat} (h : k < 8) : (LH o S K T X M).2 k = o k := if_pos h
theorem wr_eq {o : Nat → aCell} {n : Nat} (hX : X.2 % 2 = 0) (hn : n < 200) : hEq (LH o (txS S (172 + X.2) n) K T (txX X n) M) (hset (hset (hset (cpH (hnew (LH o S K T X M) (10, 3, aDef 10)) n) (172 + X.2) 0 (.ref (173 + X.2))) (172 + X.2) 1 (.int (S 142 1))) (172 + X.2) 2 (.int (S 142 2))) := by
  have hm : ∀ z, ¬ z = 172 + X.2 → ¬ z = 173 + X.2 → (LH o (txS S (172 + X.2) n) K T (txX X n) M).2 z = (LH o S K T X M).2 z := by
    intro z h1 h2
    by_cases h8 : z < 8
    · rw [lh_old h8, lh_old h8]
    · rw [lay_2 (by omega), lay_2 (by omega)]
      refine Prod.ext rfl (Prod.ext ?_ (funext fun j => ?_))
      · show ln (txX X n).1 z = ln X.1 z
        unfold ln
        have : (txX X n).1 z = X.1 z := if_neg h2
        rw [this]
      · show sv _ K (tV T) z j = sv _ K (tV T) z j
        have e : jn (txS S (172 + X.2) n) M z = jn S M z := by
          unfold jn
          by_cases hm : 154 ≤ z ∧ z < 172
          · rw [if_pos hm, if_pos hm]
          · rw [if_neg hm, if_neg hm]
            funext j
            unfold txS
            rw [if_neg h1, if_neg (by omega)]
        unfold sv
        rw [e]
  refine ⟨?_, fun k hk => ?_, fun k hk hk2 => ?_⟩
  · show 172 + (X.2 + 2) = 172 + X.2 + 1 + 1
    omega
  · rw [hm k (by omega) (by omega)]
    unfold hset cpH hnew
    dsimp only
    rw [if_neg (by omega), if_neg (by omega), if_neg (by omega), if_neg (by show ¬ k = 172 + X.2 + 1; omega), if_neg (by show ¬ k = 172 + X.2; omega)]
  · have hk3 : k < 172 + (X.2 + 2) := hk2
    by_cases ha : k = 172 + X.2
    · subst ha
      have e0 : (LH o (txS S (172 + X.2) n) K T (txX X n) M).2 (172 + X.2) = _ := lay_2 (by omega)
      rw [e0]
      have e1 : (hnew (LH o S K T X M) (10, 3, aDef 10)).2 (172 + X.2) = (10, 3, aDef 10) := hnew_s
      rw [hset_s, hset_s, hset_s, cpH_n (by show ¬ 172 + X.2 = 172 + X.2 + 1; omega), e1]
      dsimp only
      have hl : ln (txX X n).1 (172 + X.2) = 3 := by unfold ln; rw [if_neg (by omega), if_neg (by omega), if_neg (by omega), if_pos (by omega)]
      refine ⟨by rw [kd_tx (by omega), if_pos (by omega)], hl, fun j hj => ?_⟩
      rw [hl] at hj
      have hj2 : j = 0 ∨ j = 1 ∨ j = 2 := by omega
      have hjn : jn (txS S (172 + X.2) n) M (172 + X.2) = txS S (172 + X.2) n (172 + X.2) := jnC (by omega)
      rcases hj2 with rfl | rfl | rfl
      · rw [sv3 (by unfold sc; rw [if_neg (by omega), if_neg (by omega), if_neg (by omega), if_pos ⟨by omega, rfl⟩])]
        show Value.ref (rf (172 + X.2) 0) = Value.ref (173 + X.2)
        unfold rf
        rw [if_neg (by omega), if_neg (by omega), if_neg (by omega), show 172 + X.2 + 1 = 173 + X.2 by omega]
      · rw [sv0 (by unfold sc; rw [if_neg (by omega), if_neg (by omega), if_neg (by omega), if_neg (by omega)]), hjn]
        unfold txS
        rw [if_pos rfl]
        rfl
      · rw [sv0 (by unfold sc; rw [if_neg (by omega), if_neg (by omega), if_neg (by omega), if_neg (by omega)]), hjn]
        unfold txS
        rw [if_pos rfl]
        rfl
    · by_cases hb : k = 173 + X.2
      · subst hb
        have e0 : (LH o (txS S (172 + X.2) n) K T (txX X n) M).2 (173 + X.2) = _ := lay_2 (by omega)
        rw [e0]
        have e1 : (cpH (hnew (LH o S K T X M) (10, 3, aDef 10)) n).2 (173 + X.2) = (20, n, fun j => va_cpy ((LH o S K T X M).2 141).2.2 (fun _ => .int 0) 0 0 n j) := by
          have e2 : 173 + X.2 = (hnew (LH o S K T X M) (10, 3, aDef 10)).1 := by show 173 + X.2 = 172 + X.2 + 1; omega
          rw [e2, cpH_s, hnew_n (by show ¬ 141 = 172 + X.2; omega)]
        rw [hset_n ha, hset_n ha, hset_n ha, e1]
        dsimp only
        have hl : ln (txX X n).1 (173 + X.2) = n := by
          unfold ln
          rw [if_neg (by omega), if_neg (by omega), if_neg (by omega), if_neg (by omega)]
          exact if_pos rfl
        refine ⟨by rw [kd_tx (by omega), if_neg (by omega)], hl, fun j hj => ?_⟩
        rw [hl] at hj
        rw [sv0 (by unfold sc; rw [if_neg (by omega), if_neg (by omega), if_neg (by omega), if_neg (by omega)]), jnC (by omega)]
        show _ = va_cpy ((LH o S K T X M).2 141).2.2 (fun _ => .int 0) 0 0 n j
        rw [pk_cpy_in (Nat.zero_le _) (by omega), lay_2 (by omega)]
        unfold txS
        rw [if_neg ha, if_pos (by omega), if_pos hj]
        show _ = sv (jn S M) K (tV T) 141 (0 + (j - 0))
        rw [sv0 rfl, jnC (by omega)]
        congr 2
        omega
      · rw [hm k ha hb]
        unfold hset cpH hnew
        dsimp only
        rw [if_neg ha, if_neg ha, if_neg ha, if_neg (by show ¬ k = 172 + X.2 + 1; omega), if_neg (by show ¬ k = 172 + X.2; omega)]
        exact ⟨rfl, rfl, fun _ _ => rfl⟩
theorem t_written {n : Nat} (hX : X.2 % 2 = 0) (hn : n < 200) (hc : S 137 7 = nI n) (hQ : Q (some (.ref (172 + X.2))) (LH (old0 sl sx) (txS S (172 + X.2) n) K T (txX X n) M)) : aCall l G (d + 2) 2 203 105 [.ref 137] (LH (old0 sl sx) S K T X M) Q := by
  refine aCall.of (by decide) (Nat.le_of_ble_eq_true rfl) ?_
  refine aAt.sub [(0, .ref 137)] rfl ?_
  refine s_new (N := 3) f_105_0 nc_7_50 ⟨_, rfl, rfl⟩ (by decide) (by decide) ?_
  have g1 : ∀ z, z < 172 → 8 ≤ z → (hnew (LH (old0 sl sx) S K T X M) (10, 3, aDef 10)).2 z = (kd z, ln X.1 z, fun j => sv (jn S M) K (tV T) z j) := fun z hz h8 => (if_neg (show ¬ z = 172 + X.2 by omega)).trans (lay_2 h8)
  refine s_dup f_105_3 rfl ?_
  refine s_aload_n f_105_4 rfl ?_
  refine s_getfield f_105_5 fd_7_31 (by decide) (show 137 < 172 + X.2 + 1 by omega) (by rw [g1 137 (by decide) (by decide)]; rfl) ?_
  rw [g1 137 (by decide) (by decide)]
  refine aAt.stk (.ref 141 :: .ref (172 + X.2) :: .ref (172 + X.2) :: []) rfl ?_
  refine s_aload_n f_105_8 rfl ?_
  refine s_getfield f_105_9 fd_7_34 (by decide) (show 137 < 172 + X.2 + 1 by omega) (by rw [g1 137 (by decide) (by decide)]; rfl) ?_
  rw [g1 137 (by decide) (by decide)]
  refine aAt.stk (.int (nI n) :: .ref 141 :: .ref (172 + X.2) :: .ref (172 + X.2) :: []) (by rw [← hc]; rfl) ?_
  refine s_stat (mc' := 1) (ms' := 200) (As := [.ref 141, .int (nI n)]) f_105_12 ca_7_52 rfl rfl (Nat.le_of_ble_eq_true rfl) (by decide) (by decide) ?_
  refine c_copyOf (f := S 141) (show 141 < 172 + X.2 + 1 by omega) (by rw [g1 141 (by decide) (by decide)]; rfl) (by rw [g1 141 (by decide) (by decide)]; rfl) (fun j => by rw [g1 141 (by decide) (by decide)]; rfl) hn ?_
  have g2 : ∀ z, z < 172 → 8 ≤ z → (cpH (hnew (LH (old0 sl sx) S K T X M) (10, 3, aDef 10)) n).2 z = (kd z, ln X.1 z, fun j => sv (jn S M) K (tV T) z j) := fun z hz h8 => (if_neg (show ¬ z = 172 + X.2 + 1 by omega)).trans (g1 z hz h8)
  refine aAt.stk (.ref (173 + X.2) :: .ref (172 + X.2) :: .ref (172 + X.2) :: []) (by show _ = Value.ref (172 + X.2 + 1) :: _; rw [show 173 + X.2 = 172 + X.2 + 1 by omega]; rfl) ?_
  refine s_aload_n f_105_15 rfl ?_
  refine s_getfield f_105_16 fd_7_37 (by decide) (show 137 < 172 + X.2 + 1 + 1 by omega) (by rw [g2 137 (by decide) (by decide)]; rfl) ?_
  rw [g2 137 (by decide) (by decide)]
  refine aAt.stk (.ref 142 :: .ref (173 + X.2) :: .ref (172 + X.2) :: .ref (172 + X.2) :: []) rfl ?_
  refine k_iconst (v := 1) f_105_19 (by decide) ?_
  refine s_iaload (w := S 142 1) f_105_20 (show 142 < 172 + X.2 + 1 + 1 by omega) (by rw [g2 142 (by decide) (by decide)]; rfl) (by rw [g2 142 (by decide) (by decide)]; show vp_in _ 3; exact vp_in_iff.mpr (by decide)) (by rw [g2 142 (by decide) (by decide)]; rfl) ?_
  refine s_aload_n f_105_21 rfl ?_
  refine s_getfield f_105_22 fd_7_37 (by decide) (show 137 < 172 + X.2 + 1 + 1 by omega) (by rw [g2 137 (by decide) (by decide)]; rfl) ?_
  rw [g2 137 (by decide) (by decide)]
  refine aAt.stk (.ref 142 :: .int (S 142 1) :: .ref (173 + X.2) :: .ref (172 + X.2) :: .ref (172 + X.2) :: []) rfl ?_
  refine k_iconst (v := 2) f_105_25 (by decide) ?_
  refine s_iaload (w := S 142 2) f_105_26 (show 142 < 172 + X.2 + 1 + 1 by omega) (by rw [g2 142 (by decide) (by decide)]; rfl) (by rw [g2 142 (by decide) (by decide)]; show vp_in _ 3; exact vp_in_iff.mpr (by decide)) (by rw [g2 142 (by decide) (by decide)]; rfl) ?_
  refine s_init (mc' := 0) (ms' := 0) (As := [.ref (173 + X.2), .int (S 142 1), .int (S 142 2)]) f_105_27 ca_7_58 rfl rfl (Nat.le_of_ble_eq_true rfl) (Nat.zero_le _) (Nat.zero_le _) ?_
  refine c_textInit (by omega) (show 172 + X.2 < 172 + X.2 + 1 + 1 by omega) ?_ ?_
  · show ((cpH (hnew (LH (old0 sl sx) S K T X M) (10, 3, aDef 10)) n).2 (172 + X.2)).1 = 10
    have e1 : (hnew (LH (old0 sl sx) S K T X M) (10, 3, aDef 10)).2 (172 + X.2) = (10, 3, aDef 10) := hnew_s
    rw [cpH_n (by show ¬ 172 + X.2 = 172 + X.2 + 1; omega), e1]
  refine aAt.heap (wr_eq hX hn) ?_
  exact s_areturn f_105_30 rfl (Or.inl ⟨_, rfl⟩) hQ
end Alloc
