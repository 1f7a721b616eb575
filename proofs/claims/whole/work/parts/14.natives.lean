/-! ===== the old cells; natives; texts that are constants ===== -/
def KA : List Int32 := [-1, 0, 1, 0, 3, 0, 2]
def B81 : List Int32 := [40, 41, 59, 43, 45, 60, 61]
def B88 : List Int32 := [107, 105, 110, 100, 32, 97, 103, 101, 32, 108, 101, 102, 116, 32, 111, 119, 101, 100, 32, 112, 97, 105, 100, 32, 115, 117, 109, 32, 119, 111, 114, 116, 104, 32, 119, 111, 114, 100, 32, 115, 116, 114, 97, 110, 103, 101, 114, 32, 119, 97, 108, 108, 115, 32, 116, 101, 114, 109, 32, 102, 97, 108, 108, 115, 32, 98, 97, 99, 107, 32, 108, 111, 97, 110, 32, 111, 114, 32, 97, 110, 100, 32, 110, 111, 116, 32]
/-- the old cells: the script, the kinds above, the two texts and their bytes -/
def old0 (L : Nat) (xs : Nat → Int32) : Nat → aCell := fun k => match k with
  | 0 => (20, L, fun j => .int (xs j))
  | 1 => (20, 7, fun j => .int (KA.getD j 0))
  | 2 => (13, 0, fun _ => .null)
  | 3 => (13, 0, fun _ => .null)
  | 4 => (22, 7, fun j => .int (B81.getD j 0))
  | 5 => (22, 86, fun j => .int (B88.getD j 0))
  | _ => (13, 0, fun _ => .null)
def kAb (j : Nat) : Int32 := KA.getD j 0
def wCh (j : Nat) : Int32 := B88.getD j 0
def sIxF (c : Int32) : List Int32 → Nat → Int32
  | [], _ => -1
  | b :: r, k => if b = c then nI k else sIxF c r (k + 1)
def sIx (c : Int32) : Int32 := sIxF c B81 0
def cFill (n : Nat) (S : SS) (x : Nat) (v : Int32) : Option SS := some (fun a b => if a = x ∧ b < n then v else S a b)
def cFillL (K : KS) (v : Int64) : Option KS := some (fun j => if j < 3721 then v else K j)
abbrev cpOk (nx ny : Nat) (i j n : Int32) : Prop := 0 ≤ i.toInt ∧ 0 ≤ j.toInt ∧ 0 ≤ n.toInt ∧ i.toInt + n.toInt ≤ (nx : Int) ∧ j.toInt + n.toInt ≤ (ny : Int)
def cpS (S : SS) (x : Nat) (i : Int32) (y : Nat) (j n : Int32) : SS := fun a b => if a = y ∧ ix j ≤ b ∧ b < ix j + ix n then S x (ix i + (b - ix j)) else S a b
theorem ca_42_335 : cal 42 335 = some (42, 335, 0, 72, 0) := by decide +kernel
theorem ca_42_492 : cal 42 492 = some (42, 492, 0, 74, 0) := by decide +kernel
theorem ca_42_495 : cal 42 495 = some (42, 495, 1, 75, 2) := by decide +kernel
theorem ca_42_505 : cal 42 505 = some (42, 505, 0, 71, 0) := by decide +kernel
theorem ca_42_633 : cal 42 633 = some (42, 633, 0, 84, 2) := by decide +kernel
theorem ca_42_637 : cal 42 637 = some (42, 637, 1, 85, 4) := by decide +kernel
theorem ca_42_1059 : cal 42 1059 = some (42, 1059, 1, 77, 3) := by decide +kernel
theorem ca_43_9 : cal 43 9 = some (43, 9, 1, 76, 2) := by decide +kernel
theorem ca_43_38 : cal 43 38 = some (43, 38, 6, 0, 2) := by decide +kernel
theorem ca_43_88 : cal 43 88 = some (43, 88, 1, 86, 1) := by decide +kernel
theorem ca_43_92 : cal 43 92 = some (43, 92, 7, 0, 2) := by decide +kernel
theorem ca_43_95 : cal 43 95 = some (43, 95, 1, 87, 4) := by decide +kernel
section Nat14
variable {l : Launch} {G : aG} {d mc ms y pc : Nat} {lv : List (Nat × Value)} {st : List Value} {bc bs : Nat} {h : aHeap} {Q : Option Value → aHeap → Prop}
variable {sl : Nat} {sx : Nat → Int32} {S : SS} {K : KS} {T : TS} {X : XS} {M : SS}
theorem s_getKA (hd : decode (mB y) pc = .ok (.getstatic 390, 3)) (hc : mC y = 0) (k : aAt l G d mc ms y (pc + 3) lv (.ref 1 :: st) bc bs h Q) : aAt l G d mc ms y pc lv st bc bs h Q := by
  intro p e R s m args below meth c ls H locs cells slots E
  obtain ⟨hex, hb, hml, hown, hts, hK, -⟩ := id E.1
  rw [hc] at hown
  obtain ⟨cf, kf, fi, f, a, cell, h1, h2, h3, h4, h5, h6, h7, h8⟩ := hK.2.2.2.2.2.1
  exact W.gets hex hb hown (hts _ (aT_in (sg_3 (i := 82) rfl) rfl)) h1 h2 h3 h4 (by rw [E.2.2.2.1.2.2.1 a (Array.getElem?_eq_some_iff.mp h5).1]; exact h5) (fun e => by rw [e] at h6; cases h6) h7 rfl hd (k p e R s m args below meth c ls H locs cells slots E)
theorem O_iaload {i : Int32} {q : Nat} (hd : decode (mB y) pc = .ok (.iaload, 1)) (hq : ix i = q) (g : inb i 7) (kk : aAt l G d mc ms y (pc + 1) lv (.int (kAb q) :: st) bc bs (LH (old0 sl sx) S K T X M) Q) : aAt l G d mc ms y pc lv (.int i :: .ref 1 :: st) bc bs (LH (old0 sl sx) S K T X M) Q := by
  subst hq
  refine s_iaload hd (show 1 < 172 + X.2 by omega) rfl ?_ rfl kk
  show vp_in i 7
  rw [inb_nI g]
  exact (vpn (inb_lt g) (by decide)).1
theorem s_ldcS2 (hd : decode (mB y) pc = .ok (.ldc 81, 2)) (hc : mC y = 7) (k : aAt l G d mc ms y (pc + 2) lv (.ref 2 :: st) bc bs h Q) : aAt l G d mc ms y pc lv st bc bs h Q := by
  intro p e R s m args below meth c ls H locs cells slots E
  obtain ⟨hex, hb, hml, hown, hts, hK, -⟩ := id E.1
  rw [hc] at hown
  exact va_ldcS hex hb hown hK.2.2.2.2.2.2.2.1 hd (k p e R s m args below meth c ls H locs cells slots E)
theorem s_ldcS3 (hd : decode (mB y) pc = .ok (.ldc 88, 2)) (hc : mC y = 7) (k : aAt l G d mc ms y (pc + 2) lv (.ref 3 :: st) bc bs h Q) : aAt l G d mc ms y pc lv st bc bs h Q := by
  intro p e R s m args below meth c ls H locs cells slots E
  obtain ⟨hex, hb, hml, hown, hts, hK, -⟩ := id E.1
  rw [hc] at hown
  exact va_ldcS hex hb hown hK.2.2.2.2.2.2.2.2.1 hd (k p e R s m args below meth c ls H locs cells slots E)
theorem aHR.old {h : aHeap} {H : Heap} {q : Nat} {cell : Cell} (hh : aHR G h H) (hc : G.2.1[q]? = some cell) : H[q]? = some cell := by
  rw [hh.2.2.1 q (Array.getElem?_eq_some_iff.mp hc).1]
  exact hc
theorem s_getCS (hd : decode (mB y) pc = .ok (.getstatic 38, 3)) (hc : cNm (mC y) = "java/lang/String") (k : aAt l G d mc ms y (pc + 3) lv (.int 1 :: st) bc bs h Q) : aAt l G d mc ms y pc lv st bc bs h Q := by
  intro p e R s m args below meth c ls H locs cells slots E
  obtain ⟨hex, hb, hml, hown, hts, hK, -⟩ := id E.1
  rw [hc] at hown
  obtain ⟨cf, kf, fi, f, a, cell, h1, h2, h3, h4, h5, h6, h7, h8⟩ := hK.2.2.2.2.2.2.1
  exact W.gets hex hb hown (hts _ (aT_in (sg_3 (i := 198) rfl) rfl)) h1 h2 h3 h4 (E.2.2.2.1.old h5) (fun e => by rw [e] at h6; cases h6) h7 rfl hd (k p e R s m args below meth c ls H locs cells slots E)
theorem s_getFM (hd : decode (mB y) pc = .ok (.getstatic 1053, 3)) (hc : cNm (mC y) = "java/lang/String") (k0 : aAt l G d mc ms y (pc + 3) lv (.null :: st) bc bs h Q) (k1 : ∀ q, aAt l G d mc ms y (pc + 3) lv (.ref q :: st) bc bs h Q) : aAt l G d mc ms y pc lv st bc bs h Q := by
  intro p e R s m args below meth c ls H locs cells slots E
  obtain ⟨hex, hb, hml, hown, hts, hK, -⟩ := id E.1
  rw [hc] at hown
  rcases hK.2.2.2.2.2.2.2.2.2.2 with ⟨cf, kf, fi, f, a, cell, h1, h2, h3, h4, h5, h6, h7, h8⟩ | ⟨q, cf, kf, fi, f, a, cell, h1, h2, h3, h4, h5, h6, h7, h8⟩
  · exact W.gets hex hb hown (hts _ (aT_in (sg_3 (i := 214) rfl) rfl)) h1 h2 h3 h4 (E.2.2.2.1.old h5) (fun e => by rw [e] at h6; cases h6) h7 rfl hd (k0 p e R s m args below meth c ls H locs cells slots E)
  · exact W.gets hex hb hown (hts _ (aT_in (sg_3 (i := 214) rfl) rfl)) h1 h2 h3 h4 (E.2.2.2.1.old h5) (fun e => by rw [e] at h6; cases h6) h7 rfl hd (k1 q p e R s m args below meth c ls H locs cells slots E)
theorem s_getV {u : Nat} (hu : u < 2) (hd : decode (mB y) pc = .ok (.getfield 9, 3)) (hc : cNm (mC y) = "java/lang/String") (k : aAt l G d mc ms y (pc + 3) lv (.ref (4 + u) :: st) bc bs h Q) : aAt l G d mc ms y pc lv (.ref (2 + u) :: st) bc bs h Q := by
  intro p e R s m args below meth c ls H locs cells slots E
  obtain ⟨hex, hb, hml, hown, hts, hK, -⟩ := id E.1
  rw [hc] at hown
  obtain ⟨cf, kf, fi, f, cell, h1, h2, h3, h4, h5, h6⟩ := (hK.2.2.2.2.2.2.2.2.2.1 u hu).2.2
  exact W.getf hex hb hown (hts _ (aT_in (sg_7 (i := 179) rfl) rfl)) h1 h2 (E.2.2.2.1.old h3) h4 h5 rfl rfl hd (k p e R s m args below meth c ls H locs cells slots E)
theorem s_getC {u : Nat} (hu : u < 2) (hd : decode (mB y) pc = .ok (.getfield 15, 3)) (hc : cNm (mC y) = "java/lang/String") (k : aAt l G d mc ms y (pc + 3) lv (.int 0 :: st) bc bs h Q) : aAt l G d mc ms y pc lv (.ref (2 + u) :: st) bc bs h Q := by
  intro p e R s m args below meth c ls H locs cells slots E
  obtain ⟨hex, hb, hml, hown, hts, hK, -⟩ := id E.1
  rw [hc] at hown
  obtain ⟨cf, kf, fi, f, cell, h1, h2, h3, h4, h5, h6⟩ := (hK.2.2.2.2.2.2.2.2.2.1 u hu).2.1
  exact W.getf hex hb hown (hts _ (aT_in (sg_7 (i := 180) rfl) rfl)) h1 h2 (E.2.2.2.1.old h3) h4 h5 rfl rfl hd (k p e R s m args below meth c ls H locs cells slots E)
theorem s_virtS {i c' i' y' n u : Nat} {As : List Value} {st0 : List Value} (hu : u < 2) (hd : decode (mB y) pc = .ok (.invokevirtual i, 3)) (hf : cal (mC y) i = some (c', i', 0, y', n)) (hst : st0 = As.reverse ++ .ref (2 + u) :: st) (hn : As.length = n) (hc : cNm (mC y') = "java/lang/String") (hW : cats st ≤ 8)
    (hcall : aCall l G d 0 0 y' (.ref (2 + u) :: As) h (fun r h' => aAt l G (d + 1) mc ms y (pc + 3) lv (r.toList ++ st) bc bs h' Q)) : aAt l G (d + 1) mc ms y pc lv st0 bc bs h Q := by
  intro p e R s m args below meth c ls H locs cells slots E
  obtain ⟨e1, e2, hy, hp, c1, c2, c3⟩ := cal_ok hf
  dsimp only at e1 e2
  subst e1 e2 hst
  obtain ⟨hex, hb, hml, hown, hts, hK, -⟩ := id E.1
  obtain ⟨m1, m2, m3, m4, m5, m6, m7⟩ := mok hy
  obtain ⟨rc, rs, rf, rl⟩ := id E.2.1
  have hrecv : ∃ cell : Cell, H[G.1 (2 + u)]? = some cell ∧ cell.vm.isStatics = false ∧ s.vm.findClass (cNm (mC y')) = some cell.cls := by
    obtain ⟨cell, h1, h2, h3, -⟩ := (hK.2.2.2.2.2.2.2.2.2.1 u hu).1
    exact ⟨cell, E.2.2.2.1.old h1, h2, by rw [hc]; exact h3⟩
  refine aBack (Q' := fun r h' => aAt l G (d + 1) mc ms y (pc + 3) lv (r.toList ++ st) bc bs h' Q) E (Nat.zero_le _) (Nat.zero_le _) rfl (va_runV (C := cNm (mC y')) (b := G.1 (2 + u)) (As := As.map (cvv G.1)) (n := n) (bytes := mB y') (maxL := mL y') (ret := mR y') ⟨hex, hb, hml, hown, hts⟩ hcall ⟨callB_of n hts (aGood hy) rfl rfl rfl (hts _ m2) (hts _ c1) ⟨m6, m7, hp⟩ (aRoom.call E.2.1 hy), hts _ c2, by rw [← m5]; exact hts _ c3⟩ ⟨aPc.blind, hrecv, fun U hU hW => ⟨rfl, by rw [hU]; exact E.2.2.2.1, hK.warm hW⟩⟩ rfl (by rw [List.length_map]; exact hn) E.2.2.1.1 ?_ (lv_room (by rw [cats_cv]; exact hW)) hd ⟨by rw [rc]; have := E.2.2.2.2.2.1; omega, by rw [rs]; have := E.2.2.2.2.2.2; omega⟩) (fun r h' hq => hq)
  show (As.reverse ++ .ref (2 + u) :: st).map (cvv G.1) = (As.map (cvv G.1)).reverse ++ .ref (G.1 (2 + u)) :: st.map (cvv G.1)
  rw [List.map_append, List.map_reverse]
  rfl
theorem c_latin {u : Nat} (hu : u < 2) (hQ : Q (some (.int 1)) h) : aCall l G d 0 0 74 [.ref (2 + u)] h Q := by
  refine aCall.of (by decide) (Nat.le_of_ble_eq_true rfl) ?_
  refine aAt.sub [(0, .ref (2 + u))] rfl ?_
  refine s_getCS f_74_0 rfl ?_
  refine s_if_eq 17 f_74_3 (by decide) (fun c => absurd c (by decide)) (fun c => ?_)
  refine s_aload_n f_74_6 rfl ?_
  refine s_getC hu f_74_7 rfl ?_
  refine s_if_ne 17 f_74_10 (by decide) (fun c => absurd rfl c) (fun c => ?_)
  refine k_iconst (v := 1) f_74_13 (by decide) ?_
  refine s_goto 18 f_74_14 (by decide) ?_
  exact s_ireturn f_74_18 rfl rfl hQ
theorem c_coder {u : Nat} (hu : u < 2) (hQ : Q (some (.int 0)) h) : aCall l G d 0 0 72 [.ref (2 + u)] h Q := by
  refine aCall.of (by decide) (Nat.le_of_ble_eq_true rfl) ?_
  refine aAt.sub [(0, .ref (2 + u))] rfl ?_
  refine s_getCS f_72_0 rfl ?_
  refine s_if_eq 13 f_72_3 (by decide) (fun c => absurd c (by decide)) (fun c => ?_)
  refine s_aload_n f_72_6 rfl ?_
  refine s_getC hu f_72_7 rfl ?_
  refine s_goto 14 f_72_10 (by decide) ?_
  exact s_ireturn f_72_14 rfl rfl hQ
theorem c_strlen {u n : Nat} (hu : u < 2) (hn : (h.2 (4 + u)).2.1 = n) (h1 : 4 + u < h.1) (hk : 20 ≤ (h.2 (4 + u)).1) (hs : Int32.ofNat n >>> ((0 : Int32) &&& 31) = Int32.ofNat n) (hQ : Q (some (.int (Int32.ofNat n))) h) : aCall l G (d + 1) 0 0 71 [.ref (2 + u)] h Q := by
  refine aCall.of (by decide) (Nat.le_of_ble_eq_true rfl) ?_
  refine aAt.sub [(0, .ref (2 + u))] rfl ?_
  refine s_aload_n f_71_0 rfl ?_
  refine s_getV hu f_71_1 rfl ?_
  refine s_alen f_71_4 h1 hk ?_
  refine s_aload_n f_71_5 rfl ?_
  refine s_virtS (As := []) hu f_71_6 ca_42_335 rfl rfl rfl (Nat.le_of_ble_eq_true rfl) ?_
  refine c_coder hu ?_
  refine s_ishr f_71_9 ?_
  rw [hn, hs]
  exact s_ireturn f_71_10 rfl rfl hQ
theorem c_chk {z n : Int32} {v : Value} (hv : v = .null ∨ ∃ q, v = .ref q) (h1 : 0 ≤ z) (h2 : z < n) (hQ : Q (some (.int z)) h) : aCall l G d 0 0 77 [.int z, .int n, v] h Q := by
  have e1 : (lg_sl [.int z, .int n, v]).length ≤ mL 77 := by rcases hv with rfl | ⟨q, rfl⟩ <;> exact Nat.le_of_ble_eq_true rfl
  refine aCall.of (by decide) e1 ?_
  refine aAt.sub [(0, .int z), (1, .int n)] (by rcases hv with rfl | ⟨q, rfl⟩ <;> rfl) ?_
  refine s_iload_n f_77_0 rfl ?_
  refine s_if_lt 9 f_77_1 (by decide) (fun c => absurd h1 (Int32.not_le.mpr c)) (fun c => ?_)
  refine s_iload_n f_77_4 rfl ?_
  refine s_iload_n f_77_5 rfl ?_
  refine s_icmp_lt 16 f_77_6 (by decide) (fun c => ?_) (fun c => absurd h2 c)
  refine s_iload_n f_77_16 rfl ?_
  exact s_ireturn f_77_17 rfl rfl hQ
theorem c_chk2 {z n : Int32} (h1 : 0 ≤ z) (h2 : z < n) (hQ : Q none h) : aCall l G (d + 1) 0 0 76 [.int z, .int n] h Q := by
  refine aCall.of (by decide) (Nat.le_of_ble_eq_true rfl) ?_
  refine aAt.sub [(0, .int z), (1, .int n)] rfl ?_
  refine s_iload_n f_76_0 rfl ?_
  refine s_iload_n f_76_1 rfl ?_
  refine s_getFM f_76_2 rfl ?_ (fun q => ?_)
  · refine L_stat (As := [.int z, .int n, .null]) f_76_5 ca_42_1059 rfl rfl (Nat.le_of_ble_eq_true rfl) ?_
    refine c_chk (Or.inl rfl) h1 h2 ?_
    refine s_pop f_76_8 rfl ?_
    exact s_return f_76_9 rfl hQ
  · refine L_stat (As := [.int z, .int n, .ref q]) f_76_5 ca_42_1059 rfl rfl (Nat.le_of_ble_eq_true rfl) ?_
    refine c_chk (Or.inr ⟨q, rfl⟩) h1 h2 ?_
    refine s_pop f_76_8 rfl ?_
    exact s_return f_76_9 rfl hQ
theorem wCh_ok : ∀ j, j < 86 → ((wCh j &&& 255).toUInt32 % 65536).toInt32 = wCh j ∧ narrow .char (.int (wCh j)) = .int (wCh j) := by decide +kernel
theorem inb_0 {z : Int32} {n : Nat} (g : inb z n) : 0 ≤ z := by
  rw [Int32.le_iff_toInt_le]
  exact g.1
theorem inb_n {z : Int32} {n : Nat} (g : inb z n) (hn : n < 2 ^ 31) : z < nI n := by
  rw [Int32.lt_iff_toInt_lt, nI_toInt hn]
  exact g.2
theorem c_chr1 {z : Int32} (g : inb z 86) (hQ : Q (some (.int (wCh (ix z)))) (LH (old0 sl sx) S K T X M)) : aCall l G (d + 2) 0 0 75 [.ref 5, .int z] (LH (old0 sl sx) S K T X M) Q := by
  refine aCall.of (by decide) (Nat.le_of_ble_eq_true rfl) ?_
  refine aAt.sub [(0, .ref 5), (1, .int z)] rfl ?_
  refine s_iload_n f_75_0 rfl ?_
  refine s_aload_n f_75_1 rfl ?_
  refine s_alen f_75_2 (show 5 < 172 + X.2 by omega) (show 20 ≤ 22 by decide) ?_
  refine L_stat (As := [.int z, .int (nI 86)]) f_75_3 ca_43_9 rfl rfl (Nat.le_of_ble_eq_true rfl) ?_
  refine c_chk2 (inb_0 g) (inb_n g (by decide)) ?_
  refine s_aload_n f_75_6 rfl ?_
  refine s_iload_n f_75_7 rfl ?_
  refine s_baload (w := wCh (ix z)) f_75_8 (show 5 < 172 + X.2 by omega) rfl (by rw [inb_nI g]; exact (vpn (inb_lt g) (by decide)).1) rfl ?_
  refine k_sipush (v := 255) f_75_9 (by decide) ?_
  refine s_iand f_75_12 ?_
  refine s_i2c f_75_13 ?_
  rw [(wCh_ok _ (inb_lt g)).1]
  exact s_ireturn f_75_14 rfl (wCh_ok _ (inb_lt g)).2 hQ
theorem X_len {i c' i' n : Nat} (hd : decode (mB y) pc = .ok (.invokevirtual i, 3)) (hf : cal (mC y) i = some (c', i', 0, 71, n)) (hn0 : n = 0) (hW : cats st ≤ 8) (k : aAt l G (d + 8) mc ms y (pc + 3) lv (.int 86 :: st) bc bs (LH (old0 sl sx) S K T X M) Q) : aAt l G (d + 8) mc ms y pc lv (.ref 3 :: st) bc bs (LH (old0 sl sx) S K T X M) Q := by
  refine s_virtS (u := 1) (As := []) (by decide) hd hf rfl hn0.symm rfl hW ?_
  exact c_strlen (d := d + 6) (n := 86) (by decide) rfl (show 5 < 172 + X.2 by omega) (show 20 ≤ 22 by decide) (by decide) k
theorem X_chr {i c' i' n : Nat} {z : Int32} (hd : decode (mB y) pc = .ok (.invokevirtual i, 3)) (hf : cal (mC y) i = some (c', i', 0, 73, n)) (hn0 : n = 1) (g : inb z 86) (hW : cats st ≤ 8) (k : aAt l G (d + 8) mc ms y (pc + 3) lv (.int (wCh (ix z)) :: st) bc bs (LH (old0 sl sx) S K T X M) Q) : aAt l G (d + 8) mc ms y pc lv (.int z :: .ref 3 :: st) bc bs (LH (old0 sl sx) S K T X M) Q := by
  refine s_virtS (u := 1) (As := [.int z]) (by decide) hd hf rfl hn0.symm rfl hW ?_
  refine aCall.of (by decide) (Nat.le_of_ble_eq_true rfl) ?_
  refine aAt.sub [(0, .ref 3), (1, .int z)] rfl ?_
  refine s_aload_n f_73_0 rfl ?_
  refine s_virtS (u := 1) (As := []) (by decide) f_73_1 ca_42_492 rfl rfl rfl (Nat.le_of_ble_eq_true rfl) ?_
  refine c_latin (u := 1) (by decide) ?_
  refine s_if_eq 16 f_73_4 (by decide) (fun c => absurd c (by decide)) (fun c => ?_)
  refine s_aload_n f_73_7 rfl ?_
  refine s_getV (u := 1) (by decide) f_73_8 rfl ?_
  refine s_iload_n f_73_11 rfl ?_
  refine L_stat (As := [.ref 5, .int z]) f_73_12 ca_42_495 rfl rfl (Nat.le_of_ble_eq_true rfl) ?_
  refine c_chr1 (d := d + 4) g ?_
  exact s_ireturn f_73_15 rfl (wCh_ok _ (inb_lt g)).2 k
theorem b81_eq : ∀ n, n < 256 → ∀ i, i < 7 → (B81.getD i 0 = (nI n).toInt8.toInt32 ↔ B81.getD i 0 = nI n) := by decide +kernel
theorem b81_hi : ∀ b ∈ B81, 0 ≤ b ∧ b ≤ 255 := by decide +kernel
theorem sIx_out {z : Int32} (hz : ¬ (0 ≤ z ∧ z ≤ 255)) : sIx z = -1 := by
  have : ∀ (r : List Int32) (k : Nat), (∀ b ∈ r, 0 ≤ b ∧ b ≤ 255) → sIxF z r k = -1 := by
    intro r
    induction r with
    | nil => intro k _; rfl
    | cons b r ih =>
      intro k hb
      unfold sIxF
      rw [if_neg (fun e : b = z => hz (e ▸ hb b List.mem_cons_self))]
      exact ih (k + 1) (fun c hc => hb c (List.mem_cons_of_mem _ hc))
  exact this B81 0 b81_hi
theorem c_ixLoop {n : Nat} (hn : n < 256) : ∀ m i, i + m = 7 → Q (some (.int (sIxF (nI n) (B81.drop i) i))) (LH (old0 sl sx) S K T X M) → aAt l G d 0 0 87 7 [(0, .ref 4), (3, .int (nI 7)), (4, .int (nI n).toInt8.toInt32), (5, .int (nI i))] [] 0 0 (LH (old0 sl sx) S K T X M) Q := by
  intro m
  induction m with
  | zero =>
    intro i hi hQ
    have e : i = 7 := by omega
    subst e
    refine s_iload f_87_7 rfl ?_
    refine s_iload_n f_87_9 rfl ?_
    refine s_icmp_ge 31 f_87_10 (by decide) (fun c => ?_) (fun c => absurd (by decide) c)
    refine k_iconst (v := -1) f_87_31 (by decide) ?_
    exact s_ireturn f_87_32 rfl rfl hQ
  | succ m ih =>
    intro i hi hQ
    refine s_iload f_87_7 rfl ?_
    refine s_iload_n f_87_9 rfl ?_
    refine s_icmp_ge 31 f_87_10 (by decide) (fun c => absurd ((nI_leI (by decide) (by omega)).mp c) (by omega)) (fun c => ?_)
    refine s_aload_n f_87_13 rfl ?_
    refine s_iload f_87_14 rfl ?_
    refine s_baload (w := B81.getD i 0) f_87_16 (show 4 < 172 + X.2 by omega) rfl (vpn (show i < 7 by omega) (by decide)).1 (by rw [(vpn (show i < 7 by omega) (by decide)).2]; rfl) ?_
    refine s_iload f_87_17 rfl ?_
    have hdr : B81.drop i = B81.getD i 0 :: B81.drop (i + 1) := by
      have hl : i < B81.length := by show i < 7; omega
      rw [List.drop_eq_getElem_cons hl, List.getD_eq_getElem?_getD, List.getElem?_eq_getElem hl]
      rfl
    rw [hdr] at hQ
    unfold sIxF at hQ
    refine s_icmp_ne 25 f_87_19 (by decide) (fun c => ?_) (fun c => ?_)
    · rw [if_neg (fun z => c ((b81_eq n hn i (by omega)).mpr z))] at hQ
      refine k_iinc (w := 1) f_87_25 rfl (by decide) (by decide) ?_
      refine s_goto 7 f_87_28 (by decide) ?_
      refine aAt.sub [(0, .ref 4), (3, .int (nI 7)), (4, .int (nI n).toInt8.toInt32), (5, .int (nI (i + 1)))] (by rw [← nI_n1 i]; rfl) ?_
      exact ih (i + 1) (by omega) hQ
    · rw [if_pos ((b81_eq n hn i (by omega)).mp c)] at hQ
      refine s_iload f_87_22 rfl ?_
      exact s_ireturn f_87_24 rfl rfl hQ
theorem c_can {z : Int32} (hQ : Q (some (.int (bI (0 ≤ z ∧ z ≤ 255)))) h) : aCall l G d 0 0 86 [.int z] h Q := by
  refine aCall.of (by decide) (Nat.le_of_ble_eq_true rfl) ?_
  refine aAt.sub [(0, .int z)] rfl ?_
  refine s_iload_n f_86_0 rfl ?_
  refine s_if_lt 15 f_86_1 (by decide) (fun c => ?_) (fun c => ?_)
  · rw [bI_f (fun q => absurd q.1 (Int32.not_le.mpr c))] at hQ
    refine k_iconst (v := 0) f_86_15 (by decide) ?_
    exact s_ireturn f_86_16 rfl rfl hQ
  · refine s_iload_n f_86_4 rfl ?_
    refine k_sipush (v := 255) f_86_5 (by decide) ?_
    refine s_icmp_gt 15 f_86_8 (by decide) (fun c2 => ?_) (fun c2 => ?_)
    · rw [bI_f (fun q => absurd q.2 (Int32.not_le.mpr c2))] at hQ
      refine k_iconst (v := 0) f_86_15 (by decide) ?_
      exact s_ireturn f_86_16 rfl rfl hQ
    · rw [bI_t ⟨Int32.not_lt.mp c, Int32.not_lt.mp c2⟩] at hQ
      refine k_iconst (v := 1) f_86_11 (by decide) ?_
      refine s_goto 16 f_86_12 (by decide) ?_
      exact s_ireturn f_86_16 rfl rfl hQ
theorem c_ix1 {z : Int32} (hQ : Q (some (.int (sIx z))) (LH (old0 sl sx) S K T X M)) : aCall l G (d + 1) 0 0 85 [.ref 4, .int z, .int 0, .int 7] (LH (old0 sl sx) S K T X M) Q := by
  refine aCall.of (by decide) (Nat.le_of_ble_eq_true rfl) ?_
  refine aAt.sub [(0, .ref 4), (1, .int z), (2, .int 0), (3, .int 7)] rfl ?_
  refine s_iload_n f_85_0 rfl ?_
  refine L_stat (As := [.int z]) f_85_1 ca_43_88 rfl rfl (Nat.le_of_ble_eq_true rfl) ?_
  refine c_can ?_
  refine s_if_ne 9 f_85_4 (by decide) (fun c => ?_) (fun c => ?_)
  · have hz := bI_1.mp c
    refine s_iload_n f_85_9 rfl ?_
    refine k_iconst (v := 0) f_85_10 (by decide) ?_
    refine s_max f_85_11 ca_43_92 (Nat.le_of_ble_eq_true rfl) ?_
    refine s_istore_n f_85_14 (by decide) ?_
    refine s_iload_n f_85_15 rfl ?_
    refine s_aload_n f_85_16 rfl ?_
    refine s_alen f_85_17 (show 4 < 172 + X.2 by omega) (show 20 ≤ 22 by decide) ?_
    refine s_min f_85_18 ca_43_38 (Nat.le_of_ble_eq_true rfl) ?_
    refine s_istore_n f_85_21 (by decide) ?_
    refine aAt.sub [(0, .ref 4), (1, .int z), (2, .int (nI 0)), (3, .int (nI 7))] rfl ?_
    refine s_iload_n f_85_22 rfl ?_
    refine s_iload_n f_85_23 rfl ?_
    refine s_icmp_lt 29 f_85_24 (by decide) (fun c3 => ?_) (fun c3 => absurd (by decide) c3)
    refine s_aload_n f_85_29 rfl ?_
    refine s_iload_n f_85_30 rfl ?_
    refine s_iload_n f_85_31 rfl ?_
    refine s_iload_n f_85_32 rfl ?_
    refine L_stat (As := [.ref 4, .int z, .int (nI 0), .int (nI 7)]) f_85_33 ca_43_95 rfl rfl (Nat.le_of_ble_eq_true rfl) ?_
    obtain ⟨n, hn, rfl⟩ := ix_ab (a := 0) (b := 255) (n := 255) rfl (by decide) hz
    refine aCall.of (by decide) (Nat.le_of_ble_eq_true rfl) ?_
    refine aAt.sub [(0, .ref 4), (1, .int (nI n)), (2, .int (nI 0)), (3, .int (nI 7))] rfl ?_
    refine s_iload_n f_87_0 rfl ?_
    refine s_i2b f_87_1 ?_
    refine s_istore f_87_2 (by decide) ?_
    refine s_iload_n f_87_4 rfl ?_
    refine s_istore f_87_5 (by decide) ?_
    refine aAt.sub [(0, .ref 4), (3, .int (nI 7)), (4, .int (nI n).toInt8.toInt32), (5, .int (nI 0))] rfl ?_
    refine c_ixLoop (by omega) 7 0 rfl ?_
    exact s_ireturn f_85_36 rfl rfl hQ
  · have hz := bI_0.mp c
    rw [sIx_out hz] at hQ
    refine k_iconst (v := -1) f_85_7 (by decide) ?_
    exact s_ireturn f_85_8 rfl rfl hQ
theorem X_ind {i c' i' n : Nat} {z : Int32} (hd : decode (mB y) pc = .ok (.invokevirtual i, 3)) (hf : cal (mC y) i = some (c', i', 0, 83, n)) (hn0 : n = 1) (hW : cats st ≤ 8) (k : aAt l G (d + 8) mc ms y (pc + 3) lv (.int (sIx z) :: st) bc bs (LH (old0 sl sx) S K T X M) Q) : aAt l G (d + 8) mc ms y pc lv (.int z :: .ref 2 :: st) bc bs (LH (old0 sl sx) S K T X M) Q := by
  refine s_virtS (u := 0) (As := [.int z]) (by decide) hd hf rfl hn0.symm rfl hW ?_
  refine aCall.of (by decide) (Nat.le_of_ble_eq_true rfl) ?_
  refine aAt.sub [(0, .ref 2), (1, .int z)] rfl ?_
  refine s_aload_n f_83_0 rfl ?_
  refine s_iload_n f_83_1 rfl ?_
  refine k_iconst (v := 0) f_83_2 (by decide) ?_
  refine s_virtS (u := 0) (As := [.int z, .int 0]) (by decide) f_83_3 ca_42_633 rfl rfl rfl (Nat.le_of_ble_eq_true rfl) ?_
  refine aCall.of (by decide) (Nat.le_of_ble_eq_true rfl) ?_
  refine aAt.sub [(0, .ref 2), (1, .int z), (2, .int 0)] rfl ?_
  refine s_aload_n f_84_0 rfl ?_
  refine s_virtS (u := 0) (As := []) (by decide) f_84_1 ca_42_492 rfl rfl rfl (Nat.le_of_ble_eq_true rfl) ?_
  refine c_latin (u := 0) (by decide) ?_
  refine s_if_eq 23 f_84_4 (by decide) (fun c => absurd c (by decide)) (fun c => ?_)
  refine s_aload_n f_84_7 rfl ?_
  refine s_getV (u := 0) (by decide) f_84_8 rfl ?_
  refine s_iload_n f_84_11 rfl ?_
  refine s_iload_n f_84_12 rfl ?_
  refine s_aload_n f_84_13 rfl ?_
  refine s_virtS (u := 0) (As := []) (by decide) f_84_14 ca_42_505 rfl rfl rfl (Nat.le_of_ble_eq_true rfl) ?_
  refine c_strlen (d := d + 4) (u := 0) (n := 7) (by decide) rfl (show 4 < 172 + X.2 by omega) (show 20 ≤ 22 by decide) (by decide) ?_
  refine L_stat (As := [.ref 4, .int z, .int 0, .int 7]) f_84_17 ca_42_637 rfl rfl (Nat.le_of_ble_eq_true rfl) ?_
  refine c_ix1 (d := d + 4) ?_
  refine s_goto 36 f_84_20 (by decide) ?_
  refine s_ireturn f_84_36 rfl rfl ?_
  exact s_ireturn f_83_6 rfl rfl k
theorem nn_clamp {z : Int32} (hz : 0 ≤ z.toInt) : z.toInt = (z.toNatClampNeg : Int) := by
  show z.toInt = ((z.toInt.toNat : Nat) : Int)
  omega
theorem cop_in {f g : Nat → Value} {c0 c1 : ClassId} {nx ny : Nat} {a b n : Int32} (h4 : a.toNatClampNeg + n.toNatClampNeg ≤ nx) : copied (arrV c0 nx f) (arrV c1 ny g) a b n = arrV c1 ny (va_cpy f g a.toNatClampNeg b.toNatClampNeg n.toNatClampNeg) := va_copied (fun z => z) c0 c1 f g h4
theorem hset_cp {o : Nat → aCell} {S M : SS} {K : KS} {T : TS} {X : XS} {x z nx ny : Nat} {a b n : Int32} (hx : oc X.2 x 20) (hz : oc X.2 z 20) (hnx : ln X.1 x = nx) (hnz : ln X.1 z = ny) : (lay o X.2 (jn (cpS S x a z b n) M) K (tV T) X.1) = ((lay o X.2 (jn S M) K (tV T) X.1).1, fun k => if k = z then (20, ny, fun j => va_cpy (((lay o X.2 (jn S M) K (tV T) X.1).2 x).2.2) (((lay o X.2 (jn S M) K (tV T) X.1).2 z).2.2) (ix a) (ix b) (ix n) j) else (lay o X.2 (jn S M) K (tV T) X.1).2 k) := by
  refine Prod.ext rfl (funext fun k => ?_)
  show (lay o X.2 (jn (cpS S x a z b n) M) K (tV T) X.1).2 k = _
  dsimp only
  have hzs : ∀ j, sc z j = 0 := fun j => sck0 hz.1 (by decide)
  have hxs : ∀ j, sc x j = 0 := fun j => sck0 hx.1 (by decide)
  by_cases hk : k = z
  · subst hk
    rw [if_pos rfl, lay_2 hz.1.1, lay_2 hz.1.1, lay_2 hx.1.1, hz.1.2.2, hnz]
    refine Prod.ext rfl (Prod.ext rfl (funext fun j => ?_))
    dsimp only
    rw [sv0 (hzs j), jnC hz.2]
    unfold cpS
    by_cases hj : ix b ≤ j ∧ j < ix b + ix n
    · rw [if_pos ⟨rfl, hj⟩, pk_cpy_in hj.1 hj.2, sv0 (hxs _), jnC hx.2]
    · rw [if_neg (fun q => hj q.2), pk_cpy_out (by omega), sv0 (hzs j), jnC hz.2]
  · rw [if_neg hk]
    by_cases h8 : k < 8
    · show (if k < 8 then o k else _) = (if k < 8 then o k else _)
      rw [if_pos h8, if_pos h8]
    · rw [lay_2 (by omega), lay_2 (by omega)]
      refine Prod.ext rfl (Prod.ext rfl (funext fun j => ?_))
      dsimp only
      have e : jn (cpS S x a z b n) M k = jn S M k := by
        unfold jn
        by_cases hm : 154 ≤ k ∧ k < 172
        · rw [if_pos hm, if_pos hm]
        · rw [if_neg hm, if_neg hm]
          funext j
          unfold cpS
          rw [if_neg (fun q => hk q.1)]
      unfold sv
      rw [e]
theorem s_acopy {i c' i' y' na x z nx ny : Nat} {a b n : Int32} {f : Nat → Int32} (hd : decode (mB y) pc = .ok (.invokestatic i, 3)) (hf : cal (mC y) i = some (c', i', 4, y', na)) (hx : 8 ≤ x ∧ x < h.1) (hz : 8 ≤ z ∧ z < h.1) (hkx : (h.2 x).1 = 20) (hkz : (h.2 z).1 = 20) (hlx : (h.2 x).2.1 = nx) (hlz : (h.2 z).2.1 = ny) (hvx : ∀ j, (h.2 x).2.2 j = .int (f j)) (g : cpOk nx ny a b n) (hW : cats st ≤ 8) (k : aAt l G (d + 1) mc ms y (pc + 3) lv st bc bs (h.1, fun k => if k = z then (20, ny, fun j => va_cpy (h.2 x).2.2 (h.2 z).2.2 (ix a) (ix b) (ix n) j) else h.2 k) Q) : aAt l G (d + 1) mc ms y pc lv (.int n :: .int b :: .ref z :: .int a :: .ref x :: st) bc bs h Q := by
  intro p e R s m args below meth c ls H locs cells slots E
  obtain ⟨e1, e2, c1⟩ := cal_ok hf
  dsimp only at e1 e2
  subst e1 e2
  obtain ⟨hex, hb, hml, hown, hts, hK, -⟩ := id E.1
  obtain ⟨rc, rs, rf, rl⟩ := id E.2.1
  obtain ⟨g1, g2, g3, g4, g5⟩ := g
  have hh := E.2.2.2.1
  obtain ⟨ax1, ax2, ax3⟩ := (hh.2.2.2.2 x hx.1 hx.2).arr (by rw [hkx]; decide)
  obtain ⟨az1, az2, az3⟩ := (hh.2.2.2.2 z hz.1 hz.2).arr (by rw [hkz]; decide)
  rw [hkx, hlx] at ax3
  rw [hkz, hlz] at az3
  rw [hkx] at ax1
  obtain ⟨t, ht⟩ := aTys_at (cA := G.2.2.2.1) ax1
  obtain ⟨-, k0, hk0, cm0, hkk0⟩ := (hK.2.1.2 t _ ht).1 nx (fun j => cvv G.1 ((h.2 x).2.2 j))
  obtain ⟨-, k1, hk1, cm1, hkk1⟩ := (hK.2.1.2 t _ ht).1 ny (fun j => cvv G.1 ((h.2 z).2.2 j))
  have nnl : ∀ q : Int32, 0 ≤ q.toInt → ¬ q < 0 := fun q hq h => by
    have := Int32.lt_iff_toInt_lt.mp h
    simp at this
    omega
  have ea := nn_clamp g1
  have eb := nn_clamp g2
  have en := nn_clamp g3
  have hnf : nativeFrameWords "java/lang/System" "arraycopy" 5 ≤ 12 := by decide
  intro TT hT XX
  obtain ⟨vm', X', step⟩ := XX.arraycopy hex hown (hts _ c1) (hts _ (aT_in (sg_4 (i := 107) rfl) rfl)) (hts _ (aT_in (sg_4 (i := 106) rfl) rfl)) (hts _ (aT_in (sg_1 (i := 21) rfl) rfl)) (src := G.1 x) (dst := G.1 z) (srcPos := a) (destPos := b) (n := n) (by rw [hT]; exact ax3) (by rw [hT]; exact az3)
    (fun _ h => by cases h) (fun _ h => by cases h) (fun h => by cases h) (fun h => by cases h) hk0 hk1 hkk0 hkk1 (by simp [aty, refKind]) (nnl a g1) (nnl b g2) (nnl n g3)
    (by rw [ea, en]; show ¬ _ > ((arrV _ nx _).slots.size : Int); rw [arrV_size]; omega)
    (by rw [eb, en]; show ¬ _ > ((arrV _ ny _).slots.size : Int); rw [arrV_size]; omega)
    (fun vm₁ _ i hi => by
      have e : (arrV (G.2.2.2.1 20) nx (fun j => cvv G.1 ((h.2 x).2.2 j))).slots.getD (a.toNatClampNeg + i) .null = .int (f (a.toNatClampNeg + i)) := by
        rw [Array.getD_eq_getD_getElem?, arrV_read _ _ (by omega), hvx]
        rfl
      refine ⟨?_, ?_⟩
      · rw [e]; rfl
      · rw [e]; exact trivial)
    (g := F0 m pc ls (.int n :: .int b :: .ref (G.1 z) :: .int a :: .ref (G.1 x) :: st.map (cvv G.1))) rfl (by rw [E.2.2.1.1, hml]) (rest := st.map (cvv G.1)) rfl (by rw [hb]; exact hd) (by omega) (by show 2 * 0 + ((st.map (cvv G.1)).map fun v => v.category).sum + (nativeFrameWords "java/lang/System" "arraycopy" 5 + 11) ≤ _; rw [cats_cv]; omega)
  rw [cop_in (by omega)] at X' step
  have hl : G.1 z < H.size := (Array.getElem?_eq_some_iff.mp az3).1
  generalize hcell : arrV (G.2.2.2.1 20) ny (va_cpy (fun j => cvv G.1 ((h.2 x).2.2 j)) (fun j => cvv G.1 ((h.2 z).2.2 j)) a.toNatClampNeg b.toNatClampNeg n.toNatClampNeg) = cell at X' step
  have hheap : ((TT.setVm vm').setCell (G.1 z) cell).heap = H.setIfInBounds (G.1 z) cell := by rw [← hT]; rfl
  have oq : ∀ q : Nat, q ≠ G.1 z → (H.setIfInBounds (G.1 z) cell)[q]? = H[q]? := fun q hq => by simp [Array.getElem?_setIfInBounds, Ne.symm hq]
  have hnew : aHR G (h.1, fun k => if k = z then (20, ny, fun j => va_cpy (h.2 x).2.2 (h.2 z).2.2 (ix a) (ix b) (ix n) j) else h.2 k) (H.setIfInBounds (G.1 z) cell) := by
    refine ⟨hh.1, by simp; exact hh.2.1, fun q hq => ?_, fun q hq => ?_, fun q hq hq2 => ?_⟩
    · rw [oq q (fun e => by rw [hK.1.1 z hz.1] at e; omega)]
      exact hh.2.2.1 q hq
    · dsimp only
      rw [if_neg (by have := hz.1; omega)]
      exact hh.2.2.2.1 q hq
    · dsimp only
      by_cases e : q = z
      · subst e
        rw [if_pos rfl]
        refine Or.inr ⟨ax1, by rw [← hlz]; exact az2, ?_⟩
        have : (H.setIfInBounds (G.1 q) cell)[G.1 q]? = some cell := by simp [Array.getElem?_setIfInBounds, hl]
        rw [this, ← hcell]
        congr 2
        funext j
        show va_cpy _ _ _ _ _ j = cvv G.1 (va_cpy _ _ _ _ _ j)
        unfold va_cpy
        show (if _ then _ else _) = cvv G.1 (if _ then _ else _)
        by_cases hj : ix b ≤ j ∧ j < ix b + ix n
        · exact (if_pos hj).trans (congrArg (cvv G.1) (if_pos hj).symm)
        · exact (if_neg hj).trans (congrArg (cvv G.1) (if_neg hj).symm)
      · rw [if_neg e]
        exact (hh.2.2.2.2 q hq hq2).kept (oq _ (hK.1.ne hq hz.1 e))
  obtain ⟨t1, a1, b1⟩ := k p _ R s m args below meth c ls _ _ cells slots ⟨E.1, E.2.1, E.2.2.1, hnew, fun q hq => by
      rcases List.mem_append.mp hq with h | h
      · exact E.2.2.2.2.1 q h
      · obtain ⟨w, -, hw⟩ := List.mem_map.mp h
        rw [← hw]
        show G.2.1.size ≤ G.1 z
        rw [hK.1.1 z hz.1]; omega, E.2.2.2.2.2⟩ _ hheap X'
  exact ⟨t1, step t1 a1, b1⟩
theorem C_acopy {i c' i' y' na x z nx ny : Nat} {a b n : Int32} (hd : decode (mB y) pc = .ok (.invokestatic i, 3)) (hf : cal (mC y) i = some (c', i', 4, y', na)) (hx : oc X.2 x 20) (hz : oc X.2 z 20) (hnx : ln X.1 x = nx) (hnz : ln X.1 z = ny) (g : cpOk nx ny a b n) (hW : cats st ≤ 8) (k : aAt l G (d + 1) mc ms y (pc + 3) lv st bc bs (LH (old0 sl sx) (cpS S x a z b n) K T X M) Q) : aAt l G (d + 1) mc ms y pc lv (.int n :: .int b :: .ref z :: .int a :: .ref x :: st) bc bs (LH (old0 sl sx) S K T X M) Q := by
  have hkx : ((LH (old0 sl sx) S K T X M).2 x).1 = 20 := by rw [lay_2 hx.1.1]; exact hx.1.2.2
  have hkz : ((LH (old0 sl sx) S K T X M).2 z).1 = 20 := by rw [lay_2 hz.1.1]; exact hz.1.2.2
  have hlx : ((LH (old0 sl sx) S K T X M).2 x).2.1 = nx := by rw [lay_2 hx.1.1]; exact hnx
  have hlz : ((LH (old0 sl sx) S K T X M).2 z).2.1 = ny := by rw [lay_2 hz.1.1]; exact hnz
  have hvx : ∀ j, ((LH (old0 sl sx) S K T X M).2 x).2.2 j = .int (S x j) := fun j => by rw [lay_2 hx.1.1]; show sv _ _ _ x j = _; rw [sv0 (sck0 hx.1 (by decide)), jnC hx.2]
  refine s_acopy hd hf ⟨hx.1.1, hx.1.2.1⟩ ⟨hz.1.1, hz.1.2.1⟩ hkx hkz hlx hlz hvx g hW ?_
  rw [show LH (old0 sl sx) (cpS S x a z b n) K T X M = _ from hset_cp hx hz hnx hnz] at k
  exact k
def fillTo (S : SS) (x : Nat) (v : Int32) (i : Nat) : SS := fun a b => if a = x ∧ b < i then v else S a b
theorem fillTo_0 {S : SS} {x : Nat} {v : Int32} : fillTo S x v 0 = S := by
  funext a b
  unfold fillTo
  rw [if_neg (by omega)]
theorem fillTo_1 {S : SS} {x i : Nat} {v : Int32} : up (fillTo S x v i) x i v = fillTo S x v (i + 1) := by
  funext a b
  unfold up fillTo
  by_cases h : a = x ∧ b = i
  · rw [if_pos h, if_pos (by omega)]
  · rw [if_neg h]
    by_cases h2 : a = x ∧ b < i
    · rw [if_pos h2, if_pos (by omega)]
    · rw [if_neg h2, if_neg (by omega)]
theorem nI_int {n : Nat} (h : n < 2 ^ 31) : (nI n).toInt = n := by
  show (Int32.ofNat n).toInt = n
  rw [Int32.toInt_ofNat_of_lt h]
theorem nI_ix {n : Nat} (h : n < 2 ^ 31) : ix (nI n) = n := by
  show (nI n).toInt.toNat = n
  rw [nI_int h]
  omega
theorem nI_inb {i n : Nat} (h : i < n) (hn : n < 2 ^ 31) : inb (nI i) n := by
  show 0 ≤ (nI i).toInt ∧ (nI i).toInt < (n : Int)
  rw [nI_int (Nat.lt_trans h hn)]
  omega
theorem fill_loop {n x : Nat} {v : Int32} (hx : oc X.2 x 20) (hn : ln X.1 x = n) (hl : n < 2 ^ 31) (hQ : Q none (LH (old0 sl sx) (fillTo S x v n) K T X M)) : ∀ m i, i + m = n → aAt l G d 0 0 116 5 [(0, .ref x), (1, .int v), (2, .int (nI i)), (3, .int (nI n))] [] 0 0 (LH (old0 sl sx) (fillTo S x v i) K T X M) Q := by
  intro m
  induction m with
  | zero =>
    intro i h
    refine s_iload_n f_116_5 rfl ?_
    refine s_iload_n f_116_6 rfl ?_
    refine s_icmp_ge 20 f_116_7 (by decide) (fun c => ?_) (fun c => absurd ((nI_leI hl (by omega)).mpr (by omega)) c)
    refine s_return f_116_20 rfl ?_
    have e : i = n := by omega
    rw [e]
    exact hQ
  | succ m ih =>
    intro i h
    refine s_iload_n f_116_5 rfl ?_
    refine s_iload_n f_116_6 rfl ?_
    refine s_icmp_ge 20 f_116_7 (by decide) (fun c => absurd ((nI_leI hl (by omega)).mp c) (by omega)) (fun c => ?_)
    refine s_aload_n f_116_10 rfl ?_
    refine s_iload_n f_116_11 rfl ?_
    refine s_iload_n f_116_12 rfl ?_
    refine C_iastore (n := n) (q := i) f_116_13 hx hn hl (nI_ix (by omega)) (nI_inb (by omega) hl) ?_
    refine k_iinc (w := 1) f_116_14 rfl (by decide) (by decide) ?_
    refine s_goto 5 f_116_17 (by decide) ?_
    rw [fillTo_1]
    refine aAt.sub [(0, .ref x), (1, .int v), (2, .int (nI (i + 1))), (3, .int (nI n))] (by rw [← nI_n1]; rfl) ?_
    exact ih (i + 1) (by omega)
theorem t_cFill {n x : Nat} {v : Int32} {p : SS} (hx : oc X.2 x 20) (hn : ln X.1 x = n) (hl : n < 2 ^ 31) (hd : cFill n S x v = some p) (hQ : Q none (LH (old0 sl sx) p K T X M)) : aCall l G d 0 0 116 [.ref x, .int v] (LH (old0 sl sx) S K T X M) Q := by
  cases hd
  refine aCall.of (by decide) (Nat.le_of_ble_eq_true rfl) ?_
  refine aAt.sub [(0, .ref x), (1, .int v)] rfl ?_
  refine k_iconst (v := 0) f_116_0 (by decide) ?_
  refine s_istore_n f_116_1 (by decide) ?_
  refine s_aload_n f_116_2 rfl ?_
  refine C_alen (ak := 20) f_116_3 hx (by decide) hn ?_
  refine s_istore_n f_116_4 (by decide) ?_
  refine aAt.sub [(0, .ref x), (1, .int v), (2, .int (nI 0)), (3, .int (nI n))] rfl ?_
  have := fill_loop (l := l) (G := G) (d := d) (sl := sl) (sx := sx) (S := S) (K := K) (T := T) (M := M) hx hn hl hQ n 0 (by omega)
  rw [fillTo_0] at this
  exact this
def fillK (K : KS) (v : Int64) (i : Nat) : KS := fun b => if b < i then v else K b
theorem fillK_0 {K : KS} {v : Int64} : fillK K v 0 = K := by
  funext b
  unfold fillK
  rw [if_neg (by omega)]
theorem fillK_1 {K : KS} {i : Nat} {v : Int64} : upK (fillK K v i) i v = fillK K v (i + 1) := by
  funext b
  unfold upK fillK
  by_cases h : b = i
  · rw [if_pos h, if_pos (by omega)]
  · rw [if_neg h]
    by_cases h2 : b < i
    · rw [if_pos h2, if_pos (by omega)]
    · rw [if_neg h2, if_neg (by omega)]
theorem fillL_loop {v : Int64} (hQ : Q none (LH (old0 sl sx) S (fillK K v 3721) T X M)) : ∀ m i, i + m = 3721 → aAt l G d 0 0 149 6 [(0, .ref 144), (1, .long v), (3, .int (nI i)), (4, .int (nI 3721))] [] 0 0 (LH (old0 sl sx) S (fillK K v i) T X M) Q := by
  intro m
  induction m with
  | zero =>
    intro i h
    refine s_iload_n f_149_6 rfl ?_
    refine s_iload f_149_7 rfl ?_
    refine s_icmp_ge 22 f_149_9 (by decide) (fun c => ?_) (fun c => absurd ((nI_leI (by decide) (by omega)).mpr (by omega)) c)
    refine s_return f_149_22 rfl ?_
    have e : i = 3721 := by omega
    rw [e]
    exact hQ
  | succ m ih =>
    intro i h
    refine s_iload_n f_149_6 rfl ?_
    refine s_iload f_149_7 rfl ?_
    refine s_icmp_ge 22 f_149_9 (by decide) (fun c => absurd ((nI_leI (by decide) (by omega)).mp c) (by omega)) (fun c => ?_)
    refine s_aload_n f_149_12 rfl ?_
    refine s_iload_n f_149_13 rfl ?_
    refine s_lload_n f_149_14 rfl ?_
    refine C_lastore (q := i) f_149_15 (nI_ix (by omega)) (nI_inb (by omega) (by decide)) ?_
    refine k_iinc (w := 1) f_149_16 rfl (by decide) (by decide) ?_
    refine s_goto 6 f_149_19 (by decide) ?_
    rw [fillK_1]
    refine aAt.sub [(0, .ref 144), (1, .long v), (3, .int (nI (i + 1))), (4, .int (nI 3721))] (by rw [← nI_n1 i]; rfl) ?_
    exact ih (i + 1) (by omega)
theorem t_cFillL {v : Int64} {p : KS} (hd : cFillL K v = some p) (hQ : Q none (LH (old0 sl sx) S p T X M)) : aCall l G d 0 0 149 [.ref 144, .long v] (LH (old0 sl sx) S K T X M) Q := by
  cases hd
  refine aCall.of (by decide) (Nat.le_of_ble_eq_true rfl) ?_
  refine aAt.sub [(0, .ref 144), (1, .long v)] rfl ?_
  refine k_iconst (v := 0) f_149_0 (by decide) ?_
  refine s_istore_n f_149_1 (by decide) ?_
  refine s_aload_n f_149_2 rfl ?_
  refine L_alen (ak := 21) f_149_3 (obL (by decide)) (by decide) (rfl : ln _ 144 = 3721) ?_
  refine s_istore f_149_4 (by decide) ?_
  refine aAt.sub [(0, .ref 144), (1, .long v), (3, .int (nI 0)), (4, .int (nI 3721))] rfl ?_
  have := fillL_loop (l := l) (G := G) (d := d) (sl := sl) (sx := sx) (S := S) (K := K) (T := T) (X := X) (M := M) hQ 3721 0 (by omega)
  rw [fillK_0] at this
  exact this
end Nat14
