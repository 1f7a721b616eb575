/-! ===== the constructors, number by number ===== -/
def cseq : List Nat := [9000, 9001, 9002, 9003, 9004, 9005, 9006, 10000, 10001, 10002, 10003, 10004, 10005, 10006, 10007, 10008, 10009, 10010, 10011, 10012, 10013, 11000, 11001, 11002, 11003, 11004, 11005, 11006, 11007, 12000, 12001, 12002, 12003, 12004, 12005, 12006, 12007, 12008, 12009, 12010, 12011, 12012, 12013, 12014, 12015, 12016, 12017, 12018, 12019, 13000, 13001, 13002, 13003, 13004, 13005, 13006, 13007, 13008, 13009, 13010, 13011, 8000, 71000, 71001, 71002, 71003, 71004, 71005, 71006, 72000, 72001, 72002, 72003, 72004, 72005, 72006, 72007, 72008, 72009, 72010, 72011, 72012, 72013, 73000, 73001, 73002, 73003, 73004, 73005, 73006, 73007, 74000, 74001, 74002, 74003, 74004, 74005, 74006, 74007, 74008, 74009, 74010, 74011, 74012, 74013, 74014, 74015, 74016, 74017, 74018, 74019, 75000, 75001, 75002, 75003, 75004, 75005, 75006, 75007, 75008, 75009, 75010, 75011, 8001, 133001, 133002, 133000, 8002, 136000, 136001, 8003, 137000, 137002, 137003, 137006, 137008, 8004, 143001, 8005, 8006, 146000, 145000, 148000, 145001, 150000, 145002, 152000, 145003, 154000, 154001, 154004, 154005, 154006, 154007, 154009, 154010, 154011, 154012, 154013, 154014, 154021, 154022, 154023, 154024, 154025]
def Z0 : SS := fun _ _ => 0
def S1 : SS := (up Z0 143 0 (-1))
def S2 : SS := (up (up (up (up (up (up (up (up (up (up (up (up (up (up (up (up (up (up (up (up (up (up (up (up (up (up (up (up (up (up (up (up (up (up (up (up (up (up (up (up (up (up (up (up (up (up (up (up (up (up (up (up (up (up (up (up (up (up (up (up (up (up (up (up (up (up (up (up (up (up (up (up (up (up (up (up (up (up (up (up (up (up (up (up (up (up S1 161 0 107) 161 1 105) 161 2 110) 161 3 100) 161 4 97) 161 5 103) 161 6 101) 161 7 108) 161 8 101) 161 9 102) 161 10 116) 161 11 111) 161 12 119) 161 13 101) 161 14 100) 161 15 112) 161 16 97) 161 17 105) 161 18 100) 161 19 115) 161 20 117) 161 21 109) 161 22 119) 161 23 111) 161 24 114) 161 25 116) 161 26 104) 161 27 119) 161 28 111) 161 29 114) 161 30 100) 161 31 115) 161 32 116) 161 33 114) 161 34 97) 161 35 110) 161 36 103) 161 37 101) 161 38 114) 161 39 119) 161 40 97) 161 41 108) 161 42 108) 161 43 115) 161 44 116) 161 45 101) 161 46 114) 161 47 109) 161 48 102) 161 49 97) 161 50 108) 161 51 108) 161 52 115) 161 53 98) 161 54 97) 161 55 99) 161 56 107) 161 57 108) 161 58 111) 161 59 97) 161 60 110) 161 61 111) 161 62 114) 161 63 97) 161 64 110) 161 65 100) 161 66 110) 161 67 111) 161 68 116) 162 1 4) 162 2 7) 162 3 11) 162 4 15) 162 5 19) 162 6 22) 162 7 27) 162 8 31) 162 9 39) 162 10 44) 162 11 48) 162 12 53) 162 13 57) 162 14 61) 162 15 63) 162 16 66) 162 17 69)
theorem ca_0_1 : cal 0 1 = some (0, 1, 3, 0, 0) := by decide +kernel
theorem ca_0_9 : cal 0 9 = some (0, 9, 2, 1, 0) := by decide +kernel
theorem ca_0_21 : cal 0 21 = some (0, 21, 2, 6, 1) := by decide +kernel
theorem ca_0_30 : cal 0 30 = some (0, 30, 2, 7, 2) := by decide +kernel
theorem ca_0_39 : cal 0 39 = some (0, 39, 12, 8, 0) := by decide +kernel
theorem ca_0_46 : cal 0 46 = some (0, 46, 12, 9, 0) := by decide +kernel
theorem ca_0_65 : cal 0 65 = some (0, 65, 12, 10, 0) := by decide +kernel
theorem ca_1_3 : cal 1 3 = some (1, 3, 3, 0, 0) := by decide +kernel
theorem ca_2_1 : cal 2 1 = some (2, 1, 3, 0, 0) := by decide +kernel
theorem ca_3_3 : cal 3 3 = some (3, 3, 3, 0, 0) := by decide +kernel
theorem ca_3_70 : cal 3 70 = some (3, 70, 12, 2, 0) := by decide +kernel
theorem ca_3_71 : cal 3 71 = some (3, 71, 12, 3, 0) := by decide +kernel
theorem ca_3_72 : cal 3 72 = some (3, 72, 12, 4, 0) := by decide +kernel
theorem ca_3_73 : cal 3 73 = some (3, 73, 12, 5, 0) := by decide +kernel
theorem ca_4_1 : cal 4 1 = some (4, 1, 3, 0, 0) := by decide +kernel
theorem ca_5_3 : cal 5 3 = some (5, 3, 3, 0, 0) := by decide +kernel
theorem ca_6_1 : cal 6 1 = some (6, 1, 3, 0, 0) := by decide +kernel
theorem ca_7_3 : cal 7 3 = some (7, 3, 3, 0, 0) := by decide +kernel
theorem ca_8_3 : cal 8 3 = some (8, 3, 3, 0, 0) := by decide +kernel
theorem ca_9_1 : cal 9 1 = some (9, 1, 3, 0, 0) := by decide +kernel
theorem ca_11_5 : cal 11 5 = some (11, 5, 3, 0, 0) := by decide +kernel
theorem ca_12_1 : cal 12 1 = some (12, 1, 3, 0, 0) := by decide +kernel
theorem ko_12_49 : kon 12 49 = some (12, 49, 33489) := by decide +kernel
theorem nc_0_7 : ncl 0 7 = some (0, 7, 3) := by decide +kernel
theorem nc_0_19 : ncl 0 19 = some (0, 19, 1) := by decide +kernel
theorem nc_0_28 : ncl 0 28 = some (0, 28, 8) := by decide +kernel
theorem nc_0_37 : ncl 0 37 = some (0, 37, 7) := by decide +kernel
theorem nc_0_44 : ncl 0 44 = some (0, 44, 11) := by decide +kernel
theorem nc_0_51 : ncl 0 51 = some (0, 51, 9) := by decide +kernel
theorem nc_3_9 : ncl 3 9 = some (3, 9, 6) := by decide +kernel
theorem nc_3_17 : ncl 3 17 = some (3, 17, 2) := by decide +kernel
theorem nc_3_23 : ncl 3 23 = some (3, 23, 5) := by decide +kernel
theorem nc_3_29 : ncl 3 29 = some (3, 29, 4) := by decide +kernel
theorem cseq_nd : cseq.Nodup := by decide +kernel
def v0 (t : Nat) (S : SS) (x j : Nat) : Value := match sc x j with
  | 0 => .int (S x j)
  | 1 => .long 0
  | 2 => .null
  | _ => if cseq.idxOf (1000 * x + j) < t then .ref (rf x j) else .null
def lay0 (o : Nat → aCell) (N t : Nat) (S : SS) : aHeap := (N, fun x => if x < 8 then o x else (kd x, ln (fun _ => 0) x, fun j => v0 t S x j))
theorem cidx {t a : Nat} (h : cseq[t]? = some a) : cseq.idxOf a = t := by
  obtain ⟨hl, rfl⟩ := List.getElem?_eq_some_iff.mp h
  exact cseq_nd.idxOf_getElem t hl
theorem cidx_inj {t a b : Nat} (h : cseq[t]? = some a) (hb : cseq.idxOf b = t) : b = a := by
  obtain ⟨hl, rfl⟩ := List.getElem?_eq_some_iff.mp h
  have hl2 : cseq.idxOf b < cseq.length := by rw [hb]; exact hl
  have := List.getElem_idxOf hl2
  rw [← this]
  congr 1
section PRows
variable {l : Launch} {G : aG} {d mc ms y pc : Nat} {lv : List (Nat × Value)} {st : List Value} {bc bs : Nat} {Q : Option Value → aHeap → Prop}
variable {o : Nat → aCell} {N t : Nat} {S : SS}
theorem lay0_2 {x : Nat} (h : 8 ≤ x) : (lay0 o N t S).2 x = (kd x, ln (fun _ => 0) x, fun j => v0 t S x j) := if_neg (by omega)
theorem lay0_o {x : Nat} (h : x < 8) : (lay0 o N t S).2 x = o x := if_pos h
theorem P_push {n ci : Nat} {f : Nat → Value} (hN : 8 ≤ N) (hk : kd N = ci) (hl : ln (fun _ => 0) N = n) (hv : ∀ j, j < n → f j = v0 t S N j) : hEq (lay0 o (N + 1) t S) (hnew (lay0 o N t S) (ci, n, f)) := by
  refine ⟨rfl, fun k hk8 => ?_, fun k hk8 hk2 => ?_⟩
  · rw [lay0_o hk8, hnew_n (by show ¬ k = N; omega), lay0_o hk8]
  · by_cases e : k = N
    · subst e
      have e2 : (hnew (lay0 o k t S) (ci, n, f)).2 k = (ci, n, f) := hnew_s
      rw [e2, lay0_2 hk8]
      refine ⟨hk, hl, fun j hj => ?_⟩
      dsimp only at hj ⊢
      rw [hl] at hj
      exact (hv j hj).symm
    · rw [hnew_n (by show ¬ k = N; exact e), lay0_2 hk8, lay0_2 hk8]
      exact ⟨rfl, rfl, fun _ _ => rfl⟩
theorem P_new {i c' i' ci n : Nat} (hd : decode (mB y) pc = .ok (.new i, 3)) (hf : ncl (mC y) i = some (c', i', ci)) (hk : 8 ≤ N ∧ kd N = ci ∧ ln (fun _ => 0) N = n) (hr : ∃ r : vw_C, aCl[ci]? = some r ∧ r.2.2 = n) (hv : ∀ j, j < n → aDef ci j = v0 t S N j) (hc : 1 ≤ bc) (hs : n ≤ bs) (kk : aAt l G d mc ms y (pc + 3) lv (.ref N :: st) (bc - 1) (bs - n) (lay0 o (N + 1) t S) Q) : aAt l G d mc ms y pc lv st bc bs (lay0 o N t S) Q :=
  s_new hd hf hr hc hs (aAt.heap (P_push hk.1 hk.2.1 hk.2.2 hv) kk)
theorem P_newarr {ty : ArrayType} {n : Nat} {v : Int32} (hd : decode (mB y) pc = .ok (.newarray ty, 2)) (ht : akOf ty ≠ 99) (hk : 8 ≤ N ∧ kd N = akOf ty ∧ ln (fun _ => 0) N = n) (hn : ¬ v < 0) (hn2 : v.toNatClampNeg = n) (hv : ∀ j, defaultValue (aty (akOf ty)) = v0 t S N j) (hb : n ≤ 60000) (hc : 1 ≤ bc) (hs : n ≤ bs) (kk : aAt l G d mc ms y (pc + 2) lv (.ref N :: st) (bc - 1) (bs - n) (lay0 o (N + 1) t S) Q) : aAt l G d mc ms y pc lv (.int v :: st) bc bs (lay0 o N t S) Q :=
  s_newarray hd ht hn hn2 hb hc hs (aAt.heap (P_push hk.1 hk.2.1 hk.2.2 (fun j _ => hv j)) kk)
theorem P_anew {i ak n : Nat} {v : Int32} {C : String} (hd : decode (mB y) pc = .ok (.anewarray i, 3)) (hl : Cond.classLink (cNm (mC y)) i C ∈ aT) (h1 : 30 ≤ ak) (h2 : ak ≤ 35) (hC : aty ak = .object C) (hn : ¬ v < 0) (hn2 : v.toNatClampNeg = n) (hv : ∀ j, j < n → Value.null = v0 t S N j) (hk : 8 ≤ N ∧ kd N = ak ∧ ln (fun _ => 0) N = n) (hb : n ≤ 60000) (hc : 1 ≤ bc) (hs : n ≤ bs) (kk : aAt l G d mc ms y (pc + 3) lv (.ref N :: st) (bc - 1) (bs - n) (lay0 o (N + 1) t S) Q) : aAt l G d mc ms y pc lv (.int v :: st) bc bs (lay0 o N t S) Q :=
  s_anewarray hd hl h1 h2 hC hn hn2 hb hc hs (aAt.heap (P_push hk.1 hk.2.1 hk.2.2 hv) kk)
theorem P_setR {x j q : Nat} (hx : 8 ≤ x) (hs : sc x j = 3) (hr : rf x j = q) (hq : cseq[t]? = some (1000 * x + j)) (hln : ∀ k, 8 ≤ k → k < N → ∀ z, z < ln (fun _ => 0) k → sc k z = 3 → z < 1000) (hj : j < 1000) : hEq (lay0 o N (t + 1) S) (hset (lay0 o N t S) x j (.ref q)) := by
  refine ⟨rfl, fun k hk8 => ?_, fun k hk8 hk2 => ?_⟩
  · rw [lay0_o hk8, hset_n (by omega), lay0_o hk8]
  · have hv : ∀ z, z < ln (fun _ => 0) k → ¬ (k = x ∧ z = j) → v0 (t + 1) S k z = v0 t S k z := by
      intro z hz hne
      unfold v0
      split <;> first | rfl | skip
      rename_i h0 h1 h2
      have hz1 : z < 1000 := hln k hk8 hk2 z hz (by
        have : sc k z ≤ 3 := by
          unfold sc scl scx
          repeat' split
          all_goals omega
        have a0 : sc k z ≠ 0 := h0
        have a1 : sc k z ≠ 1 := h1
        have a2 : sc k z ≠ 2 := h2
        omega)
      have hne2 : cseq.idxOf (1000 * k + z) ≠ t := fun e => by
        have := cidx_inj hq e
        omega
      by_cases hlt : cseq.idxOf (1000 * k + z) < t
      · rw [if_pos (by omega), if_pos hlt]
      · rw [if_neg (by omega), if_neg hlt]
    by_cases e : k = x
    · subst e
      rw [hset_s, lay0_2 hk8, lay0_2 hk8]
      refine ⟨rfl, rfl, fun z hz => ?_⟩
      dsimp only at hz ⊢
      unfold updV
      by_cases ez : z = j
      · subst ez
        rw [if_pos rfl]
        unfold v0
        rw [hs]
        show (if _ then _ else _) = _
        rw [if_pos (by rw [cidx hq]; omega), hr]
      · rw [if_neg ez]
        exact hv z hz (fun q => ez q.2)
    · rw [hset_n e, lay0_2 hk8, lay0_2 hk8]
      exact ⟨rfl, rfl, fun z hz => hv z hz (fun q => e q.1)⟩
/-- slots of references have small numbers -/
theorem sc3_lt {k z : Nat} (hz : z < ln (fun _ => 0) k) (h : sc k z = 3) : z < 1000 := by
  have : ln (fun _ => 0) k < 1000 ∨ sc k z ≠ 3 := by
    unfold sc at h
    unfold ln
    split
    · left; unfold lnl; repeat' split
      all_goals omega
    · split
      · left; unfold lnl; repeat' split
        all_goals omega
      · split
        · rename_i h1 h2 h3
          rw [if_neg h1, if_neg h2, if_pos h3] at h
          unfold lnx
          split <;> first | (left; omega) | (exfalso; revert h; unfold scx; simp)
        · left
          split
          · omega
          · show 0 < 1000
            omega
  rcases this with h1 | h1
  · omega
  · exact absurd h h1
theorem P_putR {i c' i' ci j x q : Nat} (hd : decode (mB y) pc = .ok (.putfield i, 3)) (hf : fld (mC y) i = some (c', i', ci, j)) (hx : 8 ≤ x ∧ x < N ∧ kd x = ci) (hs : sc x j = 3) (hr : rf x j = q) (hj : j < 1000) (hq : cseq[t]? = some (1000 * x + j)) (hty : (∃ T, aTy ci j = .object T) ∨ ∃ T, aTy ci j = .array T) (hfin : (∃ r : vw_C, aCl[ci]? = some r ∧ (r.2.1 j).2.2.2 = false) ∨ (ci = mC y ∧ (mN y).name = "<init>")) (kk : aAt l G d mc ms y (pc + 3) lv st bc bs (lay0 o N (t + 1) S) Q) : aAt l G d mc ms y pc lv (.ref q :: .ref x :: st) bc bs (lay0 o N t S) Q := by
  refine s_putfield hd hf hx.1 hx.2.1 (by rw [lay0_2 hx.1]; exact hx.2.2) ?_ ?_ hfin (aAt.heap (P_setR hx.1 hs hr hq (fun k _ _ z hz h => sc3_lt hz h) hj) kk)
  · rcases hty with ⟨T, e⟩ | ⟨T, e⟩ <;> rw [e] <;> rfl
  · rcases hty with ⟨T, e⟩ | ⟨T, e⟩ <;> rw [e] <;> rfl
theorem P_same {x j : Nat} {v : Value} (hx : 8 ≤ x) (hv : v0 t S x j = v) : hEq (lay0 o N t S) (hset (lay0 o N t S) x j v) := by
  refine ⟨rfl, fun k hk8 => ?_, fun k hk8 hk2 => ?_⟩
  · rw [hset_n (by omega)]
  · by_cases e : k = x
    · subst e
      rw [hset_s, lay0_2 hk8]
      refine ⟨rfl, rfl, fun z hz => ?_⟩
      dsimp only
      unfold updV
      by_cases ez : z = j
      · subst ez
        rw [if_pos rfl, hv]
      · rw [if_neg ez]
    · rw [hset_n e]
      exact ⟨rfl, rfl, fun _ _ => rfl⟩
theorem P_upI {x j : Nat} {v : Int32} (hx : 8 ≤ x) (hs : sc x j = 0) : hEq (lay0 o N t (up S x j v)) (hset (lay0 o N t S) x j (.int v)) := by
  refine ⟨rfl, fun k hk8 => ?_, fun k hk8 hk2 => ?_⟩
  · rw [lay0_o hk8, hset_n (by omega), lay0_o hk8]
  · by_cases e : k = x
    · subst e
      rw [hset_s, lay0_2 hk8, lay0_2 hk8]
      refine ⟨rfl, rfl, fun z hz => ?_⟩
      dsimp only
      unfold updV v0
      by_cases ez : z = j
      · subst ez
        rw [if_pos rfl, hs]
        show Value.int (up S k z v k z) = _
        rw [up_s]
      · rw [if_neg ez, up_j ez]
    · rw [hset_n e, lay0_2 hk8, lay0_2 hk8]
      refine ⟨rfl, rfl, fun z hz => ?_⟩
      dsimp only
      unfold v0
      rw [up_x e]
theorem P_putN {i c' i' ci j x : Nat} (hd : decode (mB y) pc = .ok (.putfield i, 3)) (hf : fld (mC y) i = some (c', i', ci, j)) (hx : 8 ≤ x ∧ x < N) (hk : kd x = ci) (hs : sc x j = 2) (hty : ∃ T, aTy ci j = .object T) (hfin : (∃ r : vw_C, aCl[ci]? = some r ∧ (r.2.1 j).2.2.2 = false) ∨ (ci = mC y ∧ (mN y).name = "<init>")) (kk : aAt l G d mc ms y (pc + 3) lv st bc bs (lay0 o N t S) Q) : aAt l G d mc ms y pc lv (.null :: .ref x :: st) bc bs (lay0 o N t S) Q := by
  refine s_putfield hd hf hx.1 hx.2 (by rw [lay0_2 hx.1]; exact hk) ?_ ?_ hfin (aAt.heap (P_same hx.1 (by unfold v0; rw [hs]; rfl)) kk)
  · obtain ⟨T, e⟩ := hty; rw [e]; rfl
  · obtain ⟨T, e⟩ := hty; rw [e]; rfl
theorem P_put0 {i c' i' ci j x : Nat} {v : Int32} (hd : decode (mB y) pc = .ok (.putfield i, 3)) (hf : fld (mC y) i = some (c', i', ci, j)) (hx : 8 ≤ x ∧ x < N) (hk : kd x = ci) (hs : sc x j = 0) (h0 : S x j = v) (hv : aTy ci j = .int ∨ (aTy ci j = .boolean ∧ (v = 0 ∨ v = 1))) (hfin : (∃ r : vw_C, aCl[ci]? = some r ∧ (r.2.1 j).2.2.2 = false) ∨ (ci = mC y ∧ (mN y).name = "<init>")) (kk : aAt l G d mc ms y (pc + 3) lv st bc bs (lay0 o N t S) Q) : aAt l G d mc ms y pc lv (.int v :: .ref x :: st) bc bs (lay0 o N t S) Q :=
  s_putfield hd hf hx.1 hx.2 (by rw [lay0_2 hx.1]; exact hk) (nfit hv).1 (nfit hv).2 hfin (aAt.heap (P_same hx.1 (by unfold v0; rw [hs, h0]; rfl)) kk)
theorem P_putI {i c' i' ci j x : Nat} {v : Int32} (hd : decode (mB y) pc = .ok (.putfield i, 3)) (hf : fld (mC y) i = some (c', i', ci, j)) (hx : 8 ≤ x ∧ x < N) (hk : kd x = ci) (hs : sc x j = 0) (hv : aTy ci j = .int ∨ (aTy ci j = .boolean ∧ (v = 0 ∨ v = 1))) (hfin : (∃ r : vw_C, aCl[ci]? = some r ∧ (r.2.1 j).2.2.2 = false) ∨ (ci = mC y ∧ (mN y).name = "<init>")) (kk : aAt l G d mc ms y (pc + 3) lv st bc bs (lay0 o N t (up S x j v)) Q) : aAt l G d mc ms y pc lv (.int v :: .ref x :: st) bc bs (lay0 o N t S) Q :=
  s_putfield hd hf hx.1 hx.2 (by rw [lay0_2 hx.1]; exact hk) (nfit hv).1 (nfit hv).2 hfin (aAt.heap (P_upI hx.1 hs) kk)
theorem P_getR {i c' i' ci j x q : Nat} (hd : decode (mB y) pc = .ok (.getfield i, 3)) (hf : fld (mC y) i = some (c', i', ci, j)) (hx : 8 ≤ x ∧ x < N) (hk : kd x = ci) (hs : sc x j = 3 ∧ rf x j = q) (hq : cseq.idxOf (1000 * x + j) < t) (kk : aAt l G d mc ms y (pc + 3) lv (.ref q :: st) bc bs (lay0 o N t S) Q) : aAt l G d mc ms y pc lv (.ref x :: st) bc bs (lay0 o N t S) Q := by
  refine s_getfield hd hf hx.1 hx.2 (by rw [lay0_2 hx.1]; exact hk) ?_
  rw [lay0_2 hx.1]
  have : v0 t S x j = .ref q := by
    unfold v0
    rw [hs.1]
    show (if _ then _ else _) = _
    rw [if_pos hq, hs.2]
  show aAt l G d mc ms y (pc + 3) lv (v0 t S x j :: st) bc bs (lay0 o N t S) Q
  rw [this]
  exact kk
theorem P_aast {x v q : Nat} {i : Int32} (hd : decode (mB y) pc = .ok (.aastore, 1)) (hx : 8 ≤ x ∧ x < N ∧ 30 ≤ kd x) (hv : 8 ≤ v ∧ v < N ∧ kd v = aOf (kd x)) (hi : i.toNatClampNeg = q ∧ ¬ i < 0 ∧ q < ln (fun _ => 0) x) (hs : sc x q = 3 ∧ rf x q = v) (hj : q < 1000) (hq : cseq[t]? = some (1000 * x + q)) (kk : aAt l G d mc ms y (pc + 1) lv st bc bs (lay0 o N (t + 1) S) Q) : aAt l G d mc ms y pc lv (.ref v :: .int i :: .ref x :: st) bc bs (lay0 o N t S) Q := by
  refine s_aastore hd hx.1 hx.2.1 (by rw [lay0_2 hx.1]; exact hx.2.2) hv.1 hv.2.1 (by rw [lay0_2 hx.1, lay0_2 hv.1]; exact hv.2.2) (by rw [lay0_2 hx.1]; intro z; rcases z with z | z; exact hi.2.1 z; rw [hi.1] at z; exact absurd hi.2.2 (Nat.not_lt.mpr z)) ?_
  rw [hi.1]
  exact aAt.heap (P_setR hx.1 hs.1 hs.2 hq (fun k _ _ z hz h => sc3_lt hz h) hj) kk
theorem P_iast {x q : Nat} {i w : Int32} (hd : decode (mB y) pc = .ok (.iastore, 1)) (hx : 8 ≤ x ∧ x < N ∧ kd x = 20) (hi : i.toNatClampNeg = q) (hi2 : ¬ i < 0 ∧ q < ln (fun _ => 0) x) (hs : sc x q = 0) (kk : aAt l G d mc ms y (pc + 1) lv st bc bs (lay0 o N t (up S x q w)) Q) : aAt l G d mc ms y pc lv (.int w :: .int i :: .ref x :: st) bc bs (lay0 o N t S) Q := by
  refine s_iastore hd hx.1 hx.2.1 (by rw [lay0_2 hx.1]; exact hx.2.2) (by rw [lay0_2 hx.1]; intro z; rcases z with z | z; exact hi2.1 z; rw [hi] at z; exact absurd hi2.2 (Nat.not_lt.mpr z)) ?_
  rw [hi]
  exact aAt.heap (P_upI hx.1 hs) kk
theorem P_cast {x q : Nat} {i w : Int32} (hd : decode (mB y) pc = .ok (.castore, 1)) (hx : 8 ≤ x ∧ x < N ∧ kd x = 23) (hi : i.toNatClampNeg = q) (hi2 : ¬ i < 0 ∧ q < ln (fun _ => 0) x) (hs : sc x q = 0 ∧ vp_nar .char w = w) (kk : aAt l G d mc ms y (pc + 1) lv st bc bs (lay0 o N t (up S x q w)) Q) : aAt l G d mc ms y pc lv (.int w :: .int i :: .ref x :: st) bc bs (lay0 o N t S) Q := by
  refine s_castore hd hx.1 hx.2.1 (by rw [lay0_2 hx.1]; exact hx.2.2) (by rw [lay0_2 hx.1]; intro z; rcases z with z | z; exact hi2.1 z; rw [hi] at z; exact absurd hi2.2 (Nat.not_lt.mpr z)) ?_
  rw [hi, hs.2]
  exact aAt.heap (P_upI hx.1 hs.1) kk
theorem P_ast0 {x q : Nat} {i w : Int32} (hd : decode (mB y) pc = .ok (.iastore, 1)) (hx : 8 ≤ x ∧ x < N ∧ kd x = 20) (hi : i.toNatClampNeg = q) (hi2 : ¬ i < 0 ∧ q < ln (fun _ => 0) x) (hs : v0 t S x q = .int w) (kk : aAt l G d mc ms y (pc + 1) lv st bc bs (lay0 o N t S) Q) : aAt l G d mc ms y pc lv (.int w :: .int i :: .ref x :: st) bc bs (lay0 o N t S) Q := by
  refine s_iastore hd hx.1 hx.2.1 (by rw [lay0_2 hx.1]; exact hx.2.2) (by rw [lay0_2 hx.1]; intro z; rcases z with z | z; exact hi2.1 z; rw [hi] at z; exact absurd hi2.2 (Nat.not_lt.mpr z)) ?_
  rw [hi]
  exact aAt.heap (P_same hx.1 hs) kk
theorem t_ini2 {h : aHeap} {x : Nat} (hQ : Q none h) : aCall l G (d + 1) 0 0 2 [.ref x] h Q := by
  refine aCall.of (by decide) (Nat.le_of_ble_eq_true rfl) ?_
  refine aAt.sub [(0, .ref x)] rfl ?_
  refine s_aload_n f_2_0 rfl ?_
  refine s_objinit f_2_1 ca_6_1 (Nat.le_of_ble_eq_true rfl) ?_
  exact s_return f_2_4 rfl hQ
theorem t_ini3 {h : aHeap} {x : Nat} (hQ : Q none h) : aCall l G (d + 1) 0 0 3 [.ref x] h Q := by
  refine aCall.of (by decide) (Nat.le_of_ble_eq_true rfl) ?_
  refine aAt.sub [(0, .ref x)] rfl ?_
  refine s_aload_n f_3_0 rfl ?_
  refine s_objinit f_3_1 ca_2_1 (Nat.le_of_ble_eq_true rfl) ?_
  exact s_return f_3_4 rfl hQ
theorem t_ini4 {h : aHeap} {x : Nat} (hQ : Q none h) : aCall l G (d + 1) 0 0 4 [.ref x] h Q := by
  refine aCall.of (by decide) (Nat.le_of_ble_eq_true rfl) ?_
  refine aAt.sub [(0, .ref x)] rfl ?_
  refine s_aload_n f_4_0 rfl ?_
  refine s_objinit f_4_1 ca_5_3 (Nat.le_of_ble_eq_true rfl) ?_
  exact s_return f_4_4 rfl hQ
theorem t_ini5 {x : Nat} (hx : 8 ≤ x ∧ x < N) (hk : kd x = 4) (hs : sc x 0 = 2) (hQ : Q none (lay0 o N t S)) : aCall l G (d + 1) 0 0 5 [.ref x] (lay0 o N t S) Q := by
  refine aCall.of (by decide) (Nat.le_of_ble_eq_true rfl) ?_
  refine aAt.sub [(0, .ref x)] rfl ?_
  refine s_aload_n f_5_0 rfl ?_
  refine s_objinit f_5_1 ca_4_1 (Nat.le_of_ble_eq_true rfl) ?_
  refine s_aload_n f_5_4 rfl ?_
  refine s_null f_5_5 ?_
  refine P_putN f_5_6 fd_4_7 hx hk hs ⟨_, rfl⟩ (Or.inr ⟨rfl, rfl⟩) ?_
  exact s_return f_5_9 rfl hQ
end PRows
