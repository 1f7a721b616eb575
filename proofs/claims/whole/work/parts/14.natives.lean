/-! ===== the old cells; natives; texts that are constants ===== -/
def KA : List Int32 := [-1, 0, 1, 0, 3, 0, 2]
def B81 : List Int32 := [40, 41, 59, 43, 45, 60, 61]
def B88 : List Int32 := [107, 105, 110, 100, 32, 97, 103, 101, 32, 108, 101, 102, 116, 32, 111, 119, 101, 100, 32, 112, 97, 105, 100, 32, 115, 117, 109, 32, 119, 111, 114, 116, 104, 32, 119, 111, 114, 100, 32, 115, 116, 114, 97, 110, 103, 101, 114, 32, 119, 97, 108, 108, 115, 32, 116, 101, 114, 109, 32, 102, 97, 108, 108, 115, 32, 98, 97, 99, 107, 32, 108, 111, 97, 110, 32, 111, 114, 32, 97, 110, 100, 32, 110, 111, 116, 32]
/-- the old cells: the script, the kinds above, the two texts and their bytes -/
def old0 (L : Nat) (xs : Nat → Int32) : Nat → aCell := fun k => match k with
  | 0 => (20, L, fun j => .int (xs j))
  | 1 => (20, 7, fun j => .int (KA.getD j 0))
  | 2 => (13, 0, fun _ => .null)
  | 3 => (13, 0, fun _ => .null)
  | 4 => (22, 7, fun j => .int (B81.getD j 0))
  | 5 => (22, 86, fun j => .int (B88.getD j 0))
  | _ => (13, 0, fun _ => .null)
def kAb (j : Nat) : Int32 := KA.getD j 0
def wCh (j : Nat) : Int32 := B88.getD j 0
def sIxF (c : Int32) : List Int32 → Nat → Int32
  | [], _ => -1
  | b :: r, k => if b = c then nI k else sIxF c r (k + 1)
def sIx (c : Int32) : Int32 := sIxF c B81 0
def cFill (n : Nat) (S : SS) (x : Nat) (v : Int32) : Option SS := some (fun a b => if a = x ∧ b < n then v else S a b)
def cFillL (K : KS) (v : Int64) : Option KS := some (fun j => if j < 3721 then v else K j)
abbrev cpOk (nx ny : Nat) (i j n : Int32) : Prop := 0 ≤ i.toInt ∧ 0 ≤ j.toInt ∧ 0 ≤ n.toInt ∧ i.toInt + n.toInt ≤ (nx : Int) ∧ j.toInt + n.toInt ≤ (ny : Int)
def cpS (S : SS) (x : Nat) (i : Int32) (y : Nat) (j n : Int32) : SS := fun a b => if a = y ∧ ix j ≤ b ∧ b < ix j + ix n then S x (ix i + (b - ix j)) else S a b
section Nat14
variable {l : Launch} {G : aG} {d mc ms y pc : Nat} {lv : List (Nat × Value)} {st : List Value} {bc bs : Nat} {h : aHeap} {Q : Option Value → aHeap → Prop}
variable {sl : Nat} {sx : Nat → Int32} {S : SS} {K : KS} {T : TS} {X : XS} {M : SS}
theorem s_getKA (hd : decode (mB y) pc = .ok (.getstatic 389, 3)) (hc : mC y = 0) (k : aAt l G d mc ms y (pc + 3) lv (.ref 1 :: st) bc bs h Q) : aAt l G d mc ms y pc lv st bc bs h Q := by
  sorry
theorem O_iaload {i : Int32} {q : Nat} (hd : decode (mB y) pc = .ok (.iaload, 1)) (hq : ix i = q) (g : inb i 7) (kk : aAt l G d mc ms y (pc + 1) lv (.int (kAb q) :: st) bc bs (LH (old0 sl sx) S K T X M) Q) : aAt l G d mc ms y pc lv (.int i :: .ref 1 :: st) bc bs (LH (old0 sl sx) S K T X M) Q := by
  subst hq
  refine s_iaload hd (show 1 < 172 + X.2 by omega) rfl ?_ rfl kk
  show vp_in i 7
  rw [inb_nI g]
  exact (vpn (inb_lt g) (by decide)).1
theorem s_ldcS2 (hd : decode (mB y) pc = .ok (.ldc 81, 2)) (hc : mC y = 7) (k : aAt l G d mc ms y (pc + 2) lv (.ref 2 :: st) bc bs h Q) : aAt l G d mc ms y pc lv st bc bs h Q := by
  sorry
theorem s_ldcS3 (hd : decode (mB y) pc = .ok (.ldc 88, 2)) (hc : mC y = 7) (k : aAt l G d mc ms y (pc + 2) lv (.ref 3 :: st) bc bs h Q) : aAt l G d mc ms y pc lv st bc bs h Q := by
  sorry
theorem X_len {i c' i' n : Nat} (hd : decode (mB y) pc = .ok (.invokevirtual i, 3)) (hf : cal (mC y) i = some (c', i', 0, 71, n)) (hW : cats st ≤ 8) (k : aAt l G (d + 8) mc ms y (pc + 3) lv (.int 86 :: st) bc bs (LH (old0 sl sx) S K T X M) Q) : aAt l G (d + 8) mc ms y pc lv (.ref 3 :: st) bc bs (LH (old0 sl sx) S K T X M) Q := by
  sorry
theorem X_chr {i c' i' n : Nat} {z : Int32} (hd : decode (mB y) pc = .ok (.invokevirtual i, 3)) (hf : cal (mC y) i = some (c', i', 0, 73, n)) (g : inb z 86) (hW : cats st ≤ 8) (k : aAt l G (d + 8) mc ms y (pc + 3) lv (.int (wCh (ix z)) :: st) bc bs (LH (old0 sl sx) S K T X M) Q) : aAt l G (d + 8) mc ms y pc lv (.int z :: .ref 3 :: st) bc bs (LH (old0 sl sx) S K T X M) Q := by
  sorry
theorem X_ind {i c' i' n : Nat} {z : Int32} (hd : decode (mB y) pc = .ok (.invokevirtual i, 3)) (hf : cal (mC y) i = some (c', i', 0, 83, n)) (hW : cats st ≤ 8) (k : aAt l G (d + 8) mc ms y (pc + 3) lv (.int (sIx z) :: st) bc bs (LH (old0 sl sx) S K T X M) Q) : aAt l G (d + 8) mc ms y pc lv (.int z :: .ref 2 :: st) bc bs (LH (old0 sl sx) S K T X M) Q := by
  sorry
theorem C_acopy {i c' i' y' na x z nx ny : Nat} {a b n : Int32} (hd : decode (mB y) pc = .ok (.invokestatic i, 3)) (hf : cal (mC y) i = some (c', i', 4, y', na)) (hx : oc X.2 x 20) (hz : oc X.2 z 20) (hnx : ln X.1 x = nx) (hnz : ln X.1 z = ny) (g : cpOk nx ny a b n) (hW : cats st ≤ 8) (k : aAt l G (d + 1) mc ms y (pc + 3) lv st bc bs (LH (old0 sl sx) (cpS S x a z b n) K T X M) Q) : aAt l G (d + 1) mc ms y pc lv (.int n :: .int b :: .ref z :: .int a :: .ref x :: st) bc bs (LH (old0 sl sx) S K T X M) Q := by
  sorry
theorem t_cFill {n x : Nat} {v : Int32} {p : SS} (hx : oc X.2 x 20) (hn : ln X.1 x = n) (hl : n < 2 ^ 31) (hd : cFill n S x v = some p) (hQ : Q none (LH (old0 sl sx) p K T X M)) : aCall l G d 0 0 116 [.ref x, .int v] (LH (old0 sl sx) S K T X M) Q := by
  sorry
theorem t_cFillL {v : Int64} {p : KS} (hd : cFillL K v = some p) (hQ : Q none (LH (old0 sl sx) S p T X M)) : aCall l G d 0 0 149 [.ref 144, .long v] (LH (old0 sl sx) S K T X M) Q := by
  sorry
end Nat14
