section CRows
variable {l : Launch} {G : aG} {d mc ms y pc : Nat} {lv : List (Nat × Value)} {st : List Value} {bc bs : Nat} {h : aHeap} {Q : Option Value → aHeap → Prop}
theorem k_iconst {n : Int} {v : Int32} (hd : decode (mB y) pc = .ok (.iconst n, 1)) (hv : Int32.ofInt n = v) (k : aAt l G d mc ms y (pc + 1) lv (.int v :: st) bc bs h Q) : aAt l G d mc ms y pc lv st bc bs h Q := by
  subst hv; exact s_iconst hd k
theorem k_bipush {n : Int} {v : Int32} (hd : decode (mB y) pc = .ok (.bipush n, 2)) (hv : (Int8.ofInt n).toInt32 = v) (k : aAt l G d mc ms y (pc + 2) lv (.int v :: st) bc bs h Q) : aAt l G d mc ms y pc lv st bc bs h Q := by
  subst hv; exact s_bipush hd k
theorem k_sipush {n : Int} {v : Int32} (hd : decode (mB y) pc = .ok (.sipush n, 3)) (hv : (Int16.ofInt n).toInt32 = v) (k : aAt l G d mc ms y (pc + 3) lv (.int v :: st) bc bs h Q) : aAt l G d mc ms y pc lv st bc bs h Q := by
  subst hv; exact s_sipush hd k
theorem k_lconst {n : Fin 2} {v : Int64} (hd : decode (mB y) pc = .ok (.lconst n, 1)) (hv : Int64.ofNat (n : Nat) = v) (k : aAt l G d mc ms y (pc + 1) lv (.long v :: st) bc bs h Q) : aAt l G d mc ms y pc lv st bc bs h Q := by
  subst hv; exact s_lconst hd k
theorem k_iinc {n : Nat} {z : Int} {x w : Int32} (hd : decode (mB y) pc = .ok (.iinc n z, 3)) (hv : lkp lv n = some (.int x)) (hn : n < mL y) (hw : Int32.ofInt z = w) (k : aAt l G d mc ms y (pc + 3) (sto lv n (.int (x + w))) st bc bs h Q) : aAt l G d mc ms y pc lv st bc bs h Q := by
  subst hw; exact s_iinc hd hv hn k
end CRows
