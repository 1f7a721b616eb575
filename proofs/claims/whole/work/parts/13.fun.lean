/-! ===== methods as functions: the class over S K T X, the reference over M ===== -/
abbrev SS : Type := Nat → Nat → Int32
abbrev KS : Type := Nat → Int64
abbrev TS : Type := Nat → Nat → Nat
abbrev XS : Type := (Nat → Nat) × Nat
def tv (n : Nat) : Value := if n = 0 then .null else .ref n
theorem tv0 {n : Nat} (h : n = 0) : tv n = .null := if_pos h
theorem tv1 {n : Nat} (h : ¬ n = 0) : tv n = .ref n := if_neg h
def tV (T : TS) : Nat → Nat → Value := fun x j => tv (T x j)
def jn (S M : SS) : SS := fun x => if 154 ≤ x ∧ x < 172 then M x else S x
abbrev LH (o : Nat → aCell) (S : SS) (K : KS) (T : TS) (X : XS) (M : SS) : aHeap := lay o X.2 (jn S M) K (tV T) X.1
def ix (i : Int32) : Nat := i.toNatClampNeg
abbrev inb (i : Int32) (n : Nat) : Prop := 0 ≤ i.toInt ∧ i.toInt < (n : Int)
def b2i (b : Bool) : Int32 := cond b 1 0
def FU : Nat := 20000
def oc (k x ci : Nat) : Prop := ob k x ci ∧ ¬ (154 ≤ x ∧ x < 172)
def upTT (T : TS) (x j v : Nat) : TS := fun a b => if a = x ∧ b = j then v else T a b
theorem ite_p {α : Type} {c : Prop} [Decidable c] {a b r : α} (h : c) (e : (if c then a else b) = r) : a = r := by rw [if_pos h] at e; exact e
theorem ite_n {α : Type} {c : Prop} [Decidable c] {a b r : α} (h : ¬ c) (e : (if c then a else b) = r) : b = r := by rw [if_neg h] at e; exact e
theorem gd {α : Type} {c : Prop} [Decidable c] {a : Option α} {r : α} (e : (if c then a else none) = some r) : c ∧ a = some r := by
  by_cases h : c
  · rw [if_pos h] at e; exact ⟨h, e⟩
  · rw [if_neg h] at e; cases e
theorem obind {α β : Type} {a : Option α} {f : α → Option β} {r : β} (e : a.bind f = some r) : ∃ p, a = some p ∧ f p = some r := by
  cases a with
  | none => cases e
  | some p => exact ⟨p, rfl, e⟩
theorem jnC {S M : SS} {x : Nat} (h : ¬ (154 ≤ x ∧ x < 172)) : jn S M x = S x := if_neg h
theorem jnM {S M : SS} {x : Nat} (h : 154 ≤ x ∧ x < 172) : jn S M x = M x := if_pos h
theorem up_jnC {S M : SS} {x j : Nat} {v : Int32} (h : ¬ (154 ≤ x ∧ x < 172)) : up (jn S M) x j v = jn (up S x j v) M := by
  funext a b
  unfold up jn
  by_cases ha : a = x
  · subst ha
    rw [if_neg h, if_neg h]
  · rw [if_neg (fun z => ha z.1)]
    by_cases hm : 154 ≤ a ∧ a < 172
    · rw [if_pos hm, if_pos hm]
    · rw [if_neg hm, if_neg hm]
      exact (if_neg (fun z => ha z.1)).symm
theorem up_jnM {S M : SS} {x j : Nat} {v : Int32} (h : 154 ≤ x ∧ x < 172) : up (jn S M) x j v = jn S (up M x j v) := by
  funext a b
  unfold up jn
  by_cases ha : a = x
  · subst ha
    rw [if_pos h, if_pos h]
  · rw [if_neg (fun z => ha z.1)]
    by_cases hm : 154 ≤ a ∧ a < 172
    · rw [if_pos hm, if_pos hm]
      exact (if_neg (fun z => ha z.1)).symm
    · rw [if_neg hm, if_neg hm]
theorem upT_tV {T : TS} {x j v : Nat} : upT (tV T) x j (tv v) = tV (upTT T x j v) := by
  funext a b
  unfold upT tV upTT
  by_cases h : a = x ∧ b = j
  · rw [if_pos h, if_pos h]
  · rw [if_neg h, if_neg h]
theorem inb_nI {i : Int32} {n : Nat} (g : inb i n) : i = nI (ix i) := by
  apply Int32.toInt_inj.mp
  have h0 := g.1
  have hlt := Int32.toInt_lt i
  show i.toInt = (Int32.ofNat i.toNatClampNeg).toInt
  have e : (i.toNatClampNeg : Int) = i.toInt := by
    show ((i.toInt.toNat : Nat) : Int) = i.toInt
    omega
  rw [Int32.toInt_ofNat_of_lt (by omega)]
  omega
theorem inb_lt {i : Int32} {n : Nat} (g : inb i n) : ix i < n := by
  have h0 := g.1
  have h1 := g.2
  show i.toInt.toNat < n
  omega
theorem b2i_z (b : Bool) : b2i b = 0 ∨ b2i b = 1 := by cases b; exact Or.inl rfl; exact Or.inr rfl
theorem b2i_n (b : Bool) : narrow .boolean (.int (b2i b)) = .int (b2i b) := by cases b <;> rfl
theorem z01 {v : Int32} (g : v = 0 ∨ v = 1) : v = b2i (decide (v = 1)) := by rcases g with rfl | rfl <;> rfl
theorem sck_x {x j : Nat} (h : kdx x = 6 ∨ kdx x = 2 ∨ kdx x = 5 ∨ kdx x = 20) : scx x j = 0 := by
  unfold kdx at h
  split at h <;> first | (exfalso; omega) | skip
  all_goals first | rfl | (unfold scx; split <;> first | rfl | contradiction | (exfalso; omega))
theorem sck0 {k x ci j : Nat} (h : ob k x ci) (hc : ci = 6 ∨ ci = 2 ∨ ci = 5 ∨ ci = 20) : sc x j = 0 := by
  obtain ⟨h8, h1, h2⟩ := h
  subst h2
  unfold kd at hc
  unfold sc
  by_cases ha : 9 ≤ x ∧ x < 71
  · rw [if_pos ha] at hc ⊢
    unfold kdl at hc
    unfold scl
    generalize x - 9 = r at *
    by_cases h8 : r < 8
    · rw [if_pos h8] at hc
      have : r = 0 ∨ r = 1 ∨ r = 2 ∨ r = 3 ∨ r = 4 ∨ r = 5 ∨ r = 6 ∨ r = 7 := by omega
      rcases this with rfl | rfl | rfl | rfl | rfl | rfl | rfl | rfl <;> first | rfl | (exfalso; revert hc; decide)
    · rw [if_neg h8] at hc
      rw [if_neg (by omega), if_neg (by omega), if_neg (by omega)]
      by_cases h5 : r < 50
      · rw [if_pos h5]
      · exfalso
        rw [if_neg (by omega), if_neg (by omega), if_neg (by omega)] at hc
        omega
  · rw [if_neg ha] at hc ⊢
    by_cases hb : 71 ≤ x ∧ x < 133
    · rw [if_pos hb] at hc ⊢
      unfold kdl at hc
      unfold scl
      generalize x - 71 = r at *
      by_cases h8 : r < 8
      · rw [if_pos h8] at hc
        have : r = 0 ∨ r = 1 ∨ r = 2 ∨ r = 3 ∨ r = 4 ∨ r = 5 ∨ r = 6 ∨ r = 7 := by omega
        rcases this with rfl | rfl | rfl | rfl | rfl | rfl | rfl | rfl <;> first | rfl | (exfalso; revert hc; decide)
      · rw [if_neg h8] at hc
        rw [if_neg (by omega), if_neg (by omega), if_neg (by omega)]
        by_cases h5 : r < 50
        · rw [if_pos h5]
        · exfalso
          rw [if_neg (by omega), if_neg (by omega), if_neg (by omega)] at hc
          omega
    · rw [if_neg hb] at hc ⊢
      by_cases hx : x < 172
      · rw [if_pos hx] at hc ⊢
        exact sck_x hc
      · rw [if_neg hx] at hc ⊢
        by_cases h2 : x % 2 = 0
        · exfalso
          rw [if_pos h2] at hc
          omega
        · rw [if_neg (fun z => h2 z.1)]
/-- a law's slots, a sheet's, a text's -/
theorem kd_law {k x : Nat} (h : ob k x 4) : (59 ≤ x ∧ x < 71) ∨ (121 ≤ x ∧ x < 133) := by
  obtain ⟨h8, h1, h2⟩ := h
  unfold kd at h2
  by_cases ha : 9 ≤ x ∧ x < 71
  · rw [if_pos ha] at h2
    unfold kdl at h2
    by_cases h5 : x - 9 < 50
    · exfalso
      revert h2
      by_cases h8' : x - 9 < 8
      · rw [if_pos h8']
        have : x - 9 = 0 ∨ x - 9 = 1 ∨ x - 9 = 2 ∨ x - 9 = 3 ∨ x - 9 = 4 ∨ x - 9 = 5 ∨ x - 9 = 6 ∨ x - 9 = 7 := by omega
        rcases this with e | e | e | e | e | e | e | e <;> rw [e] <;> decide
      · rw [if_neg h8']
        split
        · decide
        · split
          · decide
          · decide
    · omega
  · rw [if_neg ha] at h2
    by_cases hb : 71 ≤ x ∧ x < 133
    · rw [if_pos hb] at h2
      unfold kdl at h2
      by_cases h5 : x - 71 < 50
      · exfalso
        revert h2
        by_cases h8' : x - 71 < 8
        · rw [if_pos h8']
          have : x - 71 = 0 ∨ x - 71 = 1 ∨ x - 71 = 2 ∨ x - 71 = 3 ∨ x - 71 = 4 ∨ x - 71 = 5 ∨ x - 71 = 6 ∨ x - 71 = 7 := by omega
          rcases this with e | e | e | e | e | e | e | e <;> rw [e] <;> decide
        · rw [if_neg h8']
          split
          · decide
          · split
            · decide
            · decide
      · omega
    · rw [if_neg hb] at h2
      exfalso
      split at h2
      · unfold kdx at h2
        split at h2 <;> omega
      · split at h2 <;> omega
theorem scl0 {k x : Nat} (h : ob k x 4) : sc x 0 = 2 := by
  rcases kd_law h with h | h
  · rw [scA (by omega), scl_L (by omega), if_pos rfl]
  · rw [scB (by omega), scl_L (by omega), if_pos rfl]
theorem scl1 {k x j : Nat} (h : ob k x 4) (hj : ¬ j = 0) : sc x j = 0 := by
  rcases kd_law h with h | h
  · rw [scA (by omega), scl_L (by omega), if_neg hj]
  · rw [scB (by omega), scl_L (by omega), if_neg hj]
/-- what a text may be -/
abbrev tok (X : XS) (t : Nat) : Prop := 172 ≤ t ∧ t + 1 < 172 + X.2 ∧ t % 2 = 0 ∧ X.1 (t + 1) ≤ 200
theorem kd_tx {x : Nat} (h : 172 ≤ x) : kd x = if x % 2 = 0 then 10 else 20 := by
  unfold kd
  rw [if_neg (by omega), if_neg (by omega), if_neg (by omega)]
theorem oct {X : XS} {t : Nat} (h : tok X t) : oc X.2 t 10 := ⟨⟨by omega, by omega, by rw [kd_tx h.1, if_pos h.2.2.1]⟩, by omega⟩
theorem octn {X : XS} {t : Nat} (h : tok X t) : oc X.2 (t + 1) 20 := ⟨⟨by omega, h.2.1, by rw [kd_tx (by omega), if_neg (by omega)]⟩, by omega⟩
theorem lnt {X : XS} {t : Nat} (h : tok X t) : ln X.1 (t + 1) = X.1 (t + 1) := by unfold ln; rw [if_neg (by omega), if_neg (by omega), if_neg (by omega), if_neg (by omega)]
theorem lnt2 {X : XS} {t : Nat} (h : tok X t) : X.1 (t + 1) < 2 ^ 31 := Nat.lt_of_le_of_lt h.2.2.2 (by decide)
theorem ocl {k x ci : Nat} (h : 8 ≤ x ∧ x < 172 ∧ kd x = ci ∧ ¬ (154 ≤ x ∧ x < 172)) : oc k x ci := ⟨obL ⟨h.1, h.2.1, h.2.2.1⟩, h.2.2.2⟩
theorem ocs {k x : Nat} (h : 146 ≤ x ∧ x < 154 ∧ x % 2 = 0) : oc k x 9 := by
  have : x = 146 ∨ x = 148 ∨ x = 150 ∨ x = 152 := by omega
  rcases this with rfl | rfl | rfl | rfl <;> exact ⟨obL (by decide), by decide⟩
theorem ocsn {k x : Nat} (h : 146 ≤ x ∧ x < 154 ∧ x % 2 = 0) : oc k (x + 1) 20 := by
  have : x = 146 ∨ x = 148 ∨ x = 150 ∨ x = 152 := by omega
  rcases this with rfl | rfl | rfl | rfl <;> exact ⟨obL (by decide), by decide⟩
theorem scs0 {x : Nat} (h : 146 ≤ x ∧ x < 154 ∧ x % 2 = 0) : sc x 0 = 3 := by
  have : x = 146 ∨ x = 148 ∨ x = 150 ∨ x = 152 := by omega
  rcases this with rfl | rfl | rfl | rfl <;> rfl
theorem scs1 {x j : Nat} (h : 146 ≤ x ∧ x < 154 ∧ x % 2 = 0) (hj : ¬ j = 0) : sc x j = 0 := by
  have : x = 146 ∨ x = 148 ∨ x = 150 ∨ x = 152 := by omega
  rcases this with rfl | rfl | rfl | rfl <;> exact if_neg hj
theorem rfs0 {x : Nat} (h : 146 ≤ x ∧ x < 154 ∧ x % 2 = 0) : rf x 0 = x + 1 := by
  have : x = 146 ∨ x = 148 ∨ x = 150 ∨ x = 152 := by omega
  rcases this with rfl | rfl | rfl | rfl <;> rfl
theorem lns {tl : Nat → Nat} {x : Nat} (h : 146 ≤ x ∧ x < 154 ∧ x % 2 = 0) : ln tl (x + 1) = 20 := by
  have : x = 146 ∨ x = 148 ∨ x = 150 ∨ x = 152 := by omega
  rcases this with rfl | rfl | rfl | rfl <;> rfl
theorem sct0 {X : XS} {t : Nat} (h : tok X t) : sc t 0 = 3 := by unfold sc; rw [if_neg (by omega), if_neg (by omega), if_neg (by omega), if_pos ⟨h.2.2.1, rfl⟩]
theorem sct1 {X : XS} {t j : Nat} (h : tok X t) (hj : ¬ j = 0) : sc t j = 0 := by unfold sc; rw [if_neg (by omega), if_neg (by omega), if_neg (by omega), if_neg (fun z => hj z.2)]
theorem rft0 {X : XS} {t : Nat} (h : tok X t) : rf t 0 = t + 1 := by unfold rf; rw [if_neg (by omega), if_neg (by omega), if_neg (by omega)]
theorem clP {k x ci : Nat} (h : ob k x ci) (hc : ci = 6 ∨ ci = 2 ∨ ci = 5 ∨ ci = 4) : ¬ (154 ≤ x ∧ x < 172) := by
  intro hx
  obtain ⟨_, _, h2⟩ := h
  subst h2
  unfold kd at hc
  rw [if_neg (by omega), if_neg (by omega), if_pos (by omega)] at hc
  unfold kdx at hc
  split at hc <;> omega
theorem ocP {k : Nat} {i : Int32} (g : inb i 14) : oc k (17 + ix i) 6 := ⟨obP (inb_lt g), by have := inb_lt g; omega⟩
theorem ocP' {k : Nat} {i : Int32} (g : inb i 14) : oc k (79 + ix i) 6 := ⟨obP' (inb_lt g), by have := inb_lt g; omega⟩
theorem ocF {k : Nat} {i : Int32} (g : inb i 8) : oc k (31 + ix i) 2 := ⟨obF (inb_lt g), by have := inb_lt g; omega⟩
theorem ocF' {k : Nat} {i : Int32} (g : inb i 8) : oc k (93 + ix i) 2 := ⟨obF' (inb_lt g), by have := inb_lt g; omega⟩
theorem ocA {k : Nat} {i : Int32} (g : inb i 20) : oc k (39 + ix i) 5 := ⟨obA (inb_lt g), by have := inb_lt g; omega⟩
theorem ocA' {k : Nat} {i : Int32} (g : inb i 20) : oc k (101 + ix i) 5 := ⟨obA' (inb_lt g), by have := inb_lt g; omega⟩
theorem ocL_ {k : Nat} {i : Int32} (g : inb i 12) : oc k (59 + ix i) 4 := ⟨obL_ (inb_lt g), by have := inb_lt g; omega⟩
theorem ocL_' {k : Nat} {i : Int32} (g : inb i 12) : oc k (121 + ix i) 4 := ⟨obL_' (inb_lt g), by have := inb_lt g; omega⟩
theorem shP {i : Int32} (g : inb i 4) : 146 ≤ 146 + 2 * ix i ∧ 146 + 2 * ix i < 154 ∧ (146 + 2 * ix i) % 2 = 0 := by have := inb_lt g; omega
section CRows
variable {l : Launch} {G : aG} {d mc ms y pc : Nat} {lv : List (Nat × Value)} {st : List Value} {bc bs : Nat} {h : aHeap} {Q : Option Value → aHeap → Prop}
variable {o : Nat → aCell} {S : SS} {K : KS} {T : TS} {X : XS} {M : SS}
theorem C_getI {i c' i' ci j x : Nat} (hd : decode (mB y) pc = .ok (.getfield i, 3)) (hf : fld (mC y) i = some (c', i', ci, j)) (hx : oc X.2 x ci) (hs : sc x j = 0) (kk : aAt l G d mc ms y (pc + 3) lv (.int (S x j) :: st) bc bs (LH o S K T X M) Q) : aAt l G d mc ms y pc lv (.ref x :: st) bc bs (LH o S K T X M) Q :=
  L_getI hd hf hx.1 hs (by rw [jnC hx.2]; exact kk)
theorem C_putI {i c' i' ci j x : Nat} {v : Int32} (hd : decode (mB y) pc = .ok (.putfield i, 3)) (hf : fld (mC y) i = some (c', i', ci, j)) (hx : oc X.2 x ci) (hs : sc x j = 0) (hv : aTy ci j = .int ∨ (aTy ci j = .boolean ∧ (v = 0 ∨ v = 1))) (hfin : nonFin ci j = true) (kk : aAt l G d mc ms y (pc + 3) lv st bc bs (LH o (up S x j v) K T X M) Q) : aAt l G d mc ms y pc lv (.int v :: .ref x :: st) bc bs (LH o S K T X M) Q :=
  L_putI hd hf hx.1 hs hv hfin (by rw [up_jnC hx.2]; exact kk)
theorem C_getT {i c' i' ci j x : Nat} (hd : decode (mB y) pc = .ok (.getfield i, 3)) (hf : fld (mC y) i = some (c', i', ci, j)) (hx : oc X.2 x ci) (hs : sc x j = 2) (kk : aAt l G d mc ms y (pc + 3) lv (tv (T x j) :: st) bc bs (LH o S K T X M) Q) : aAt l G d mc ms y pc lv (.ref x :: st) bc bs (LH o S K T X M) Q :=
  L_getT hd hf hx.1 hs kk
theorem tv_or (t : Nat) : tv t = .null ∨ ∃ q, tv t = .ref q := by
  by_cases h : t = 0
  · exact Or.inl (tv0 h)
  · exact Or.inr ⟨t, tv1 h⟩
theorem C_putT {i c' i' ci j x t : Nat} {C : String} (hd : decode (mB y) pc = .ok (.putfield i, 3)) (hf : fld (mC y) i = some (c', i', ci, j)) (hx : oc X.2 x ci) (hs : sc x j = 2) (hty : aTy ci j = .object C) (hfin : nonFin ci j = true) (kk : aAt l G d mc ms y (pc + 3) lv st bc bs (LH o S K (upTT T x j t) X M) Q) : aAt l G d mc ms y pc lv (tv t :: .ref x :: st) bc bs (LH o S K T X M) Q :=
  L_putT hd hf hx.1 hs hty (tv_or t) hfin (by rw [upT_tV]; exact kk)
theorem C_alen {x ak n : Nat} (hd : decode (mB y) pc = .ok (.arraylength, 1)) (hx : oc X.2 x ak) (hk : 20 ≤ ak) (hn : ln X.1 x = n) (kk : aAt l G d mc ms y (pc + 1) lv (.int (nI n) :: st) bc bs (LH o S K T X M) Q) : aAt l G d mc ms y pc lv (.ref x :: st) bc bs (LH o S K T X M) Q :=
  L_alen hd hx.1 hk hn kk
theorem C_iaload {x n : Nat} {i : Int32} {q : Nat} (hd : decode (mB y) pc = .ok (.iaload, 1)) (hx : oc X.2 x 20) (hn : ln X.1 x = n) (hl : n < 2 ^ 31) (hq : ix i = q) (g : inb i n) (kk : aAt l G d mc ms y (pc + 1) lv (.int (S x q) :: st) bc bs (LH o S K T X M) Q) : aAt l G d mc ms y pc lv (.int i :: .ref x :: st) bc bs (LH o S K T X M) Q := by
  subst hq
  exact L_iaload hd hx.1 (inb_nI g) (by rw [hn]; exact inb_lt g) (by rw [hn]; exact hl) (sck0 hx.1 (Or.inr (Or.inr (Or.inr rfl)))) (by rw [jnC hx.2]; exact kk)
theorem C_iastore {x n : Nat} {i w : Int32} {q : Nat} (hd : decode (mB y) pc = .ok (.iastore, 1)) (hx : oc X.2 x 20) (hn : ln X.1 x = n) (hl : n < 2 ^ 31) (hq : ix i = q) (g : inb i n) (kk : aAt l G d mc ms y (pc + 1) lv st bc bs (LH o (up S x q w) K T X M) Q) : aAt l G d mc ms y pc lv (.int w :: .int i :: .ref x :: st) bc bs (LH o S K T X M) Q := by
  subst hq
  exact L_iastore hd hx.1 (inb_nI g) (by rw [hn]; exact inb_lt g) (by rw [hn]; exact hl) (sck0 hx.1 (Or.inr (Or.inr (Or.inr rfl)))) (by rw [up_jnC hx.2]; exact kk)
theorem C_laload {i : Int32} {q : Nat} (hd : decode (mB y) pc = .ok (.laload, 1)) (hq : ix i = q) (g : inb i 3721) (kk : aAt l G d mc ms y (pc + 1) lv (.long (K q) :: st) bc bs (LH o S K T X M) Q) : aAt l G d mc ms y pc lv (.int i :: .ref 144 :: st) bc bs (LH o S K T X M) Q := by
  subst hq
  exact L_laload hd (obL (by decide)) (inb_nI g) (inb_lt g) (Nat.le_of_ble_eq_true rfl) rfl kk
theorem C_lastore {i : Int32} {w : Int64} {q : Nat} (hd : decode (mB y) pc = .ok (.lastore, 1)) (hq : ix i = q) (g : inb i 3721) (kk : aAt l G d mc ms y (pc + 1) lv st bc bs (LH o S (upK K q w) T X M) Q) : aAt l G d mc ms y pc lv (.long w :: .int i :: .ref 144 :: st) bc bs (LH o S K T X M) Q := by
  subst hq
  exact L_lastore hd (obL (by decide)) (inb_nI g) (inb_lt g) (Nat.le_of_ble_eq_true rfl) rfl kk
theorem C_aaloadT {x n : Nat} {i : Int32} {q : Nat} (hd : decode (mB y) pc = .ok (.aaload, 1)) (hx : oc X.2 x 34) (hn : ln X.1 x = n) (hl : n < 2 ^ 31) (hs : sc x q = 2) (hq : ix i = q) (g : inb i n) (kk : aAt l G d mc ms y (pc + 1) lv (tv (T x q) :: st) bc bs (LH o S K T X M) Q) : aAt l G d mc ms y pc lv (.int i :: .ref x :: st) bc bs (LH o S K T X M) Q := by
  subst hq
  exact L_aaloadT (ak := 34) hd hx.1 (by decide) (inb_nI g) (by rw [hn]; exact inb_lt g) (by rw [hn]; exact hl) hs kk
theorem C_aastore {x n t : Nat} {i : Int32} {q : Nat} (hd : decode (mB y) pc = .ok (.aastore, 1)) (hx : oc X.2 x 34) (hn : ln X.1 x = n) (hl : n < 2 ^ 31) (hs : sc x q = 2) (hq : ix i = q) (g : inb i n) (ht : t = 0 ∨ tok X t) (kk : aAt l G d mc ms y (pc + 1) lv st bc bs (LH o S K (upTT T x q t) X M) Q) : aAt l G d mc ms y pc lv (tv t :: .int i :: .ref x :: st) bc bs (LH o S K T X M) Q := by
  subst hq
  rcases ht with ht | ht
  · rw [tv0 ht]
    refine L_aastoreN (ak := 34) hd hx.1 (by decide) (inb_nI g) (by rw [hn]; exact inb_lt g) (by rw [hn]; exact hl) hs ?_
    rw [← tv0 ht, upT_tV]
    exact kk
  · have h0 : ¬ t = 0 := by have := ht.1; omega
    rw [tv1 h0]
    refine L_aastore (ak := 34) hd hx.1 (by decide) (oct ht).1 (inb_nI g) (by rw [hn]; exact inb_lt g) (by rw [hn]; exact hl) hs ?_
    rw [← tv1 h0, upT_tV]
    exact kk
theorem s_aload_nT {n : Fin 4} {t : Nat} (hd : decode (mB y) pc = .ok (.aload_n n, 1)) (hv : lkp lv n = some (tv t)) (k : aAt l G d mc ms y (pc + 1) lv (tv t :: st) bc bs h Q) : aAt l G d mc ms y pc lv st bc bs h Q := by
  rcases tv_or t with e | ⟨q, e⟩
  · rw [e] at hv k; exact s_aload_nN hd hv k
  · rw [e] at hv k; exact s_aload_n hd hv k
theorem s_aloadT {n : Nat} {t : Nat} (hd : decode (mB y) pc = .ok (.aload n, 2)) (hv : lkp lv n = some (tv t)) (k : aAt l G d mc ms y (pc + 2) lv (tv t :: st) bc bs h Q) : aAt l G d mc ms y pc lv st bc bs h Q := by
  rcases tv_or t with e | ⟨q, e⟩
  · rw [e] at hv k; exact s_aloadN hd hv k
  · rw [e] at hv k; exact s_aload hd hv k
theorem s_astore_nT {n : Fin 4} {t : Nat} (hd : decode (mB y) pc = .ok (.astore_n n, 1)) (hn : (n : Nat) < mL y) (k : aAt l G d mc ms y (pc + 1) (sto lv n (tv t)) st bc bs h Q) : aAt l G d mc ms y pc lv (tv t :: st) bc bs h Q := by
  rcases tv_or t with e | ⟨q, e⟩
  · rw [e] at k ⊢; exact s_astore_nN hd hn k
  · rw [e] at k ⊢; exact s_astore_n hd hn k
theorem s_astoreT {n : Nat} {t : Nat} (hd : decode (mB y) pc = .ok (.astore n, 2)) (hn : n < mL y) (k : aAt l G d mc ms y (pc + 2) (sto lv n (tv t)) st bc bs h Q) : aAt l G d mc ms y pc lv (tv t :: st) bc bs h Q := by
  rcases tv_or t with e | ⟨q, e⟩
  · rw [e] at k ⊢; exact s_astoreN hd hn k
  · rw [e] at k ⊢; exact s_astore hd hn k
theorem s_ifnullT {t : Nat} {off : Int} (tgt : Nat) (hd : decode (mB y) pc = .ok (.ifnull off, 3)) (ht : (pc : Int) + off = (tgt : Int)) (kt : t = 0 → aAt l G d mc ms y tgt lv st bc bs h Q) (kf : ¬ t = 0 → aAt l G d mc ms y (pc + 3) lv st bc bs h Q) : aAt l G d mc ms y pc lv (tv t :: st) bc bs h Q := by
  by_cases e : t = 0
  · rw [tv0 e]; exact s_ifnullN tgt hd ht (kt e)
  · rw [tv1 e]; exact s_ifnull hd (kf e)
theorem s_ifnonnullT {t : Nat} {off : Int} (tgt : Nat) (hd : decode (mB y) pc = .ok (.ifnonnull off, 3)) (ht : (pc : Int) + off = (tgt : Int)) (kt : ¬ t = 0 → aAt l G d mc ms y tgt lv st bc bs h Q) (kf : t = 0 → aAt l G d mc ms y (pc + 3) lv st bc bs h Q) : aAt l G d mc ms y pc lv (tv t :: st) bc bs h Q := by
  by_cases e : t = 0
  · rw [tv0 e]; exact s_ifnonnullN hd (kf e)
  · rw [tv1 e]; exact s_ifnonnull tgt hd ht (kt e)
theorem M_getI {i c' i' j : Nat} (hd : decode (mB y) pc = .ok (.getfield i, 3)) (hf : fld (mC y) i = some (c', i', 12, j)) (hs : sc 154 j = 0) (kk : aAt l G d mc ms y (pc + 3) lv (.int (M 154 j) :: st) bc bs (LH o S K T X M) Q) : aAt l G d mc ms y pc lv (.ref 154 :: st) bc bs (LH o S K T X M) Q :=
  L_getI hd hf (obL (by decide)) hs (by rw [jnM (by decide)]; exact kk)
theorem M_putI {i c' i' j : Nat} {v : Int32} (hd : decode (mB y) pc = .ok (.putfield i, 3)) (hf : fld (mC y) i = some (c', i', 12, j)) (hs : sc 154 j = 0) (hv : aTy 12 j = .int ∨ (aTy 12 j = .boolean ∧ (v = 0 ∨ v = 1))) (hfin : nonFin 12 j = true) (kk : aAt l G d mc ms y (pc + 3) lv st bc bs (LH o S K T X (up M 154 j v)) Q) : aAt l G d mc ms y pc lv (.int v :: .ref 154 :: st) bc bs (LH o S K T X M) Q :=
  L_putI hd hf (obL (by decide)) hs hv hfin (by rw [up_jnM (by decide)]; exact kk)
theorem M_iaload {x n : Nat} {i : Int32} {q : Nat} (hd : decode (mB y) pc = .ok (.iaload, 1)) (hx : 154 ≤ x ∧ x < 172 ∧ kd x = 20 ∧ ∀ tl, ln tl x = n) (hl : n < 2 ^ 31) (hq : ix i = q) (g : inb i n) (kk : aAt l G d mc ms y (pc + 1) lv (.int (M x q) :: st) bc bs (LH o S K T X M) Q) : aAt l G d mc ms y pc lv (.int i :: .ref x :: st) bc bs (LH o S K T X M) Q := by
  subst hq
  have ho : ob X.2 x 20 := obL ⟨by omega, hx.2.1, hx.2.2.1⟩
  exact L_iaload hd ho (inb_nI g) (by rw [hx.2.2.2]; exact inb_lt g) (by rw [hx.2.2.2]; exact hl) (sck0 ho (Or.inr (Or.inr (Or.inr rfl)))) (by rw [jnM ⟨hx.1, hx.2.1⟩]; exact kk)
theorem M_iastore {x n : Nat} {i w : Int32} {q : Nat} (hd : decode (mB y) pc = .ok (.iastore, 1)) (hx : 154 ≤ x ∧ x < 172 ∧ kd x = 20 ∧ ∀ tl, ln tl x = n) (hl : n < 2 ^ 31) (hq : ix i = q) (g : inb i n) (kk : aAt l G d mc ms y (pc + 1) lv st bc bs (LH o S K T X (up M x q w)) Q) : aAt l G d mc ms y pc lv (.int w :: .int i :: .ref x :: st) bc bs (LH o S K T X M) Q := by
  subst hq
  have ho : ob X.2 x 20 := obL ⟨by omega, hx.2.1, hx.2.2.1⟩
  exact L_iastore hd ho (inb_nI g) (by rw [hx.2.2.2]; exact inb_lt g) (by rw [hx.2.2.2]; exact hl) (sck0 ho (Or.inr (Or.inr (Or.inr rfl)))) (by rw [up_jnM ⟨hx.1, hx.2.1⟩]; exact kk)
theorem M_zaload {i : Int32} {q : Nat} (hd : decode (mB y) pc = .ok (.baload, 1)) (hq : ix i = q) (g : inb i 84) (kk : aAt l G d mc ms y (pc + 1) lv (.int (M 157 q) :: st) bc bs (LH o S K T X M) Q) : aAt l G d mc ms y pc lv (.int i :: .ref 157 :: st) bc bs (LH o S K T X M) Q := by
  subst hq
  exact L_zaload hd (obL (by decide)) (inb_nI g) (inb_lt g) (Nat.le_of_ble_eq_true rfl) rfl (by rw [jnM (by decide)]; exact kk)
theorem M_zastore {i w : Int32} {q : Nat} (hd : decode (mB y) pc = .ok (.bastore, 1)) (hq : ix i = q) (g : inb i 84) (kk : aAt l G d mc ms y (pc + 1) lv st bc bs (LH o S K T X (up M 157 q (vp_nar .boolean w))) Q) : aAt l G d mc ms y pc lv (.int w :: .int i :: .ref 157 :: st) bc bs (LH o S K T X M) Q := by
  subst hq
  exact L_zastore hd (obL (by decide)) (inb_nI g) (inb_lt g) (Nat.le_of_ble_eq_true rfl) rfl (by rw [up_jnM (by decide)]; exact kk)
theorem M_baload {i : Int32} {q : Nat} (hd : decode (mB y) pc = .ok (.baload, 1)) (hq : ix i = q) (g : inb i 200) (kk : aAt l G d mc ms y (pc + 1) lv (.int (M 160 q) :: st) bc bs (LH o S K T X M) Q) : aAt l G d mc ms y pc lv (.int i :: .ref 160 :: st) bc bs (LH o S K T X M) Q := by
  subst hq
  exact L_baload hd (obL (by decide)) (inb_nI g) (inb_lt g) (Nat.le_of_ble_eq_true rfl) rfl (by rw [jnM (by decide)]; exact kk)
theorem M_bastore {i w : Int32} {q : Nat} (hd : decode (mB y) pc = .ok (.bastore, 1)) (hq : ix i = q) (g : inb i 200) (kk : aAt l G d mc ms y (pc + 1) lv st bc bs (LH o S K T X (up M 160 q (vp_nar .byte w))) Q) : aAt l G d mc ms y pc lv (.int w :: .int i :: .ref 160 :: st) bc bs (LH o S K T X M) Q := by
  subst hq
  exact L_bastore hd (obL (by decide)) (inb_nI g) (inb_lt g) (Nat.le_of_ble_eq_true rfl) rfl (by rw [up_jnM (by decide)]; exact kk)
theorem M_caload {i : Int32} {q : Nat} (hd : decode (mB y) pc = .ok (.caload, 1)) (hq : ix i = q) (g : inb i 69) (kk : aAt l G d mc ms y (pc + 1) lv (.int (M 161 q) :: st) bc bs (LH o S K T X M) Q) : aAt l G d mc ms y pc lv (.int i :: .ref 161 :: st) bc bs (LH o S K T X M) Q := by
  subst hq
  exact L_caload hd (obL (by decide)) (inb_nI g) (inb_lt g) (Nat.le_of_ble_eq_true rfl) rfl (by rw [jnM (by decide)]; exact kk)
theorem z_if_eq {b : Bool} {off : Int} (tgt : Nat) (hd : decode (mB y) pc = .ok (.ifCond .eq off, 3)) (ht : (pc : Int) + off = (tgt : Int)) (kt : ¬ b = true → aAt l G d mc ms y tgt lv st bc bs h Q) (kf : b = true → aAt l G d mc ms y (pc + 3) lv st bc bs h Q) : aAt l G d mc ms y pc lv (.int (b2i b) :: st) bc bs h Q := by
  refine s_if_eq tgt hd ht (fun c => kt ?_) (fun c => kf ?_)
  · intro z; rw [z] at c; exact absurd c (by decide)
  · cases b
    · exact absurd rfl c
    · rfl
theorem z_if_ne {b : Bool} {off : Int} (tgt : Nat) (hd : decode (mB y) pc = .ok (.ifCond .ne off, 3)) (ht : (pc : Int) + off = (tgt : Int)) (kt : b = true → aAt l G d mc ms y tgt lv st bc bs h Q) (kf : ¬ b = true → aAt l G d mc ms y (pc + 3) lv st bc bs h Q) : aAt l G d mc ms y pc lv (.int (b2i b) :: st) bc bs h Q := by
  refine s_if_ne tgt hd ht (fun c => kt ?_) (fun c => kf ?_)
  · cases b
    · exact absurd rfl c
    · rfl
  · intro z; rw [z] at c; exact absurd c (by decide)
theorem s_iretB {b : Bool} (hd : decode (mB y) pc = .ok (.ireturn, 1)) (hr : mR y = some .boolean) (k : Q (some (.int (b2i b))) h) : aAt l G d mc ms y pc lv [.int (b2i b)] bc bs h Q :=
  s_ireturn hd hr (b2i_n b) k
theorem s_iretZ {v : Int32} (hd : decode (mB y) pc = .ok (.ireturn, 1)) (hr : mR y = some .boolean) (g : v = 0 ∨ v = 1) (k : Q (some (.int (b2i (decide (v = 1))))) h) : aAt l G d mc ms y pc lv [.int v] bc bs h Q := by
  rw [← z01 g] at k
  exact s_ireturn hd hr (nfit (Or.inr ⟨rfl, g⟩)).1 k
theorem aAt.stk (st' : List Value) (e : st' = st) (k : aAt l G d mc ms y pc lv st' bc bs h Q) : aAt l G d mc ms y pc lv st bc bs h Q := e ▸ k
theorem s_tabJ {df lo hi : Int} {offs : Array Int} {len : Nat} {x : Int32} {off : Int} (j : Int32) (tgt : Nat) (hx : x = j) (hd : decode (mB y) pc = .ok (.tableswitch df lo hi offs, len)) (h1 : ¬ j.toInt < lo) (h2 : ¬ hi < j.toInt) (ho : offs[(j.toInt - lo).toNat]? = some off) (ht : (pc : Int) + off = (tgt : Int)) (k : aAt l G d mc ms y tgt lv st bc bs h Q) : aAt l G d mc ms y pc lv (.int x :: st) bc bs h Q := by
  subst hx
  exact s_tableIn tgt hd h1 h2 ho ht k
theorem s_lookJ {df : Int} {ps : Array (Int × Int)} {len : Nat} {x : Int32} {off : Int} (j : Int32) (tgt : Nat) (hx : x = j) (hd : decode (mB y) pc = .ok (.lookupswitch df ps, len)) (hp : (ps.toList.zip (ps.toList.drop 1)).all (fun (a, next) => a.1 < next.1) = true) (ho : Op.lookupswitch.offset ps.toList df j.toInt = off) (ht : (pc : Int) + off = (tgt : Int)) (k : aAt l G d mc ms y tgt lv st bc bs h Q) : aAt l G d mc ms y pc lv (.int x :: st) bc bs h Q := by
  subst hx
  exact s_lookup tgt hd hp ho ht k
end CRows
theorem lk_n {x k : Int32} {z : Int} (h : ¬ x = k) (hz : k.toInt = z) : ¬ z = x.toInt := fun e => h (Int32.toInt_inj.mp (e.symm.trans hz.symm))
theorem sw_out {x : Int32} {lo hi : Int} {n : Nat} (hn : lo + n = hi) (hb : -1000 ≤ lo ∧ hi < 1000000) (h : ∀ j : Nat, j ≤ n → x = Int32.ofInt (lo + j) → False) : x.toInt < lo ∨ hi < x.toInt := by
  by_cases h1 : x.toInt < lo
  · exact Or.inl h1
  · by_cases h2 : hi < x.toInt
    · exact Or.inr h2
    · exfalso
      refine h (x.toInt - lo).toNat (by omega) ?_
      apply Int32.toInt_inj.mp
      have e : lo + ((x.toInt - lo).toNat : Int) = x.toInt := by omega
      rw [e, Int32.ofInt_toInt]
