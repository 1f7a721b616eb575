/-! ===== the relation of the two: addresses of the reference's array, registers of the class ===== -/
def pv (w : Nat) : Nat := match w with
  | 0 => 0
  | 1 => 1
  | 2 => 2
  | 3 => 4
  | 4 => 8
  | 5 => 9
  | 6 => 3
  | 7 => 5
  | 8 => 6
  | _ => 7
def fv (w : Nat) : Nat := match w with
  | 0 => 1
  | 1 => 0
  | 2 => 2
  | _ => 3
def rg (a : Nat) : Nat := if a < 10 then (if a < 7 then 0 else 6) else if a < 150 then 8 + (a - 10) / 10 else if a < 182 then 22 + (a - 150) / 4 else if a < 382 then 30 + (a - 182) / 10 else 50 + (a - 382) / 2
def sl (a : Nat) : Nat := if a < 10 then (match a with
  | 0 => 7
  | 1 => 8
  | 2 => 9
  | 3 => 11
  | 4 => 10
  | 5 => 12
  | 6 => 13
  | 7 => 0
  | 8 => 1
  | _ => 99) else if a < 150 then pv ((a - 10) % 10) else if a < 182 then fv ((a - 150) % 4) else if a < 382 then (a - 182) % 10 else 1 + (a - 382) % 2
/-- the address of a register -/
def ad (r j : Nat) : Nat := if r = 0 then (match j with
  | 7 => 0
  | 8 => 1
  | 9 => 2
  | 11 => 3
  | 10 => 4
  | 12 => 5
  | 13 => 6
  | _ => 9) else if r < 8 then 7 + j else if r < 22 then 10 + 10 * (r - 8) + (match j with
  | 0 => 0
  | 1 => 1
  | 2 => 2
  | 4 => 3
  | 8 => 4
  | 9 => 5
  | 3 => 6
  | 5 => 7
  | 6 => 8
  | _ => 9) else if r < 30 then 150 + 4 * (r - 22) + (match j with
  | 1 => 0
  | 0 => 1
  | 2 => 2
  | _ => 3) else if r < 50 then 182 + 10 * (r - 30) + j else 382 + 2 * (r - 50) + (j - 1)
theorem ad_rg : ∀ a, a < 406 → a ≠ 9 → ad (rg a) (sl a) = a := by decide +kernel
def lvA (np nf nx nl a : Nat) : Prop := a < 9 ∨ (10 ≤ a ∧ a < 10 + 10 * np) ∨ (150 ≤ a ∧ a < 150 + 4 * nf) ∨ (182 ≤ a ∧ a < 182 + 10 * nx) ∨ (382 ≤ a ∧ a < 382 + 2 * nl)
/-- the class's land at b holds what the array N holds -/
def EL (b : Nat) (S : SS) (N : Nat → Int32) (np nf nx nl : Nat) : Prop := ∀ a, lvA np nf nx nl a → S (b + rg a) (sl a) = N a
def upN (N : Nat → Int32) (a : Nat) (v : Int32) : Nat → Int32 := fun c => if c = a then v else N c
theorem upN_s {N : Nat → Int32} {a : Nat} {v : Int32} : upN N a v a = v := if_pos rfl
theorem upN_n {N : Nat → Int32} {a c : Nat} {v : Int32} (h : c ≠ a) : upN N a v c = N c := if_neg h
theorem up_155 {M : SS} {x a : Nat} {v : Int32} : up M x a v x = upN (M x) a v := by
  funext c
  unfold up upN
  by_cases h : c = a
  · rw [if_pos ⟨rfl, h⟩, if_pos h]
  · rw [if_neg (fun z => h z.2), if_neg h]
theorem up_o {M : SS} {x y a : Nat} {v : Int32} (h : y ≠ x) : up M x a v y = M y := by
  funext c
  unfold up
  rw [if_neg (fun z => h z.1)]
def caps (np nf nx nl : Nat) : Prop := np ≤ 14 ∧ nf ≤ 8 ∧ nx ≤ 20 ∧ nl ≤ 12
theorem lvA_lt {np nf nx nl a : Nat} (hc : caps np nf nx nl) (h : lvA np nf nx nl a) : a < 406 ∧ a ≠ 9 := by
  unfold caps at hc
  unfold lvA at h
  omega
theorem EL.set {b : Nat} {S : SS} {N : Nat → Int32} {np nf nx nl a : Nat} {v : Int32} (hc : caps np nf nx nl) (ha : a < 406 ∧ a ≠ 9) (h : EL b S N np nf nx nl) : EL b (up S (b + rg a) (sl a) v) (upN N a v) np nf nx nl := by
  intro c hcl
  have hl := lvA_lt hc hcl
  by_cases e : c = a
  · subst e
    rw [up_s, upN_s]
  · rw [upN_n e, up_n (fun z => e ?_)]
    · exact h c hcl
    · have e1 : rg c = rg a := by omega
      rw [← ad_rg c hl.1 hl.2, ← ad_rg a ha.1 ha.2, e1, z.2]
theorem EL.cong {b : Nat} {S : SS} {N N' : Nat → Int32} {np nf nx nl np' nf' nx' nl' : Nat} (h : EL b S N np nf nx nl) (hN : ∀ a, lvA np' nf' nx' nl' a → lvA np nf nx nl a ∧ N' a = N a) : EL b S N' np' nf' nx' nl' := by
  intro a ha
  rw [(hN a ha).2]
  exact h a (hN a ha).1
theorem rgP {q w : Nat} (hq : q < 14) (hw : w < 10) : rg (10 + 10 * q + w) = 8 + q ∧ sl (10 + 10 * q + w) = pv w := by
  unfold rg sl
  rw [if_neg (by omega), if_pos (by omega), if_neg (by omega), if_pos (by omega), show 10 + 10 * q + w - 10 = 10 * q + w by omega]
  refine ⟨by omega, ?_⟩
  congr 1
  omega
theorem rgF {q w : Nat} (hq : q < 8) (hw : w < 4) : rg (150 + 4 * q + w) = 22 + q ∧ sl (150 + 4 * q + w) = fv w := by
  unfold rg sl
  rw [if_neg (by omega), if_neg (by omega), if_pos (by omega), if_neg (by omega), if_neg (by omega), if_pos (by omega), show 150 + 4 * q + w - 150 = 4 * q + w by omega]
  refine ⟨by omega, ?_⟩
  congr 1
  omega
theorem rgA {q w : Nat} (hq : q < 20) (hw : w < 10) : rg (182 + 10 * q + w) = 30 + q ∧ sl (182 + 10 * q + w) = w := by
  unfold rg sl
  rw [if_neg (by omega), if_neg (by omega), if_neg (by omega), if_pos (by omega), if_neg (by omega), if_neg (by omega), if_neg (by omega), if_pos (by omega), show 182 + 10 * q + w - 182 = 10 * q + w by omega]
  omega
theorem rgL {q w : Nat} (hw : w < 2) : rg (382 + 2 * q + w) = 50 + q ∧ sl (382 + 2 * q + w) = 1 + w := by
  unfold rg sl
  rw [if_neg (by omega), if_neg (by omega), if_neg (by omega), if_neg (by omega), if_neg (by omega), if_neg (by omega), if_neg (by omega), if_neg (by omega), show 382 + 2 * q + w - 382 = 2 * q + w by omega]
  omega
section ELr
variable {b : Nat} {S : SS} {N : Nat → Int32} {np nf nx nl : Nat}
theorem EL.P (h : EL b S N np nf nx nl) (hc : caps np nf nx nl) {q : Nat} (hq : q < np) (w : Nat) (hw : w < 10) : S (b + (8 + q)) (pv w) = N (10 + 10 * q + w) := by
  have := h (10 + 10 * q + w) (by unfold lvA; omega)
  rw [(rgP (by unfold caps at hc; omega) hw).1, (rgP (by unfold caps at hc; omega) hw).2] at this
  exact this
theorem EL.F (h : EL b S N np nf nx nl) (hc : caps np nf nx nl) {q : Nat} (hq : q < nf) (w : Nat) (hw : w < 4) : S (b + (22 + q)) (fv w) = N (150 + 4 * q + w) := by
  have := h (150 + 4 * q + w) (by unfold lvA; omega)
  rw [(rgF (by unfold caps at hc; omega) hw).1, (rgF (by unfold caps at hc; omega) hw).2] at this
  exact this
theorem EL.A (h : EL b S N np nf nx nl) (hc : caps np nf nx nl) {q : Nat} (hq : q < nx) (w : Nat) (hw : w < 10) : S (b + (30 + q)) w = N (182 + 10 * q + w) := by
  have := h (182 + 10 * q + w) (by unfold lvA; omega)
  rw [(rgA (by unfold caps at hc; omega) hw).1, (rgA (by unfold caps at hc; omega) hw).2] at this
  exact this
theorem EL.L (h : EL b S N np nf nx nl) {q : Nat} (hq : q < nl) (w : Nat) (hw : w < 2) : S (b + (50 + q)) (1 + w) = N (382 + 2 * q + w) := by
  have := h (382 + 2 * q + w) (by unfold lvA; omega)
  rw [(rgL hw).1, (rgL hw).2] at this
  exact this
theorem EL.setP (h : EL b S N np nf nx nl) (hc : caps np nf nx nl) {q : Nat} (hq : q < 14) (w : Nat) (hw : w < 10) (v : Int32) : EL b (up S (b + (8 + q)) (pv w) v) (upN N (10 + 10 * q + w) v) np nf nx nl := by
  have := h.set (a := 10 + 10 * q + w) (v := v) hc (by omega)
  rw [(rgP hq hw).1, (rgP hq hw).2] at this
  exact this
theorem EL.setF (h : EL b S N np nf nx nl) (hc : caps np nf nx nl) {q : Nat} (hq : q < 8) (w : Nat) (hw : w < 4) (v : Int32) : EL b (up S (b + (22 + q)) (fv w) v) (upN N (150 + 4 * q + w) v) np nf nx nl := by
  have := h.set (a := 150 + 4 * q + w) (v := v) hc (by omega)
  rw [(rgF hq hw).1, (rgF hq hw).2] at this
  exact this
theorem EL.setA (h : EL b S N np nf nx nl) (hc : caps np nf nx nl) {q : Nat} (hq : q < 20) (w : Nat) (hw : w < 10) (v : Int32) : EL b (up S (b + (30 + q)) w v) (upN N (182 + 10 * q + w) v) np nf nx nl := by
  have := h.set (a := 182 + 10 * q + w) (v := v) hc (by omega)
  rw [(rgA hq hw).1, (rgA hq hw).2] at this
  exact this
theorem EL.setL (h : EL b S N np nf nx nl) (hc : caps np nf nx nl) {q : Nat} (hq : q < 12) (w : Nat) (hw : w < 2) (v : Int32) : EL b (up S (b + (50 + q)) (1 + w) v) (upN N (382 + 2 * q + w) v) np nf nx nl := by
  have := h.set (a := 382 + 2 * q + w) (v := v) hc (by omega)
  rw [(rgL hw).1, (rgL hw).2] at this
  exact this
theorem EL.frame {S' : SS} (h : EL b S N np nf nx nl) (hc : caps np nf nx nl) (hS : ∀ x, b ≤ x → x < b + 62 → S' x = S x) : EL b S' N np nf nx nl := by
  intro a ha
  have hl := lvA_lt hc ha
  rw [hS (b + rg a) (by omega) ?_]
  · exact h a ha
  · have : rg a < 62 := by
      unfold rg
      repeat' split
      all_goals omega
    omega
end ELr
/-! what the numbers of a land may be -/
def okP (q w : Nat) (v : Int32) : Prop := match w with
  | 1 => v = -1 ∨ inb v q
  | 2 => v = -1 ∨ inb v q
  | 4 => v = 0 ∨ v = 1
  | 5 => v = 0 ∨ v = 1
  | 6 => inb v 10000
  | 7 => inb v 51
  | _ => True
def okF (np w : Nat) (v : Int32) : Prop := match w with
  | 0 => inb v 100
  | 1 => inb v np
  | 2 => inb v np
  | _ => v = 0 ∨ v = 1
def okA (np nf w : Nat) (v : Int32) : Prop := match w with
  | 0 => inb v 7
  | 1 => inb v np
  | 2 => inb v np
  | 3 => inb v 10000
  | 4 => inb v 10000
  | 5 => inb v 401
  | 6 => inb v 401
  | 7 => v = -1 ∨ inb v nf
  | 8 => inb v 3
  | _ => inb v 4
def okL (w : Nat) (v : Int32) : Prop := match w with
  | 0 => inb v 2
  | _ => inb v 401
/-- a paper's numbers beside each other: it owes if it's open, and has a field just if its kind asks for one -/
def okX (k sum paid st th : Int32) : Prop := paid ≤ sum ∧ (st = 0 → paid < sum) ∧ ((k = 2 ∨ k = 3 ∨ k = 4) ↔ ¬ th = -1)
def IL (N : Nat → Int32) (np nf nx nl yr : Nat) : Prop :=
  caps np nf nx nl ∧ yr ≤ 400 ∧ N 0 = nI np ∧ N 1 = nI nf ∧ N 2 = nI nx ∧ N 3 = nI yr ∧ N 4 = nI nl ∧ inb (N 7) 50 ∧ inb (N 8) 50 ∧
  (∀ q, q < np → ∀ w, w < 10 → okP q w (N (10 + 10 * q + w))) ∧ (∀ q, q < nf → ∀ w, w < 4 → okF np w (N (150 + 4 * q + w))) ∧ (∀ q, q < nx → ∀ w, w < 10 → okA np nf w (N (182 + 10 * q + w))) ∧ (∀ q, q < nl → ∀ w, w < 2 → okL w (N (382 + 2 * q + w))) ∧
  ∀ q, q < nx → okX (N (182 + 10 * q + 0)) (N (182 + 10 * q + 3)) (N (182 + 10 * q + 4)) (N (182 + 10 * q + 9)) (N (182 + 10 * q + 7))
/-! texts, sheets, the tape, thrift -/
def encT : List (Int32 × Int32) := [(20014, -115), (20015, -116), (20016, -117), (20020, -243), (20021, -245), (20022, -260), (20023, -261)]
def enc (c v : Int32) : Prop := (∃ k, k < 10000 ∧ c = nI k ∧ v = nI k) ∨ (∃ k, k < 11 ∧ c = nI (10000 + k) ∧ v = -nI (k + 1)) ∨ (c, v) ∈ encT
/-- n numbers of a clause from place i on, a heap of h beneath: one is left, and none is missed -/
def wfc (f : Nat → Int32) : Nat → Nat → Nat → Prop
  | 0, _, h => h = 1
  | n + 1, i, h => if -100 < f i then wfc f n (i + 1) (h + 1) else if f i = -117 then 1 ≤ h ∧ wfc f n (i + 1) h else 2 ≤ h ∧ wfc f n (i + 1) (h - 1)
def TXC (S : SS) (N : Nat → Int32) (t base off n : Nat) : Prop := 1 ≤ n ∧ N base = nI n ∧ (∀ j, j < n → enc (S (t + 1) (off + j)) (N (base + 1 + j))) ∧ wfc (fun j => N (base + 1 + j)) n 0 0
def TXR (S : SS) (X : XS) (N : Nat → Int32) (t base : Nat) : Prop := tok X t ∧ ∃ n0 n1 n2 : Nat, n0 + n1 + n2 = X.1 (t + 1) ∧ S t 1 = nI n0 ∧ S t 2 = nI (n0 + n1) ∧ TXC S N t base 0 n0 ∧ TXC S N t (base + 203) n0 n1 ∧ TXC S N t (base + 406) (n0 + n1) n2
def LT (b : Nat) (S : SS) (T : TS) (X : XS) (N : Nat → Int32) (nl : Nat) : Prop := (∀ t, t < 5 → (T (b + 5) t = 0 ∧ N (406 + 609 * t) = 0) ∨ TXR S X N (T (b + 5) t) (406 + 609 * t)) ∧ ∀ q, q < nl → TXR S X N (T (b + (50 + q)) 0) (406 + 609 * (5 + q))
def LRel (b : Nat) (S : SS) (T : TS) (X : XS) (N : Nat → Int32) : Prop := ∃ np nf nx nl yr : Nat, IL N np nf nx nl yr ∧ EL b S N np nf nx nl ∧ LT b S T X N nl
def SH (S M : SS) : Prop := ∀ s, s < 4 → S (146 + 2 * s) 1 = M 168 s ∧ S (146 + 2 * s) 2 = M 169 s ∧ inb (M 169 s) 21 ∧ ∀ j, j < 20 → S (147 + 2 * s) j = M 170 (20 * s + j)
def TP (S M : SS) : Prop := ∃ n : Nat, n ≤ 200 ∧ S 137 1 = nI n ∧ M 154 8 = nI n ∧ ∀ j, j < n → S 138 j = M 160 j &&& 255 ∧ inb (S 138 j) 256
def CN (M : SS) : Prop := (∀ j, j < 69 → M 161 j = S2 161 j) ∧ ∀ j, j < 18 → M 162 j = S2 162 j
def minTo (f : Nat → Nat) : Nat → Nat
  | 0 => f 0
  | n + 1 => min (minTo f n) (f (n + 1))
def bestV (f : Nat → Nat → Nat) (has o : Nat) : Nat := minTo (fun p => (10 - (has - p)) + f (min 60 (has - p - 10)) (o - p)) (min 9 (min has o))
def lastV (lo hi : Nat) : Nat → Nat → Nat → Nat
  | 0, _, o => 2 * o
  | y + 1, s, o => max (bestV (lastV lo hi y) (s + lo) o) (bestV (lastV lo hi y) (s + hi) o)
def byt (k : Int64) (y : Nat) : Int32 := ((k.toUInt64 >>> ((nI (8 * y)).toInt64.toUInt64 &&& Int64.toUInt64 63)).toInt64).toInt32 &&& 255
def TH (S : SS) (K : KS) : Prop := ∀ lo, lo ≤ 30 → S 143 0 = nI lo → ∀ s o y, s ≤ 60 → o ≤ 60 → y < 8 → byt (K (61 * s + o)) y = 0 ∨ byt (K (61 * s + o)) y = nI (lastV lo lo (y + 1) s o + 1)
def Rel (S : SS) (K : KS) (T : TS) (X : XS) (M : SS) : Prop := LRel 9 S T X (M 155) ∧ (S 8 7 = M 154 2 ∧ (S 8 7 = 0 ∨ (S 8 7 = 1 ∧ LRel 71 S T X (M 156)))) ∧ S 8 8 = M 154 3 ∧ SH S M ∧ TP S M ∧ CN M ∧ TH S K ∧ X.2 % 2 = 0
/-! frames -/
theorem TXC.frame {S S' : SS} {N N' : Nat → Int32} {t base off n : Nat} (h : TXC S N t base off n) (hS : S' (t + 1) = S (t + 1)) (hN : ∀ a, base ≤ a → a ≤ base + n → N' a = N a) : TXC S' N' t base off n := by
  obtain ⟨h1, h2, h3, h4⟩ := h
  refine ⟨h1, by rw [hN base (by omega) (by omega)]; exact h2, fun j hj => by rw [hS, hN _ (by omega) (by omega)]; exact h3 j hj, ?_⟩
  have : ∀ m i hh, i + m = n → wfc (fun j => N (base + 1 + j)) m i hh → wfc (fun j => N' (base + 1 + j)) m i hh := by
    intro m
    induction m with
    | zero => intro i hh _ hw; exact hw
    | succ m ih =>
      intro i hh hi hw
      unfold wfc at hw ⊢
      rw [hN (base + 1 + i) (by omega) (by omega)]
      split at hw
      · rename_i c
        rw [if_pos c]
        exact ih _ _ (by omega) hw
      · rename_i c
        rw [if_neg c]
        split at hw
        · rename_i c2
          rw [if_pos c2]
          exact ⟨hw.1, ih _ _ (by omega) hw.2⟩
        · rename_i c2
          rw [if_neg c2]
          exact ⟨hw.1, ih _ _ (by omega) hw.2⟩
  exact this n 0 0 (by omega) h4
theorem TXR.frame {S S' : SS} {X : XS} {N N' : Nat → Int32} {t base : Nat} (h : TXR S X N t base) (hS : ∀ x, 172 ≤ x → x < 172 + X.2 → S' x = S x) (hN : ∀ a, base ≤ a → a < base + 609 → N' a = N a) : TXR S' X N' t base := by
  obtain ⟨h1, n0, n1, n2, h2, h3, h4, h5, h6, h7⟩ := h
  have ht := h1
  unfold tok at ht
  have e1 := hS t (by omega) (by omega)
  have e2 := hS (t + 1) (by omega) (by omega)
  exact ⟨h1, n0, n1, n2, h2, by rw [e1]; exact h3, by rw [e1]; exact h4, h5.frame e2 (fun a g1 g2 => hN a (by omega) (by omega)), h6.frame e2 (fun a g1 g2 => hN a (by omega) (by omega)), h7.frame e2 (fun a g1 g2 => hN a (by omega) (by omega))⟩
theorem LT.frame {b nl : Nat} {S S' : SS} {T : TS} {X : XS} {N N' : Nat → Int32} (h : LT b S T X N nl) (hS : ∀ x, 172 ≤ x → x < 172 + X.2 → S' x = S x) (hN : ∀ a, 406 ≤ a → N' a = N a) : LT b S' T X N' nl := by
  refine ⟨fun t ht => ?_, fun q hq => (h.2 q hq).frame hS (fun a g1 g2 => hN a (by omega))⟩
  rcases h.1 t ht with ⟨g1, g2⟩ | g
  · exact Or.inl ⟨g1, by rw [hN _ (by omega)]; exact g2⟩
  · exact Or.inr (g.frame hS (fun a g1 g2 => hN a (by omega)))
theorem LRel.frame {b : Nat} {S S' : SS} {T : TS} {X : XS} {N : Nat → Int32} (h : LRel b S T X N) (hS : ∀ x, b ≤ x → x < b + 62 → S' x = S x) (hT : ∀ x, 172 ≤ x → x < 172 + X.2 → S' x = S x) : LRel b S' T X N := by
  obtain ⟨np, nf, nx, nl, yr, hI, hE, hL⟩ := h
  exact ⟨np, nf, nx, nl, yr, hI, hE.frame hI.1 hS, hL.frame hT (fun _ _ => rfl)⟩
/-- what both keep beside the land -/
def kS (S S' : SS) (X : XS) : Prop := S' 8 = S 8 ∧ (∀ x, 71 ≤ x → x < 133 → S' x = S x) ∧ S' 138 = S 138 ∧ S' 137 1 = S 137 1 ∧ (∀ x, 143 ≤ x → x < 154 → S' x = S x) ∧ ∀ x, 172 ≤ x → x < 172 + X.2 → S' x = S x
def kM (M M' : SS) : Prop := M' 154 2 = M 154 2 ∧ M' 154 3 = M 154 3 ∧ M' 154 8 = M 154 8 ∧ M' 156 = M 156 ∧ M' 160 = M 160 ∧ M' 161 = M 161 ∧ M' 162 = M 162 ∧ M' 168 = M 168 ∧ M' 169 = M 169 ∧ M' 170 = M 170
theorem Rel.land {S S' : SS} {K : KS} {T : TS} {X : XS} {M M' : SS} (h : Rel S K T X M) (hS : kS S S' X) (hM : kM M M') (hL : LRel 9 S' T X (M' 155)) : Rel S' K T X M' := by
  obtain ⟨-, ⟨r2, r3⟩, r4, r5, r6, r7, r8, r9⟩ := h
  obtain ⟨s1, s2, s3, s4, s5, s6⟩ := hS
  obtain ⟨m1, m2, m3, m4, m5, m6, m7, m8, m9, m10⟩ := hM
  refine ⟨hL, ⟨by rw [s1, m1]; exact r2, ?_⟩, by rw [s1, m2]; exact r4, ?_, ?_, ?_, ?_, r9⟩
  · rcases r3 with r3 | ⟨r3, r3'⟩
    · exact Or.inl (by rw [s1]; exact r3)
    · exact Or.inr ⟨by rw [s1]; exact r3, by rw [m4]; exact r3'.frame (fun x g1 g2 => s2 x g1 g2) s6⟩
  · intro s hs
    obtain ⟨a1, a2, a3, a4⟩ := r5 s hs
    rw [s5 (146 + 2 * s) (by omega) (by omega), s5 (147 + 2 * s) (by omega) (by omega), m8, m9, m10]
    exact ⟨a1, a2, a3, a4⟩
  · obtain ⟨n, a1, a2, a3, a4⟩ := r6
    refine ⟨n, a1, by rw [s4]; exact a2, by rw [m3]; exact a3, ?_⟩
    rw [s3, m5]
    exact a4
  · unfold CN
    rw [m6, m7]
    exact r7
  · unfold TH
    rw [s5 143 (by omega) (by omega)]
    exact r8
theorem Rel.fnd {S : SS} {K : KS} {T : TS} {X : XS} {M : SS} (h : Rel S K T X M) : Rel (up S 8 8 (S 8 8 + 1)) K T X (up M 154 3 (M 154 3 + 1)) := by
  obtain ⟨r1, ⟨r2, r3⟩, r4, r5, r6, r7, r8, r9⟩ := h
  have hs : ∀ x, x ≠ 8 → up S 8 8 (S 8 8 + 1) x = S x := fun x hx => up_o hx
  have hm : ∀ x, x ≠ 154 → up M 154 3 (M 154 3 + 1) x = M x := fun x hx => up_o hx
  refine ⟨?_, ⟨?_, ?_⟩, ?_, ?_, ?_, ?_, ?_, r9⟩
  · rw [hm 155 (by decide)]
    exact r1.frame (fun x g1 g2 => hs x (by omega)) (fun x g1 g2 => hs x (by omega))
  · rw [up_n (by decide), up_n (by decide)]
    exact r2
  · rw [up_n (by decide), hm 156 (by decide)]
    rcases r3 with r3 | ⟨r3, r3'⟩
    · exact Or.inl r3
    · exact Or.inr ⟨r3, r3'.frame (fun x g1 g2 => hs x (by omega)) (fun x g1 g2 => hs x (by omega))⟩
  · rw [up_s, up_s, r4]
  · intro s hs4
    rw [hs (146 + 2 * s) (by omega), hs (147 + 2 * s) (by omega), hm 168 (by decide), hm 169 (by decide), hm 170 (by decide)]
    exact r5 s hs4
  · obtain ⟨n, a1, a2, a3, a4⟩ := r6
    refine ⟨n, a1, by rw [hs 137 (by decide)]; exact a2, by rw [up_n (by decide)]; exact a3, ?_⟩
    rw [hs 138 (by decide), hm 160 (by decide)]
    exact a4
  · unfold CN
    rw [hm 161 (by decide), hm 162 (by decide)]
    exact r7
  · unfold TH
    rw [hs 143 (by decide)]
    exact r8
