/-! ===== one number of a land set anew ===== -/
section ILs
variable {N : Nat → Int32} {np nf nx nl yr : Nat}
theorem IL.setP (h : IL N np nf nx nl yr) {q w : Nat} {v : Int32} (hq : q < np) (hw : w < 10) (hv : okP q w v) : IL (upN N (10 + 10 * q + w) v) np nf nx nl yr := by
  obtain ⟨hc, hy, i0, i1, i2, i3, i4, i7, i8, hP, hF, hA, hL, hX⟩ := h
  have hc' := hc
  unfold caps at hc'
  refine ⟨hc, hy, by rw [upN_n (by omega)]; exact i0, by rw [upN_n (by omega)]; exact i1, by rw [upN_n (by omega)]; exact i2, by rw [upN_n (by omega)]; exact i3, by rw [upN_n (by omega)]; exact i4, by rw [upN_n (by omega)]; exact i7, by rw [upN_n (by omega)]; exact i8, fun q' hq' w' hw' => ?_, fun q' hq' w' hw' => by rw [upN_n (by omega)]; exact hF q' hq' w' hw', fun q' hq' w' hw' => by rw [upN_n (by omega)]; exact hA q' hq' w' hw', fun q' hq' w' hw' => by rw [upN_n (by omega)]; exact hL q' hq' w' hw', fun q' hq' => by rw [upN_n (by omega), upN_n (by omega), upN_n (by omega), upN_n (by omega), upN_n (by omega)]; exact hX q' hq'⟩
  by_cases e : 10 + 10 * q' + w' = 10 + 10 * q + w
  · have e1 : q' = q := by omega
    have e2 : w' = w := by omega
    subst e1 e2
    rw [upN_s]
    exact hv
  · rw [upN_n e]
    exact hP q' hq' w' hw'
theorem IL.setF (h : IL N np nf nx nl yr) {q w : Nat} {v : Int32} (hq : q < nf) (hw : w < 4) (hv : okF np w v) : IL (upN N (150 + 4 * q + w) v) np nf nx nl yr := by
  obtain ⟨hc, hy, i0, i1, i2, i3, i4, i7, i8, hP, hF, hA, hL, hX⟩ := h
  have hc' := hc
  unfold caps at hc'
  refine ⟨hc, hy, by rw [upN_n (by omega)]; exact i0, by rw [upN_n (by omega)]; exact i1, by rw [upN_n (by omega)]; exact i2, by rw [upN_n (by omega)]; exact i3, by rw [upN_n (by omega)]; exact i4, by rw [upN_n (by omega)]; exact i7, by rw [upN_n (by omega)]; exact i8, fun q' hq' w' hw' => by rw [upN_n (by omega)]; exact hP q' hq' w' hw', fun q' hq' w' hw' => ?_, fun q' hq' w' hw' => by rw [upN_n (by omega)]; exact hA q' hq' w' hw', fun q' hq' w' hw' => by rw [upN_n (by omega)]; exact hL q' hq' w' hw', fun q' hq' => by rw [upN_n (by omega), upN_n (by omega), upN_n (by omega), upN_n (by omega), upN_n (by omega)]; exact hX q' hq'⟩
  by_cases e : 150 + 4 * q' + w' = 150 + 4 * q + w
  · have e1 : q' = q := by omega
    have e2 : w' = w := by omega
    subst e1 e2
    rw [upN_s]
    exact hv
  · rw [upN_n e]
    exact hF q' hq' w' hw'
theorem IL.setA (h : IL N np nf nx nl yr) {q w : Nat} {v : Int32} (hq : q < nx) (hw : w < 10) (hv : okA np nf w v) (hx : okX (upN N (182 + 10 * q + w) v (182 + 10 * q + 0)) (upN N (182 + 10 * q + w) v (182 + 10 * q + 3)) (upN N (182 + 10 * q + w) v (182 + 10 * q + 4)) (upN N (182 + 10 * q + w) v (182 + 10 * q + 9)) (upN N (182 + 10 * q + w) v (182 + 10 * q + 7))) : IL (upN N (182 + 10 * q + w) v) np nf nx nl yr := by
  obtain ⟨hc, hy, i0, i1, i2, i3, i4, i7, i8, hP, hF, hA, hL, hX⟩ := h
  have hc' := hc
  unfold caps at hc'
  refine ⟨hc, hy, by rw [upN_n (by omega)]; exact i0, by rw [upN_n (by omega)]; exact i1, by rw [upN_n (by omega)]; exact i2, by rw [upN_n (by omega)]; exact i3, by rw [upN_n (by omega)]; exact i4, by rw [upN_n (by omega)]; exact i7, by rw [upN_n (by omega)]; exact i8, fun q' hq' w' hw' => by rw [upN_n (by omega)]; exact hP q' hq' w' hw', fun q' hq' w' hw' => by rw [upN_n (by omega)]; exact hF q' hq' w' hw', fun q' hq' w' hw' => ?_, fun q' hq' w' hw' => by rw [upN_n (by omega)]; exact hL q' hq' w' hw', fun q' hq' => ?_⟩
  · by_cases e : 182 + 10 * q' + w' = 182 + 10 * q + w
    · have e1 : q' = q := by omega
      have e2 : w' = w := by omega
      subst e1 e2
      rw [upN_s]
      exact hv
    · rw [upN_n e]
      exact hA q' hq' w' hw'
  · by_cases e : q' = q
    · subst e
      exact hx
    · rw [upN_n (by omega), upN_n (by omega), upN_n (by omega), upN_n (by omega), upN_n (by omega)]
      exact hX q' hq'
/-- a number that none of the laws of a land speaks of, or that a law of its own is given for -/
theorem IL.setS (h : IL N np nf nx nl yr) {a : Nat} {v : Int32} (ha : a = 5 ∨ a = 6 ∨ a = 9 ∨ 406 ≤ a) : IL (upN N a v) np nf nx nl yr := by
  obtain ⟨hc, hy, i0, i1, i2, i3, i4, i7, i8, hP, hF, hA, hL, hX⟩ := h
  have hc' := hc
  unfold caps at hc'
  exact ⟨hc, hy, by rw [upN_n (by omega)]; exact i0, by rw [upN_n (by omega)]; exact i1, by rw [upN_n (by omega)]; exact i2, by rw [upN_n (by omega)]; exact i3, by rw [upN_n (by omega)]; exact i4, by rw [upN_n (by omega)]; exact i7, by rw [upN_n (by omega)]; exact i8, fun q' hq' w' hw' => by rw [upN_n (by omega)]; exact hP q' hq' w' hw', fun q' hq' w' hw' => by rw [upN_n (by omega)]; exact hF q' hq' w' hw', fun q' hq' w' hw' => by rw [upN_n (by omega)]; exact hA q' hq' w' hw', fun q' hq' w' hw' => by rw [upN_n (by omega)]; exact hL q' hq' w' hw', fun q' hq' => by rw [upN_n (by omega), upN_n (by omega), upN_n (by omega), upN_n (by omega), upN_n (by omega)]; exact hX q' hq'⟩
theorem IL.setH (h : IL N np nf nx nl yr) {a : Nat} {v : Int32} (ha : a = 7 ∨ a = 8) (hv : inb v 50) : IL (upN N a v) np nf nx nl yr := by
  obtain ⟨hc, hy, i0, i1, i2, i3, i4, i7, i8, hP, hF, hA, hL, hX⟩ := h
  have hc' := hc
  unfold caps at hc'
  refine ⟨hc, hy, by rw [upN_n (by omega)]; exact i0, by rw [upN_n (by omega)]; exact i1, by rw [upN_n (by omega)]; exact i2, by rw [upN_n (by omega)]; exact i3, by rw [upN_n (by omega)]; exact i4, ?_, ?_, fun q' hq' w' hw' => by rw [upN_n (by omega)]; exact hP q' hq' w' hw', fun q' hq' w' hw' => by rw [upN_n (by omega)]; exact hF q' hq' w' hw', fun q' hq' w' hw' => by rw [upN_n (by omega)]; exact hA q' hq' w' hw', fun q' hq' w' hw' => by rw [upN_n (by omega)]; exact hL q' hq' w' hw', fun q' hq' => by rw [upN_n (by omega), upN_n (by omega), upN_n (by omega), upN_n (by omega), upN_n (by omega)]; exact hX q' hq'⟩
  · rcases ha with rfl | rfl
    · rw [upN_s]; exact hv
    · rw [upN_n (by omega)]; exact i7
  · rcases ha with rfl | rfl
    · rw [upN_n (by omega)]; exact i8
    · rw [upN_s]; exact hv
end ILs
/-- the three of a land, with its numbers -/
def LD (S : SS) (T : TS) (X : XS) (N : Nat → Int32) (np nf nx nl yr : Nat) : Prop := IL N np nf nx nl yr ∧ EL 9 S N np nf nx nl ∧ LT 9 S T X N nl
section LDs
variable {S : SS} {T : TS} {X : XS} {N : Nat → Int32} {np nf nx nl yr : Nat}
theorem LD.rel (h : LD S T X N np nf nx nl yr) : LRel 9 S T X N := ⟨np, nf, nx, nl, yr, h⟩
theorem LD.cp (h : LD S T X N np nf nx nl yr) : np ≤ 14 ∧ nf ≤ 8 ∧ nx ≤ 20 ∧ nl ≤ 12 ∧ yr ≤ 400 := ⟨h.1.1.1, h.1.1.2.1, h.1.1.2.2.1, h.1.1.2.2.2, h.1.2.1⟩
theorem LD.s0 (h : LD S T X N np nf nx nl yr) : S 9 7 = nI np := (h.2.1 0 (Or.inl (by omega))).trans h.1.2.2.1
theorem LD.s1 (h : LD S T X N np nf nx nl yr) : S 9 8 = nI nf := (h.2.1 1 (Or.inl (by omega))).trans h.1.2.2.2.1
theorem LD.s2 (h : LD S T X N np nf nx nl yr) : S 9 9 = nI nx := (h.2.1 2 (Or.inl (by omega))).trans h.1.2.2.2.2.1
theorem LD.s3 (h : LD S T X N np nf nx nl yr) : S 9 11 = nI yr := (h.2.1 3 (Or.inl (by omega))).trans h.1.2.2.2.2.2.1
theorem LD.s4 (h : LD S T X N np nf nx nl yr) : S 9 10 = nI nl := (h.2.1 4 (Or.inl (by omega))).trans h.1.2.2.2.2.2.2.1
theorem LD.s5 (h : LD S T X N np nf nx nl yr) : S 9 12 = N 5 := h.2.1 5 (Or.inl (by omega))
theorem LD.s6 (h : LD S T X N np nf nx nl yr) : S 9 13 = N 6 := h.2.1 6 (Or.inl (by omega))
theorem LD.s7 (h : LD S T X N np nf nx nl yr) : S 15 0 = N 7 := h.2.1 7 (Or.inl (by omega))
theorem LD.s8 (h : LD S T X N np nf nx nl yr) : S 15 1 = N 8 := h.2.1 8 (Or.inl (by omega))
theorem LD.n0 (h : LD S T X N np nf nx nl yr) : N 0 = nI np := h.1.2.2.1
theorem LD.n1 (h : LD S T X N np nf nx nl yr) : N 1 = nI nf := h.1.2.2.2.1
theorem LD.n2 (h : LD S T X N np nf nx nl yr) : N 2 = nI nx := h.1.2.2.2.2.1
theorem LD.n3 (h : LD S T X N np nf nx nl yr) : N 3 = nI yr := h.1.2.2.2.2.2.1
theorem LD.n4 (h : LD S T X N np nf nx nl yr) : N 4 = nI nl := h.1.2.2.2.2.2.2.1
theorem LD.p (h : LD S T X N np nf nx nl yr) {q : Nat} (hq : q < np) (w : Nat) (hw : w < 10) : S (17 + q) (pv w) = N (10 + 10 * q + w) := by
  have := h.2.1.P h.1.1 hq w hw
  rw [show 9 + (8 + q) = 17 + q by omega] at this
  exact this
theorem LD.f (h : LD S T X N np nf nx nl yr) {q : Nat} (hq : q < nf) (w : Nat) (hw : w < 4) : S (31 + q) (fv w) = N (150 + 4 * q + w) := by
  have := h.2.1.F h.1.1 hq w hw
  rw [show 9 + (22 + q) = 31 + q by omega] at this
  exact this
theorem LD.a (h : LD S T X N np nf nx nl yr) {q : Nat} (hq : q < nx) (w : Nat) (hw : w < 10) : S (39 + q) w = N (182 + 10 * q + w) := by
  have := h.2.1.A h.1.1 hq w hw
  rw [show 9 + (30 + q) = 39 + q by omega] at this
  exact this
theorem LD.l (h : LD S T X N np nf nx nl yr) {q : Nat} (hq : q < nl) (w : Nat) (hw : w < 2) : S (59 + q) (1 + w) = N (382 + 2 * q + w) := by
  have := h.2.1.L hq w hw
  rw [show 9 + (50 + q) = 59 + q by omega] at this
  exact this
theorem LD.okp (h : LD S T X N np nf nx nl yr) {q : Nat} (hq : q < np) (w : Nat) (hw : w < 10) : okP q w (N (10 + 10 * q + w)) := h.1.2.2.2.2.2.2.2.2.2.1 q hq w hw
theorem LD.okf (h : LD S T X N np nf nx nl yr) {q : Nat} (hq : q < nf) (w : Nat) (hw : w < 4) : okF np w (N (150 + 4 * q + w)) := h.1.2.2.2.2.2.2.2.2.2.2.1 q hq w hw
theorem LD.oka (h : LD S T X N np nf nx nl yr) {q : Nat} (hq : q < nx) (w : Nat) (hw : w < 10) : okA np nf w (N (182 + 10 * q + w)) := h.1.2.2.2.2.2.2.2.2.2.2.2.1 q hq w hw
theorem LD.okl (h : LD S T X N np nf nx nl yr) {q : Nat} (hq : q < nl) (w : Nat) (hw : w < 2) : okL w (N (382 + 2 * q + w)) := h.1.2.2.2.2.2.2.2.2.2.2.2.2.1 q hq w hw
theorem LD.okx (h : LD S T X N np nf nx nl yr) {q : Nat} (hq : q < nx) : okX (N (182 + 10 * q + 0)) (N (182 + 10 * q + 3)) (N (182 + 10 * q + 4)) (N (182 + 10 * q + 9)) (N (182 + 10 * q + 7)) := h.1.2.2.2.2.2.2.2.2.2.2.2.2.2 q hq
theorem LT.set {a x j : Nat} {v : Int32} (h : LT 9 S T X N nl) (ha : a < 406) (hx : x < 172) : LT 9 (up S x j v) T X (upN N a v) nl := h.frame (fun y h1 h2 => up_o (by omega)) (fun c hc => upN_n (by omega))
theorem LD.setP (h : LD S T X N np nf nx nl yr) {q : Nat} {v : Int32} (hq : q < np) (w : Nat) (hw : w < 10) (hv : okP q w v) : LD (up S (17 + q) (pv w) v) T X (upN N (10 + 10 * q + w) v) np nf nx nl yr := by
  have hc := h.cp
  refine ⟨h.1.setP hq hw hv, ?_, h.2.2.set (by omega) (by omega)⟩
  have := h.2.1.setP h.1.1 (show q < 14 by omega) w hw v
  rw [show 9 + (8 + q) = 17 + q by omega] at this
  exact this
theorem LD.setF (h : LD S T X N np nf nx nl yr) {q : Nat} {v : Int32} (hq : q < nf) (w : Nat) (hw : w < 4) (hv : okF np w v) : LD (up S (31 + q) (fv w) v) T X (upN N (150 + 4 * q + w) v) np nf nx nl yr := by
  have hc := h.cp
  refine ⟨h.1.setF hq hw hv, ?_, h.2.2.set (by omega) (by omega)⟩
  have := h.2.1.setF h.1.1 (show q < 8 by omega) w hw v
  rw [show 9 + (22 + q) = 31 + q by omega] at this
  exact this
theorem LD.setA (h : LD S T X N np nf nx nl yr) {q : Nat} {v : Int32} (hq : q < nx) (w : Nat) (hw : w < 10) (hv : okA np nf w v) (hx : okX (upN N (182 + 10 * q + w) v (182 + 10 * q + 0)) (upN N (182 + 10 * q + w) v (182 + 10 * q + 3)) (upN N (182 + 10 * q + w) v (182 + 10 * q + 4)) (upN N (182 + 10 * q + w) v (182 + 10 * q + 9)) (upN N (182 + 10 * q + w) v (182 + 10 * q + 7))) : LD (up S (39 + q) w v) T X (upN N (182 + 10 * q + w) v) np nf nx nl yr := by
  have hc := h.cp
  refine ⟨h.1.setA hq hw hv hx, ?_, h.2.2.set (by omega) (by omega)⟩
  have := h.2.1.setA h.1.1 (show q < 20 by omega) w hw v
  rw [show 9 + (30 + q) = 39 + q by omega] at this
  exact this
theorem LD.set5 (h : LD S T X N np nf nx nl yr) {v : Int32} : LD (up S 9 12 v) T X (upN N 5 v) np nf nx nl yr := ⟨h.1.setS (by omega), h.2.1.set (a := 5) h.1.1 (by decide), h.2.2.set (by omega) (by omega)⟩
theorem LD.set6 (h : LD S T X N np nf nx nl yr) {v : Int32} : LD (up S 9 13 v) T X (upN N 6 v) np nf nx nl yr := ⟨h.1.setS (by omega), h.2.1.set (a := 6) h.1.1 (by decide), h.2.2.set (by omega) (by omega)⟩
theorem LD.set7 (h : LD S T X N np nf nx nl yr) {v : Int32} (hv : inb v 50) : LD (up S 15 0 v) T X (upN N 7 v) np nf nx nl yr := ⟨h.1.setH (by omega) hv, h.2.1.set (a := 7) h.1.1 (by decide), h.2.2.set (by omega) (by omega)⟩
theorem LD.set8 (h : LD S T X N np nf nx nl yr) {v : Int32} (hv : inb v 50) : LD (up S 15 1 v) T X (upN N 8 v) np nf nx nl yr := ⟨h.1.setH (by omega) hv, h.2.1.set (a := 8) h.1.1 (by decide), h.2.2.set (by omega) (by omega)⟩
end LDs
/-- changes of the class's land alone, of the reference's array alone -/
theorem kS.refl {S : SS} {X : XS} : kS S S X := ⟨rfl, fun _ _ _ => rfl, rfl, rfl, fun _ _ _ => rfl, fun _ _ _ => rfl⟩
theorem kS.up {S S' : SS} {X : XS} {x j : Nat} {v : Int32} (h : kS S S' X) (hx : (9 ≤ x ∧ x < 71) ∨ (133 ≤ x ∧ x < 137) ∨ (139 ≤ x ∧ x < 143)) : kS S (up S' x j v) X := by
  obtain ⟨h1, h2, h3, h4, h5, h6⟩ := h
  exact ⟨by rw [up_o (by omega)]; exact h1, fun y g1 g2 => by rw [up_o (by omega)]; exact h2 y g1 g2, by rw [up_o (by omega)]; exact h3, by rw [up_x (by omega)]; exact h4, fun y g1 g2 => by rw [up_o (by omega)]; exact h5 y g1 g2, fun y g1 g2 => by rw [up_o (by omega)]; exact h6 y g1 g2⟩
theorem kM.refl {M : SS} : kM M M := ⟨rfl, rfl, rfl, rfl, rfl, rfl, rfl, rfl, rfl, rfl⟩
theorem kM.up {M M' : SS} {x j : Nat} {v : Int32} (h : kM M M') (hx : x = 155 ∨ (157 ≤ x ∧ x < 160) ∨ (163 ≤ x ∧ x < 168) ∨ x = 171) : kM M (up M' x j v) := by
  obtain ⟨h1, h2, h3, h4, h5, h6, h7, h8, h9, h10⟩ := h
  exact ⟨by rw [up_x (by omega)]; exact h1, by rw [up_x (by omega)]; exact h2, by rw [up_x (by omega)]; exact h3, by rw [up_o (by omega)]; exact h4, by rw [up_o (by omega)]; exact h5, by rw [up_o (by omega)]; exact h6, by rw [up_o (by omega)]; exact h7, by rw [up_o (by omega)]; exact h8, by rw [up_o (by omega)]; exact h9, by rw [up_o (by omega)]; exact h10⟩
