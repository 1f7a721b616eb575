/-! ===== steps of both lands: what comes to a store, what ends a paper, what is paid on it ===== -/
def LK (S0 M0 S M : SS) (T : TS) (X : XS) (np nf nx nl yr : Nat) : Prop := LD S T X (M 155) np nf nx nl yr ∧ kS S0 S X ∧ kM M0 M
theorem kS.trans {S S' S'' : SS} {X : XS} (h1 : kS S S' X) (h2 : kS S' S'' X) : kS S S'' X := by
  obtain ⟨a1, a2, a3, a4, a5, a6⟩ := h1
  obtain ⟨b1, b2, b3, b4, b5, b6⟩ := h2
  exact ⟨b1.trans a1, fun x g1 g2 => (b2 x g1 g2).trans (a2 x g1 g2), b3.trans a3, b4.trans a4, fun x g1 g2 => (b5 x g1 g2).trans (a5 x g1 g2), fun x g1 g2 => (b6 x g1 g2).trans (a6 x g1 g2)⟩
theorem kM.trans {M M' M'' : SS} (h1 : kM M M') (h2 : kM M' M'') : kM M M'' := by
  obtain ⟨a1, a2, a3, a4, a5, a6, a7, a8, a9, a10⟩ := h1
  obtain ⟨b1, b2, b3, b4, b5, b6, b7, b8, b9, b10⟩ := h2
  exact ⟨b1.trans a1, b2.trans a2, b3.trans a3, b4.trans a4, b5.trans a5, b6.trans a6, b7.trans a7, b8.trans a8, b9.trans a9, b10.trans a10⟩
section Steps
variable {S0 M0 S M : SS} {T : TS} {X : XS} {np nf nx nl yr : Nat}
theorem LK.P (h : LK S0 M0 S M T X np nf nx nl yr) {q : Nat} {v : Int32} (hq : q < np) (w : Nat) (hw : w < 10) (hv : okP q w v) : LK S0 M0 (up S (17 + q) (pv w) v) (up M 155 (10 + 10 * q + w) v) T X np nf nx nl yr := by
  have hc := h.1.cp
  refine ⟨?_, h.2.1.up (by omega), h.2.2.up (by omega)⟩
  rw [up_155]
  exact h.1.setP hq w hw hv
theorem LK.F (h : LK S0 M0 S M T X np nf nx nl yr) {q : Nat} {v : Int32} (hq : q < nf) (w : Nat) (hw : w < 4) (hv : okF np w v) : LK S0 M0 (up S (31 + q) (fv w) v) (up M 155 (150 + 4 * q + w) v) T X np nf nx nl yr := by
  have hc := h.1.cp
  refine ⟨?_, h.2.1.up (by omega), h.2.2.up (by omega)⟩
  rw [up_155]
  exact h.1.setF hq w hw hv
theorem LK.A (h : LK S0 M0 S M T X np nf nx nl yr) {q : Nat} {v : Int32} (hq : q < nx) (w : Nat) (hw : w < 10) (hv : okA np nf w v) (hx : okX (upN (M 155) (182 + 10 * q + w) v (182 + 10 * q + 0)) (upN (M 155) (182 + 10 * q + w) v (182 + 10 * q + 3)) (upN (M 155) (182 + 10 * q + w) v (182 + 10 * q + 4)) (upN (M 155) (182 + 10 * q + w) v (182 + 10 * q + 9)) (upN (M 155) (182 + 10 * q + w) v (182 + 10 * q + 7))) : LK S0 M0 (up S (39 + q) w v) (up M 155 (182 + 10 * q + w) v) T X np nf nx nl yr := by
  have hc := h.1.cp
  refine ⟨?_, h.2.1.up (by omega), h.2.2.up (by omega)⟩
  rw [up_155]
  exact h.1.setA hq w hw hv hx
theorem LK.lost (h : LK S0 M0 S M T X np nf nx nl yr) (v : Int32) : LK S0 M0 (up S 9 13 v) (up M 155 6 v) T X np nf nx nl yr := by
  refine ⟨?_, h.2.1.up (by omega), h.2.2.up (by omega)⟩
  rw [up_155]
  exact h.1.set6
theorem LK.eaten (h : LK S0 M0 S M T X np nf nx nl yr) (v : Int32) : LK S0 M0 (up S 9 12 v) (up M 155 5 v) T X np nf nx nl yr := by
  refine ⟨?_, h.2.1.up (by omega), h.2.2.up (by omega)⟩
  rw [up_155]
  exact h.1.set5
theorem room_ok {s n : Int32} (hs : inb s 10000) (hn : inb n 1000000) : inb (s + (if n < 9999 - s then n else 9999 - s)) 10000 := by
  obtain ⟨q, hq, rfl⟩ := inb_ex hs
  obtain ⟨m, hm, rfl⟩ := inb_ex hn
  have e : (9999 : Int32) - nI q = nI (9999 - q) := pk_sub (a := 9999) (b := q) (by omega)
  rw [e]
  by_cases c : m < 9999 - q
  · rw [if_pos (nI_lt c (by omega)), nI_add]
    exact nI_inb (by omega) (by decide)
  · rw [if_neg (nI_nlt (by omega) (by omega)), nI_add]
    exact nI_inb (by omega) (by decide)
theorem st_bring0 (h : LK S0 M0 S M T X np nf nx nl yr) {z n w : Int32} (hz : inb z np) (hv : inb (M 155 (10 + 10 * ix z + 6) + (if n < w then n else w)) 10000) : ∃ S' M', cLand_bring_J26 S n (17 + ix z) w = some S' ∧ rM_stores_J23 M z n w = some M' ∧ LK S0 M0 S' M' T X np nf nx nl yr ∧ ∀ a, 150 ≤ a → M' 155 a = M 155 a := by
  have hc := h.1.cp
  have hq := inb_lt hz
  have h14 := inb_mono hz hc.1
  have e6 : S (17 + ix z) 3 = M 155 (10 + 10 * ix z + 6) := h.1.p hq 6 (by decide)
  generalize hk : (if n < w then n else w) = k at hv
  have em : rM_stores_J23 M z n w = rM_stores_J34 M z n k := by
    unfold rM_stores_J23
    by_cases c : n < w
    · rw [if_pos c] at hk
      rw [if_neg (Int32.not_le.mpr c), hk]
    · rw [if_neg c] at hk
      rw [if_pos (Int32.not_lt.mp c), hk]
  refine ⟨_, _, rfl, by rw [em]; unfold rM_stores_J34; rw [rM_own_6 h14]; simp only [Option.bind_some, rM_makes_6 h14]; rfl, ?_, fun a ha => ?_⟩
  · have := (h.P hq 6 (by decide) hv).lost ((up M 155 (10 + 10 * ix z + 6) (M 155 (10 + 10 * ix z + 6) + k)) 155 6 + (n - k))
    have e13 : up S (17 + ix z) 3 (S (17 + ix z) 3 + k) 9 13 = up M 155 (10 + 10 * ix z + 6) (M 155 (10 + 10 * ix z + 6) + k) 155 6 := by
      rw [up_x (by omega), up_j (by omega)]
      exact h.1.s6
    rw [hk, e13, e6]
    exact this
  · rw [up_j (by omega), up_j (by omega)]
theorem st_bring (h : LK S0 M0 S M T X np nf nx nl yr) {z n : Int32} (hz : inb z np) (hn : inb n 1000000) : ∃ S' M', cLand_bring S z n = some S' ∧ rM_stores M z n = some M' ∧ LK S0 M0 S' M' T X np nf nx nl yr ∧ ∀ a, 150 ≤ a → M' 155 a = M 155 a := by
  have hc := h.1.cp
  have hq := inb_lt hz
  have h14 := inb_mono hz hc.1
  have e3 : S (17 + ix z) 4 = M 155 (10 + 10 * ix z + 3) := h.1.p hq 3 (by decide)
  have e6 : S (17 + ix z) 3 = M 155 (10 + 10 * ix z + 6) := h.1.p hq 6 (by decide)
  have o6 : inb (M 155 (10 + 10 * ix z + 6)) 10000 := h.1.okp hq 6 (by decide)
  unfold cLand_bring rM_stores
  simp only [if_pos h14, isDead_eq, lives0_eq h14, rM_own_6 h14, Option.bind_some, e3, e6]
  by_cases c : M 155 (10 + 10 * ix z + 3) < 0
  · simp only [decide_eq_true c, Bool.not_true, Bool.false_eq_true, if_false, if_true]
    exact st_bring0 h hz (room_ok o6 hn)
  · simp only [decide_eq_false c, Bool.not_false, Bool.false_eq_true, if_false, if_true]
    refine st_bring0 h hz ?_
    have : ¬ n < 0 := Int32.not_lt.mpr (inb_0 hn)
    rw [if_neg this, Int32.add_zero]
    exact o6
/-- a paper ends: not paid -/
theorem st_end (h : LK S0 M0 S M T X np nf nx nl yr) {x : Nat} {v : Int32} (hx : x < nx) (hv : inb v 4) (hv0 : ¬ v = 0) : ∃ S' M1, cLand_end S (39 + x) v = some S' ∧ LK S0 M0 S' M1 T X np nf nx nl yr ∧ (∀ a, 150 ≤ a → a ≠ 182 + 10 * x + 9 → M1 155 a = M 155 a) ∧ M1 155 (182 + 10 * x + 9) = v ∧ rM_closes M (nI x) v = rM_closes_J40 M1 (nI x) v (M 155 (182 + 10 * x + 7)) := by
  have hc := h.1.cp
  have h20 : inb (nI x) 20 := nI_inb (by omega) (by decide)
  have hix : ix (nI x) = x := nI_ix (by omega)
  have oX := h.1.okx hx
  have hA := h.A (v := v) hx 9 (by decide) hv (by
    rw [upN_n (by omega), upN_n (by omega), upN_n (by omega), upN_s, upN_n (by omega)]
    exact ⟨oX.1, fun e => absurd e hv0, oX.2.2⟩)
  unfold cLand_end rM_closes
  simp only [rM_of_7 h20, rM_writes_9 h20, rM_of_0 h20, rM_of_1 h20, Option.bind_some, hix]
  have e0 : up S (39 + x) 9 v (39 + x) 0 = M 155 (182 + 10 * x + 0) := by rw [up_j (by decide)]; exact h.1.a hx 0 (by decide)
  have e1 : up S (39 + x) 9 v (39 + x) 1 = M 155 (182 + 10 * x + 1) := by rw [up_j (by decide)]; exact h.1.a hx 1 (by decide)
  have f0 : up M 155 (182 + 10 * x + 9) v 155 (182 + 10 * x + 0) = M 155 (182 + 10 * x + 0) := up_j (by omega)
  have f1 : up M 155 (182 + 10 * x + 9) v 155 (182 + 10 * x + 1) = M 155 (182 + 10 * x + 1) := up_j (by omega)
  have o1 : inb (M 155 (182 + 10 * x + 1)) np := h.1.oka hx 1 (by decide)
  have o14 := inb_mono o1 hc.1
  rw [e0, e1, f0, f1]
  by_cases c : M 155 (182 + 10 * x + 0) = 6
  · simp only [if_pos c, if_pos o14, rM_makes_8 o14, Option.bind_some]
    refine ⟨_, _, rfl, hA.P (inb_lt o1) 8 (by decide) trivial, fun a g1 g2 => ?_, ?_, rfl⟩
    · have := inb_lt o14
      rw [up_j (by omega), up_j g2]
    · have := inb_lt o14
      rw [up_j (by omega), up_s]
  · simp only [if_neg c]
    exact ⟨_, _, rfl, hA, fun a g1 g2 => up_j g2, up_s, rfl⟩
theorem st_endN (h : LK S0 M0 S M T X np nf nx nl yr) {x : Nat} {v : Int32} (hx : x < nx) (hv : inb v 4) (hv0 : ¬ v = 0) (hv1 : ¬ v = 1) : ∃ S' M', cLand_end S (39 + x) v = some S' ∧ rM_closes M (nI x) v = some M' ∧ LK S0 M0 S' M' T X np nf nx nl yr ∧ ∀ a, 150 ≤ a → a ≠ 182 + 10 * x + 9 → M' 155 a = M 155 a := by
  obtain ⟨S', M1, g1, g2, g3, g4, g5⟩ := st_end h hx hv hv0
  refine ⟨S', M1, g1, ?_, g2, g3⟩
  rw [g5]
  unfold rM_closes_J40
  rw [if_neg hv1]
end Steps
