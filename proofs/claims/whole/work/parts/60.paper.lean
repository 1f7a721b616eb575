/-! ===== a new paper ===== -/
theorem LD.addA {S S' : SS} {T : TS} {X : XS} {N N' : Nat → Int32} {np nf nx nl yr : Nat} (h : LD S T X N np nf nx nl yr) (hn : nx < 20) (hS : ∀ x j, ¬ (x = 9 ∧ j = 9) → x ≠ 39 + nx → S' x j = S x j) (hS7 : S' 9 9 = nI (nx + 1)) (hN : ∀ a, a ≠ 2 → ¬ (182 + 10 * nx ≤ a ∧ a < 192 + 10 * nx) → N' a = N a) (hN0 : N' 2 = nI (nx + 1)) (hv : ∀ w, w < 10 → S' (39 + nx) w = N' (182 + 10 * nx + w) ∧ okA np nf w (N' (182 + 10 * nx + w))) (hx : okX (N' (182 + 10 * nx + 0)) (N' (182 + 10 * nx + 3)) (N' (182 + 10 * nx + 4)) (N' (182 + 10 * nx + 9)) (N' (182 + 10 * nx + 7))) : LD S' T X N' np nf (nx + 1) nl yr := by
  have hc := h.cp
  obtain ⟨⟨hcap, hy, i0, i1, i2, i3, i4, i7, i8, hP, hF, hA, hL, hX⟩, hE, hT⟩ := h
  refine ⟨⟨⟨hc.1, hc.2.1, by omega, hc.2.2.2.1⟩, hy, by rw [hN _ (by omega) (by omega)]; exact i0, by rw [hN _ (by omega) (by omega)]; exact i1, hN0, by rw [hN _ (by omega) (by omega)]; exact i3, by rw [hN _ (by omega) (by omega)]; exact i4, by rw [hN _ (by omega) (by omega)]; exact i7, by rw [hN _ (by omega) (by omega)]; exact i8, fun q hq w hw => by rw [hN _ (by omega) (by omega)]; exact hP q hq w hw, fun q hq w hw => by rw [hN _ (by omega) (by omega)]; exact hF q hq w hw, fun q hq w hw => ?_, fun q hq w hw => by rw [hN _ (by omega) (by omega)]; exact hL q hq w hw, fun q hq => ?_⟩, ?_, ?_⟩
  · by_cases e : q = nx
    · subst e
      exact (hv w hw).2
    · rw [hN _ (by omega) (by omega)]
      exact hA q (by omega) w hw
  · by_cases e : q = nx
    · subst e
      exact hx
    · rw [hN _ (by omega) (by omega), hN _ (by omega) (by omega), hN _ (by omega) (by omega), hN _ (by omega) (by omega), hN _ (by omega) (by omega)]
      exact hX q (by omega)
  · refine hE.ext (fun a => a = 2 ∨ (182 + 10 * nx ≤ a ∧ a < 192 + 10 * nx)) (fun a ha hD => ?_) (fun a ha hD => ?_)
    · rcases hD with rfl | hD
      · exact hS7.trans hN0.symm
      · obtain ⟨w, hw, rfl⟩ : ∃ w, w < 10 ∧ a = 182 + 10 * nx + w := ⟨a - (182 + 10 * nx), by omega, by omega⟩
        rw [(rgA hn hw).1, (rgA hn hw).2, show 9 + (30 + nx) = 39 + nx by omega]
        exact (hv w hw).1
    · have hl := lvA_lt (np := np) (nf := nf) (nx := nx + 1) (nl := nl) ⟨hc.1, hc.2.1, by omega, hc.2.2.2.1⟩ ha
      refine ⟨?_, hS _ _ ?_ ?_, hN a (by omega) (by omega)⟩
      · unfold lvA at ha ⊢
        omega
      · intro z
        exact hD (Or.inl (rg_at (r := 0) hl (by omega) z.2 (by decide)))
      · intro z
        exact hD (Or.inr (rgA_of hn (by omega)))
  · exact hT.frame (fun x g1 g2 => funext fun j => hS x j (by omega) (by omega)) (fun a ha => hN a (by omega) (by omega))
theorem kS.ext {S S' S'' : SS} {X : XS} (h : kS S S' X) (hS : ∀ x, (x < 9 ∨ 71 ≤ x) → S'' x = S' x) : kS S S'' X := by
  obtain ⟨h1, h2, h3, h4, h5, h6⟩ := h
  exact ⟨by rw [hS 8 (by omega)]; exact h1, fun x g1 g2 => by rw [hS x (by omega)]; exact h2 x g1 g2, by rw [hS 138 (by omega)]; exact h3, by rw [hS 137 (by omega)]; exact h4, fun x g1 g2 => by rw [hS x (by omega)]; exact h5 x g1 g2, fun x g1 g2 => by rw [hS x (by omega)]; exact h6 x g1 g2⟩
theorem kM.ext {M M' M'' : SS} (h : kM M M') (hM : ∀ x, x ≠ 155 → M'' x = M' x) : kM M M'' := by
  obtain ⟨h1, h2, h3, h4, h5, h6, h7, h8, h9, h10⟩ := h
  exact ⟨by rw [hM 154 (by decide)]; exact h1, by rw [hM 154 (by decide)]; exact h2, by rw [hM 154 (by decide)]; exact h3, by rw [hM 156 (by decide)]; exact h4, by rw [hM 160 (by decide)]; exact h5, by rw [hM 161 (by decide)]; exact h6, by rw [hM 162 (by decide)]; exact h7, by rw [hM 168 (by decide)]; exact h8, by rw [hM 169 (by decide)]; exact h9, by rw [hM 170 (by decide)]; exact h10⟩
def pvals (k b t s y d th w : Int32) (j : Nat) : Int32 := match j with
  | 0 => k
  | 1 => b
  | 2 => t
  | 3 => s
  | 4 => 0
  | 5 => y
  | 6 => d
  | 7 => th
  | 8 => w
  | _ => 0
theorem u1 (A : SS) (x j j' : Nat) (v : Int32) : up A x j v x j' = if j' = j then v else A x j' := by
  by_cases e : j' = j
  · rw [if_pos e, e, up_s]
  · rw [if_neg e, up_j e]
theorem comes_eq {M : SS} {nx : Nat} (hn : M 155 2 = nI nx) (hx : nx < 20) (k b t s d th w : Int32) : ∃ MA, rM_comes M k b t s d th w = some (nI nx, MA) ∧ (∀ a, a ≠ 2 → ¬ (182 + 10 * nx ≤ a ∧ a < 192 + 10 * nx) → MA 155 a = M 155 a) ∧ MA 155 2 = nI (nx + 1) ∧ (∀ j, j < 10 → MA 155 (182 + 10 * nx + j) = pvals k b t s (M 155 3) d th w j) ∧ ∀ x, x ≠ 155 → MA x = M x := by
  have h20 : inb (nI nx) 20 := nI_inb hx (by decide)
  have hix : ix (nI nx) = nx := nI_ix (by omega)
  unfold rM_comes
  simp only [hn, rM_writes_0 h20, rM_writes_1 h20, rM_writes_2 h20, rM_writes_3 h20, rM_writes_4 h20, rM_writes_5 h20, rM_writes_6 h20, rM_writes_7 h20, rM_writes_8 h20, rM_writes_9 h20, Option.bind_some, hix]
  refine ⟨_, rfl, fun a g1 g2 => ?_, ?_, fun j hj => ?_, fun x hx => ?_⟩
  · rw [up_j (by omega), up_j (by omega), up_j (by omega), up_j (by omega), up_j (by omega), up_j (by omega), up_j (by omega), up_j (by omega), up_j (by omega), up_j (by omega), up_j (by omega)]
  · rw [up_j (by omega), up_j (by omega), up_j (by omega), up_j (by omega), up_j (by omega), up_j (by omega), up_j (by omega), up_j (by omega), up_j (by omega), up_j (by omega), up_s, nI_1]
  · have u2 : ∀ a b : Nat, (182 + 10 * nx + a = 182 + 10 * nx + b) = (a = b) := fun a b => propext ⟨fun e => by omega, fun e => by omega⟩
    have u3 : ∀ b : Nat, (3 = 182 + 10 * nx + b) = False := fun b => propext ⟨fun e => by omega, fun e => e.elim⟩
    simp only [u1, u2, u3, if_false]
    have hw' : j = 0 ∨ j = 1 ∨ j = 2 ∨ j = 3 ∨ j = 4 ∨ j = 5 ∨ j = 6 ∨ j = 7 ∨ j = 8 ∨ j = 9 := by omega
    rcases hw' with rfl | rfl | rfl | rfl | rfl | rfl | rfl | rfl | rfl | rfl <;> simp [pvals]
  · rw [up_o hx, up_o hx, up_o hx, up_o hx, up_o hx, up_o hx, up_o hx, up_o hx, up_o hx, up_o hx, up_o hx]
section Paper
variable {S0 M0 S M : SS} {T : TS} {X : XS} {np nf nx nl yr : Nat}
theorem st_add (h : LK S0 M0 S M T X np nf nx nl yr) (hn : nx < 20) {SA MA : SS} {k b t s d th w : Int32} (hS : ∀ x j, ¬ (x = 9 ∧ j = 9) → x ≠ 39 + nx → SA x j = S x j) (hS7 : SA 9 9 = nI (nx + 1)) (hSv : ∀ j, j < 10 → SA (39 + nx) j = pvals k b t s (nI yr) d th w j) (hM : ∀ a, a ≠ 2 → ¬ (182 + 10 * nx ≤ a ∧ a < 192 + 10 * nx) → MA 155 a = M 155 a) (hM2 : MA 155 2 = nI (nx + 1)) (hMv : ∀ j, j < 10 → MA 155 (182 + 10 * nx + j) = pvals k b t s (nI yr) d th w j) (hMx : ∀ x, x ≠ 155 → MA x = M x) (ok : inb k 7 ∧ inb b np ∧ inb t np ∧ (inb s 10000 ∧ 0 < s) ∧ inb d 401 ∧ (th = -1 ∨ inb th nf) ∧ inb w 3 ∧ ((k = 2 ∨ k = 3 ∨ k = 4) ↔ ¬ th = -1)) : LK S0 M0 SA MA T X np nf (nx + 1) nl yr := by
  have hc := h.1.cp
  obtain ⟨o0, o1, o2, ⟨o3, o3'⟩, o6, o7, o8, ox⟩ := ok
  refine ⟨h.1.addA hn hS hS7 hM hM2 (fun j hj => ⟨by rw [hSv j hj, hMv j hj], ?_⟩) ?_, h.2.1.ext (fun x hx => funext fun j => hS x j (by omega) (by omega)), h.2.2.ext hMx⟩
  · rw [hMv j hj]
    have hw' : j = 0 ∨ j = 1 ∨ j = 2 ∨ j = 3 ∨ j = 4 ∨ j = 5 ∨ j = 6 ∨ j = 7 ∨ j = 8 ∨ j = 9 := by omega
    rcases hw' with rfl | rfl | rfl | rfl | rfl | rfl | rfl | rfl | rfl | rfl
    · exact o0
    · exact o1
    · exact o2
    · exact o3
    · exact (by decide : inb 0 10000)
    · exact (nI_inb (show yr < 401 by omega) (by decide) : inb (nI yr) 401)
    · exact o6
    · exact o7
    · exact o8
    · exact (by decide : inb 0 4)
  · rw [hMv 0 (by decide), hMv 3 (by decide), hMv 4 (by decide), hMv 9 (by decide), hMv 7 (by decide)]
    exact ⟨Int32.le_of_lt o3', fun _ => o3', ox⟩
/-- the class binds a new paper (its numbers stand at 39 + nx), the reference does the same -/
theorem st_bind {S1 MA : SS} {k b t s d th w : Int32} (hn : nx < 20) (h9 : S1 9 9 = nI nx) (h8 : S1 9 8 = nI nf) (hv : ∀ j, j < 10 → up S1 (39 + nx) 7 th (39 + nx) j = pvals k b t s (nI yr) d th w j) (hA : LK S0 M0 (up (up S1 (39 + nx) 7 th) 9 9 (nI (nx + 1))) MA T X np nf (nx + 1) nl yr) (ok : inb k 7 ∧ inb b np ∧ inb t np) (hk : (k = 3 ∨ k = 4) → inb th nf) : ∃ S' M', cLand_bindNewPaper S1 th = some (nI nx, S') ∧ (if k = 3 then rM_paper_J237 MA k th b t (nI nx) else if k = 4 then rM_paper_J237 MA k th b t (nI nx) else rM_paper_J254 MA k b t (nI nx)) = some (nI nx, M') ∧ LK S0 M0 S' M' T X np nf (nx + 1) nl yr := by
  have hc := hA.1.cp
  have e19 : ¬ (19 : Int32) < nI nx := nI_nlt (show nx ≤ 19 by omega) (by decide)
  have np_ : cLand_nextPaper S1 = some (39 + nx) := by
    unfold cLand_nextPaper
    rw [h9, if_neg e19, if_pos (nI_inb hn (by decide)), nI_ix (by omega)]
  have b14 := inb_mono ok.2.1 hc.1
  unfold cLand_bindNewPaper cLand_bindNewPaper_J38 cLand_bindNewPaper_J63 cPaper_isSale
  rw [np_]
  simp only [Option.bind_some, hv 0 (by decide), hv 1 (by decide), hv 2 (by decide)]
  rw [show pvals k b t s (nI yr) d th w 0 = k from rfl, show pvals k b t s (nI yr) d th w 1 = b from rfl, show pvals k b t s (nI yr) d th w 2 = t from rfl, sale_eq ok.1]
  simp only [Option.bind_some]
  by_cases c : k = 3 ∨ k = 4
  · have ht := hk c
    have ht8 := inb_mono ht hc.2.1
    have hl := inb_lt ht8
    have c6 : ¬ k = 6 := by rcases c with c | c <;> rw [c] <;> decide
    rw [decide_eq_true c, if_pos rfl, cLand_hasField_eq (S := up S1 (39 + nx) 7 th) (n := nf) (by rw [up_x (by omega)]; exact h8) (by omega)]
    simp only [Option.bind_some, decide_eq_true ht, if_true, if_pos ht8]
    have q0 : up (up S1 (39 + nx) 7 th) (31 + ix th) 2 t (39 + nx) 0 = k := by
      rw [up_x (by omega)]
      exact hv 0 (by decide)
    have q9 : up (up S1 (39 + nx) 7 th) (31 + ix th) 2 t 9 9 = nI nx := by
      rw [up_x (by omega), up_x (by omega)]
      exact h9
    rw [q0, if_neg c6, q9, nI_1, up_comm (by omega)]
    have em : (if k = 3 then rM_paper_J237 MA k th b t (nI nx) else if k = 4 then rM_paper_J237 MA k th b t (nI nx) else rM_paper_J254 MA k b t (nI nx)) = rM_paper_J237 MA k th b t (nI nx) := by
      rcases c with c | c
      · rw [if_pos c]
      · rw [if_neg (by rw [c]; decide), if_pos c]
    rw [em]
    unfold rM_paper_J237 rM_paper_J254
    have a2 : (150 : Int32) + (4 : Int32) * th + 2 = nI (150 + 4 * ix th + 2) := ad3 ht8 150 4 2 (by decide)
    rw [a2, if_pos (nI_inb (by omega) (by decide)), nI_ix (by omega), if_neg c6]
    exact ⟨_, _, rfl, rfl, hA.F (inb_lt ht) 2 (by decide) ok.2.2⟩
  · have c3 : ¬ k = 3 := fun e => c (Or.inl e)
    have c4 : ¬ k = 4 := fun e => c (Or.inr e)
    rw [decide_eq_false c, if_neg (by decide), if_neg c3, if_neg c4]
    unfold rM_paper_J254
    by_cases c6 : k = 6
    · have hl := inb_lt b14
      rw [if_pos c6, if_pos b14, if_pos c6, rM_makes_8 b14]
      have q9 : up (up S1 (39 + nx) 7 th) (17 + ix b) 6 t 9 9 = nI nx := by
        rw [up_x (by omega), up_x (by omega)]
        exact h9
      rw [q9, nI_1, up_comm (by omega)]
      exact ⟨_, _, rfl, rfl, hA.P (inb_lt ok.2.1) 8 (by decide) trivial⟩
    · rw [if_neg c6, if_neg c6]
      have q9 : up S1 (39 + nx) 7 th 9 9 = nI nx := by
        rw [up_x (by omega)]
        exact h9
      rw [q9, nI_1]
      exact ⟨_, _, rfl, rfl, hA⟩
end Paper
theorem mhasField_eq (k : Int32) : rM_hasField k = some (decide (k = 2 ∨ k = 3 ∨ k = 4)) := by
  unfold rM_hasField rM_hasField_J15
  by_cases c2 : k = 2
  · rw [if_pos c2, decide_eq_true (Or.inl c2)]
  · by_cases c3 : k = 3
    · rw [if_neg c2, if_pos c3, decide_eq_true (Or.inr (Or.inl c3))]
    · by_cases c4 : k = 4
      · rw [if_neg c2, if_neg c3, if_pos c4, decide_eq_true (Or.inr (Or.inr c4))]
      · rw [if_neg c2, if_neg c3, if_neg c4, decide_eq_false (fun z => by rcases z with z | z | z; exact c2 z; exact c3 z; exact c4 z)]
