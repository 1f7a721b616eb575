/-! ===== loops that gather; personIs, fieldIs, paperIs, count ===== -/
def fo {α : Type} (op : α → Nat → α) : Nat → Nat → α → α
  | 0, _, a => a
  | k + 1, i, a => fo op k (i + 1) (op a i)
theorem loop_fo {α β : Type} (L : Nat → α → Int32 → Option β) (op : α → Nat → α) (n : Nat) (fin : α → β) (hs : ∀ f i a, i < n → L (f + 1) a (nI i) = L f (op a i) (nI (i + 1))) (he : ∀ f a, L (f + 1) a (nI n) = some (fin a)) : ∀ k i a f, i + k = n → k < f → L f a (nI i) = some (fin (fo op k i a)) := by
  intro k
  induction k with
  | zero =>
    intro i a f hi hf
    obtain ⟨g, rfl⟩ : ∃ g, f = g + 1 := ⟨f - 1, by omega⟩
    rw [show i = n by omega]
    exact he g a
  | succ k ih =>
    intro i a f hi hf
    obtain ⟨g, rfl⟩ : ∃ g, f = g + 1 := ⟨f - 1, by omega⟩
    rw [hs g i a (by omega)]
    exact ih (i + 1) (op a i) g (by omega) (by omega)
theorem loop_0' {α β : Type} (L : Nat → α → Int32 → Option β) (op : α → Nat → α) (n : Nat) (fin : α → β) (hn : n < 20000) (hs : ∀ f i a, i < n → L (f + 1) a (nI i) = L f (op a i) (nI (i + 1))) (he : ∀ f a, L (f + 1) a (nI n) = some (fin a)) (a : α) : L FU a 0 = some (fin (fo op n 0 a)) :=
  loop_fo L op n fin hs he n 0 a FU (by omega) hn
theorem nle {i n : Nat} (h : i < n) (hn : n < 2 ^ 31) : ¬ nI n ≤ nI i := nI_ge h hn
theorem nne1 {i : Nat} (h : i < 2 ^ 31) : ¬ nI i = (-1 : Int32) := by
  intro e
  have := nI_pos h
  rw [e] at this
  exact this (by decide)
def oweF (N : Nat → Int32) (p but : Int32) (a : Int32) (i : Nat) : Int32 := a + (if nI i = but then 0 else if N (182 + 10 * i + 9) = 0 then (if N (182 + 10 * i + 1) = p then N (182 + 10 * i + 3) - N (182 + 10 * i + 4) else 0) else 0)
def owtF (N : Nat → Int32) (p but can : Int32) (a : Int32) (i : Nat) : Int32 := a + (if nI i = but then 0 else if N (182 + 10 * i + 9) = 0 then (if N (182 + 10 * i + 2) = p then (if (can >>> (N (182 + 10 * i + 1) &&& 31)) &&& 1 = 0 then N (182 + 10 * i + 3) - N (182 + 10 * i + 4) else 0) else 0) else 0)
theorem mowes_eq {M : SS} {nx : Nat} (hn : M 155 2 = nI nx) (hx : nx ≤ 20) (p but : Int32) : rM_owes M p but = some (fo (oweF (M 155) p but) nx 0 0) := by
  unfold rM_owes
  refine loop_0' (fun f a i => rM_owes_L5 M f p but a i) (oweF (M 155) p but) nx id (by omega) (fun f i a hi => ?_) (fun f a => ?_) 0
  · have h20 : inb (nI i) 20 := nI_inb (by omega) (by decide)
    (try dsimp only)
    rw [rM_owes_L5, hn, if_neg (nle hi (by omega))]
    unfold rM_owes_J52 rM_owes_J53 oweF
    simp only [isOpen_eq h20, rM_of_1 h20, mowed_eq h20, Option.bind_some, nI_ix (show i < 2 ^ 31 by omega), nI_1]
    by_cases c1 : nI i = but
    · rw [if_pos c1, if_pos c1]
    · rw [if_neg c1, if_neg c1]
      by_cases c2 : M 155 (182 + 10 * i + 9) = 0
      · rw [decide_eq_true c2, if_pos rfl, if_pos c2]
        by_cases c3 : M 155 (182 + 10 * i + 1) = p
        · rw [if_pos c3, if_pos c3]
        · rw [if_neg c3, if_neg c3]
      · rw [decide_eq_false c2, if_neg (by decide), if_neg c2]
  · (try dsimp only)
    rw [rM_owes_L5, hn, if_pos (Int32.le_refl _)]
    rfl
theorem mowedTo_eq {M : SS} {nx : Nat} (hn : M 155 2 = nI nx) (hx : nx ≤ 20) (p but can : Int32) : rM_owedTo M p but can = some (fo (owtF (M 155) p but can) nx 0 0) := by
  unfold rM_owedTo
  refine loop_0' (fun f a i => rM_owedTo_L6 M f p but can a i) (owtF (M 155) p but can) nx id (by omega) (fun f i a hi => ?_) (fun f a => ?_) 0
  · have h20 : inb (nI i) 20 := nI_inb (by omega) (by decide)
    (try dsimp only)
    rw [rM_owedTo_L6, hn, if_neg (nle hi (by omega))]
    unfold rM_owedTo_J68 rM_owedTo_J69 owtF
    simp only [isOpen_eq h20, rM_of_1 h20, rM_of_2 h20, mowed_eq h20, Option.bind_some, nI_ix (show i < 2 ^ 31 by omega), nI_1]
    by_cases c1 : nI i = but
    · rw [if_pos c1, if_pos c1]
    · rw [if_neg c1, if_neg c1]
      by_cases c2 : M 155 (182 + 10 * i + 9) = 0
      · rw [decide_eq_true c2, if_pos rfl, if_pos c2]
        by_cases c3 : M 155 (182 + 10 * i + 2) = p
        · rw [if_pos c3, if_pos c3]
          by_cases c4 : (can >>> (M 155 (182 + 10 * i + 1) &&& 31)) &&& 1 = 0
          · rw [if_pos c4, if_pos c4]
          · rw [if_neg c4, if_neg c4]
        · rw [if_neg c3, if_neg c3]
      · rw [decide_eq_false c2, if_neg (by decide), if_neg c2]
  · (try dsimp only)
    rw [rM_owedTo_L6, hn, if_pos (Int32.le_refl _)]
    rfl
section Pure55
variable {S : SS} {T : TS} {X : XS} {N : Nat → Int32} {np nf nx nl yr : Nat}
theorem cowedBy_eq (h : LD S T X N np nf nx nl yr) (p : Int32) : cLand_owedBy S p = some (fo (oweF N p (-1)) nx 0 0) := by
  have hc := h.cp
  unfold cLand_owedBy
  refine loop_0' (fun f a i => cLand_owedBy_L4 S f p a i) (oweF N p (-1)) nx id (by omega) (fun f i a hi => ?_) (fun f a => ?_) 0
  · have h20 : inb (nI i) 20 := nI_inb (by omega) (by decide)
    (try dsimp only)
    rw [cLand_owedBy_L4, h.s2, if_neg (nle hi (by omega)), if_pos h20]
    unfold cLand_owedBy_J39 oweF
    simp only [openOwed_eq, Option.bind_some, nI_ix (show i < 2 ^ 31 by omega), nI_1, h.a hi 1 (by decide), h.a hi 9 (by decide), h.a hi 3 (by decide), h.a hi 4 (by decide)]
    rw [if_neg (nne1 (show i < 2 ^ 31 by omega))]
    by_cases c3 : N (182 + 10 * i + 1) = p
    · rw [if_pos c3, if_pos c3]
    · rw [if_neg c3, if_neg c3]
      by_cases c2 : N (182 + 10 * i + 9) = 0
      · rw [if_pos c2]
      · rw [if_neg c2]
  · (try dsimp only)
    rw [cLand_owedBy_L4, h.s2, if_pos (Int32.le_refl _)]
    rfl
theorem cowedTo_eq (h : LD S T X N np nf nx nl yr) (p : Int32) : cLand_owedTo S p = some (fo (owtF N p (-1) 0) nx 0 0) := by
  have hc := h.cp
  unfold cLand_owedTo
  refine loop_0' (fun f a i => cLand_owedTo_L4 S f p a i) (owtF N p (-1) 0) nx id (by omega) (fun f i a hi => ?_) (fun f a => ?_) 0
  · have h20 : inb (nI i) 20 := nI_inb (by omega) (by decide)
    (try dsimp only)
    rw [cLand_owedTo_L4, h.s2, if_neg (nle hi (by omega)), if_pos h20]
    unfold cLand_owedTo_J39 owtF
    simp only [openOwed_eq, Option.bind_some, nI_ix (show i < 2 ^ 31 by omega), nI_1, h.a hi 2 (by decide), h.a hi 9 (by decide), h.a hi 3 (by decide), h.a hi 4 (by decide)]
    rw [if_neg (nne1 (show i < 2 ^ 31 by omega)), if_pos (show ((0 : Int32) >>> (N (182 + 10 * i + 1) &&& 31)) &&& 1 = 0 by simp)]
    by_cases c3 : N (182 + 10 * i + 2) = p
    · rw [if_pos c3, if_pos c3]
    · rw [if_neg c3, if_neg c3]
      by_cases c2 : N (182 + 10 * i + 9) = 0
      · rw [if_pos c2]
      · rw [if_neg c2]
  · (try dsimp only)
    rw [cLand_owedTo_L4, h.s2, if_pos (Int32.le_refl _)]
    rfl
def heldF (N : Nat → Int32) (p : Int32) (a : Int32) (i : Nat) : Int32 := a ||| (if N (150 + 4 * i + 2) = p then (1 : Int32) <<< (nI i &&& 31) else 0)
theorem cheld_eq (h : LD S T X N np nf nx nl yr) (p : Int32) : cLand_fieldsHeldBy S p = some (fo (heldF N p) nf 0 0) := by
  have hc := h.cp
  unfold cLand_fieldsHeldBy
  refine loop_0' (fun f a i => cLand_fieldsHeldBy_L4 S f p a i) (heldF N p) nf id (by omega) (fun f i a hi => ?_) (fun f a => ?_) 0
  · have h8 : inb (nI i) 8 := nI_inb (by omega) (by decide)
    have e2 : S (31 + i) 2 = N (150 + 4 * i + 2) := h.f hi 2 (by decide)
    (try dsimp only)
    rw [cLand_fieldsHeldBy_L4, h.s1, if_neg (nle hi (by omega)), if_pos h8]
    unfold cLand_fieldsHeldBy_J31 heldF
    simp only [bit_eq, Option.bind_some, nI_ix (show i < 2 ^ 31 by omega), nI_1, e2]
    by_cases c3 : N (150 + 4 * i + 2) = p
    · rw [if_pos c3, if_pos c3]
      rfl
    · rw [if_neg c3, if_neg c3]
      simp [b2i]
  · (try dsimp only)
    rw [cLand_fieldsHeldBy_L4, h.s1, if_pos (Int32.le_refl _)]
    rfl
theorem mheld_eq {M : SS} (hn : M 155 1 = nI nf) (hf : nf ≤ 8) (p : Int32) : rM_personIs_L122 FU M p 0 0 = some (fo (heldF (M 155) p) nf 0 0, M) := by
  refine loop_0' (fun f a i => rM_personIs_L122 f M p a i) (heldF (M 155) p) nf (fun a => (a, M)) (by omega) (fun f i a hi => ?_) (fun f a => ?_) 0
  · have h8 : inb (nI i) 8 := nI_inb (by omega) (by decide)
    (try dsimp only)
    rw [rM_personIs_L122, hn, if_neg (nle hi (by omega))]
    unfold rM_personIs_J153 heldF
    simp only [rM_ofField_2 h8, Option.bind_some, nI_ix (show i < 2 ^ 31 by omega), nI_1]
    by_cases c3 : M 155 (150 + 4 * i + 2) = p
    · rw [if_pos c3, if_pos c3]
    · rw [if_neg c3, if_neg c3]
  · (try dsimp only)
    rw [rM_personIs_L122, hn, if_pos (Int32.le_refl _)]
def livF (N : Nat → Int32) (a : Int32) (i : Nat) : Int32 := a + b2i (decide (N (10 + 10 * i + 3) < 0))
theorem cliving_eq (h : LD S T X N np nf nx nl yr) : cLand_livingCount S = some (fo (livF N) np 0 0) := by
  have hc := h.cp
  unfold cLand_livingCount
  refine loop_0' (fun f a i => cLand_livingCount_L4 S f a i) (livF N) np id (by omega) (fun f i a hi => ?_) (fun f a => ?_) 0
  · have h8 : inb (nI i) 14 := nI_inb (by omega) (by decide)
    have e2 : S (17 + i) 4 = N (10 + 10 * i + 3) := h.p hi 3 (by decide)
    (try dsimp only)
    rw [cLand_livingCount_L4, h.s0, if_neg (nle hi (by omega)), if_pos h8]
    unfold cLand_livingCount_J30 livF
    simp only [bit_eq, isDead_eq, Option.bind_some, nI_ix (show i < 2 ^ 31 by omega), nI_1, e2]
    by_cases c3 : N (10 + 10 * i + 3) < 0
    · simp [c3]
    · simp [c3]
  · (try dsimp only)
    rw [cLand_livingCount_L4, h.s0, if_pos (Int32.le_refl _)]
    rfl
theorem mliving_eq {M : SS} (hn : M 155 0 = nI np) (hf : np ≤ 14) : rM_count_L54 FU M 0 0 = some (fo (livF (M 155)) np 0 0, M) := by
  refine loop_0' (fun f a i => rM_count_L54 f M a i) (livF (M 155)) np (fun a => (a, M)) (by omega) (fun f i a hi => ?_) (fun f a => ?_) 0
  · have h8 : inb (nI i) 14 := nI_inb (by omega) (by decide)
    (try dsimp only)
    rw [rM_count_L54, hn, if_neg (nle hi (by omega))]
    unfold rM_count_J78 livF
    simp only [lives0_eq h8, Option.bind_some, nI_ix (show i < 2 ^ 31 by omega), nI_1]
    by_cases c3 : M 155 (10 + 10 * i + 3) < 0
    · simp [c3]
    · simp [c3]
  · (try dsimp only)
    rw [rM_count_L54, hn, if_pos (Int32.le_refl _)]
def opnF (N : Nat → Int32) (a : Int32) (i : Nat) : Int32 := a + b2i (decide (N (182 + 10 * i + 9) = 0))
theorem copen_eq (h : LD S T X N np nf nx nl yr) : cLand_openCount S = some (fo (opnF N) nx 0 0) := by
  have hc := h.cp
  unfold cLand_openCount
  refine loop_0' (fun f a i => cLand_openCount_L4 S f a i) (opnF N) nx id (by omega) (fun f i a hi => ?_) (fun f a => ?_) 0
  · have h8 : inb (nI i) 20 := nI_inb (by omega) (by decide)
    (try dsimp only)
    rw [cLand_openCount_L4, h.s2, if_neg (nle hi (by omega)), if_pos h8]
    unfold cLand_openCount_J30 opnF
    simp only [bit_eq, Option.bind_some, nI_ix (show i < 2 ^ 31 by omega), nI_1, h.a hi 9 (by decide)]
    by_cases c3 : N (182 + 10 * i + 9) = 0
    · simp [c3]
    · simp [c3]
  · (try dsimp only)
    rw [cLand_openCount_L4, h.s2, if_pos (Int32.le_refl _)]
    rfl
theorem mopen_eq {M : SS} (hn : M 155 2 = nI nx) (hf : nx ≤ 20) : rM_count_L104 FU M 0 0 = some (fo (opnF (M 155)) nx 0 0, M) := by
  refine loop_0' (fun f a i => rM_count_L104 f M a i) (opnF (M 155)) nx (fun a => (a, M)) (by omega) (fun f i a hi => ?_) (fun f a => ?_) 0
  · have h8 : inb (nI i) 20 := nI_inb (by omega) (by decide)
    (try dsimp only)
    rw [rM_count_L104, hn, if_neg (nle hi (by omega))]
    unfold rM_count_J128 opnF
    simp only [isOpen_eq h8, Option.bind_some, nI_ix (show i < 2 ^ 31 by omega), nI_1]
    by_cases c3 : M 155 (182 + 10 * i + 9) = 0
    · simp [c3]
    · simp [c3]
  · (try dsimp only)
    rw [rM_count_L104, hn, if_pos (Int32.le_refl _)]
def stoF (N : Nat → Int32) (a : Int32) (i : Nat) : Int32 := a + N (10 + 10 * i + 6)
theorem cstores_eq (h : LD S T X N np nf nx nl yr) : cLand_allStores S = some (fo (stoF N) np 0 0) := by
  have hc := h.cp
  unfold cLand_allStores
  refine loop_0' (fun f a i => cLand_allStores_L4 S f a i) (stoF N) np id (by omega) (fun f i a hi => ?_) (fun f a => ?_) 0
  · have h8 : inb (nI i) 14 := nI_inb (by omega) (by decide)
    have e2 : S (17 + i) 3 = N (10 + 10 * i + 6) := h.p hi 6 (by decide)
    (try dsimp only)
    rw [cLand_allStores_L4, h.s0, if_neg (nle hi (by omega)), if_pos h8, nI_ix (show i < 2 ^ 31 by omega), nI_1, e2]
    rfl
  · (try dsimp only)
    rw [cLand_allStores_L4, h.s0, if_pos (Int32.le_refl _)]
    rfl
theorem mstores_eq {M : SS} (hn : M 155 0 = nI np) (hf : np ≤ 14) : rM_count_L147 FU M 0 0 = some (fo (stoF (M 155)) np 0 0, M) := by
  refine loop_0' (fun f a i => rM_count_L147 f M a i) (stoF (M 155)) np (fun a => (a, M)) (by omega) (fun f i a hi => ?_) (fun f a => ?_) 0
  · have h8 : inb (nI i) 14 := nI_inb (by omega) (by decide)
    (try dsimp only)
    rw [rM_count_L147, hn, if_neg (nle hi (by omega)), rM_own_6 h8, nI_ix (show i < 2 ^ 31 by omega)]
    simp only [Option.bind_some, nI_1]
    rfl
  · (try dsimp only)
    rw [rM_count_L147, hn, if_pos (Int32.le_refl _)]
end Pure55
theorem sim_personIs (S : SS) (K : KS) (T : TS) (X : XS) (M : SS) (z0 z1 : Int32) (hR : Rel S K T X M) : ∃ p q, cD_personIs S z0 z1 = some p ∧ rM_personIs M z0 z1 = some q ∧ p.1 = q.1 ∧ Rel p.2 K T X q.2 := by
  obtain ⟨np, nf, nx, nl, yr, h⟩ := hR.ld
  have hc := h.cp
  unfold cD_personIs rM_personIs
  rw [cLand_hasPerson_eq h.s0 (by omega), rM_isPerson_eq h.n0 (by omega)]
  by_cases h1 : inb z0 np
  · have h14 := inb_mono h1 hc.1
    have hq := inb_lt h1
    simp only [decide_eq_true h1, Option.bind_some, if_true, if_pos h14, rM_own_0 h14, rM_own_3 h14, rM_own_6 h14, rM_own_8 h14, rM_own_9 h14, found_eq, finds_eq, cowedBy_eq h, cowedTo_eq h, cheld_eq h, mowes_eq h.n2 (by omega), mowedTo_eq h.n2 (by omega), mheld_eq h.n1 (by omega)]
    by_cases c0 : z1 = 0
    · simp only [if_pos c0]; exact ⟨_, _, rfl, rfl, h.p hq 0 (by decide), hR⟩
    by_cases c1 : z1 = 1
    · simp only [if_neg c0, if_pos c1]; exact ⟨_, _, rfl, rfl, h.p hq 3 (by decide), hR⟩
    by_cases c2 : z1 = 2
    · simp only [if_neg c0, if_neg c1, if_pos c2]; exact ⟨_, _, rfl, rfl, h.p hq 6 (by decide), hR⟩
    by_cases c3 : z1 = 3
    · simp only [if_neg c0, if_neg c1, if_neg c2, if_pos c3]; exact ⟨_, _, rfl, rfl, h.p hq 8 (by decide), hR⟩
    by_cases c4 : z1 = 4
    · simp only [if_neg c0, if_neg c1, if_neg c2, if_neg c3, if_pos c4]; exact ⟨_, _, rfl, rfl, rfl, hR⟩
    by_cases c5 : z1 = 5
    · simp only [if_neg c0, if_neg c1, if_neg c2, if_neg c3, if_neg c4, if_pos c5]; exact ⟨_, _, rfl, rfl, rfl, hR⟩
    by_cases c6 : z1 = 6
    · simp only [if_neg c0, if_neg c1, if_neg c2, if_neg c3, if_neg c4, if_neg c5, if_pos c6]; exact ⟨_, _, rfl, rfl, h.p hq 9 (by decide), hR⟩
    by_cases c7 : z1 = 7
    · simp only [if_neg c0, if_neg c1, if_neg c2, if_neg c3, if_neg c4, if_neg c5, if_neg c6, if_pos c7]; exact ⟨_, _, rfl, rfl, rfl, hR⟩
    simp only [if_neg c0, if_neg c1, if_neg c2, if_neg c3, if_neg c4, if_neg c5, if_neg c6, if_neg c7]
    exact ⟨_, _, rfl, rfl, rfl, hR.fnd⟩
  · simp only [decide_eq_false h1, Option.bind_some, Bool.false_eq_true, if_false, found_eq, finds_eq]
    exact ⟨_, _, rfl, rfl, rfl, hR.fnd⟩
theorem sim_count (S : SS) (K : KS) (T : TS) (X : XS) (M : SS) (z1 : Int32) (hR : Rel S K T X M) : ∃ p q, cD_count S z1 = some p ∧ rM_count M z1 = some q ∧ p.1 = q.1 ∧ Rel p.2 K T X q.2 := by
  obtain ⟨np, nf, nx, nl, yr, h⟩ := hR.ld
  have hc := h.cp
  unfold cD_count rM_count
  simp only [Option.bind_some, found_eq, finds_eq, cliving_eq h, copen_eq h, cstores_eq h, mliving_eq h.n0 (by omega), mopen_eq h.n2 (by omega), mstores_eq h.n0 (by omega)]
  by_cases c0 : z1 = 0
  · simp only [if_pos c0]; exact ⟨_, _, rfl, rfl, rfl, hR⟩
  by_cases c1 : z1 = 1
  · simp only [if_neg c0, if_pos c1]; exact ⟨_, _, rfl, rfl, h.s1.trans h.n1.symm, hR⟩
  by_cases c2 : z1 = 2
  · simp only [if_neg c0, if_neg c1, if_pos c2]; exact ⟨_, _, rfl, rfl, h.s2.trans h.n2.symm, hR⟩
  by_cases c3 : z1 = 3
  · simp only [if_neg c0, if_neg c1, if_neg c2, if_pos c3]; exact ⟨_, _, rfl, rfl, rfl, hR⟩
  by_cases c4 : z1 = 4
  · simp only [if_neg c0, if_neg c1, if_neg c2, if_neg c3, if_pos c4]; exact ⟨_, _, rfl, rfl, h.s3.trans h.n3.symm, hR⟩
  by_cases c5 : z1 = 5
  · simp only [if_neg c0, if_neg c1, if_neg c2, if_neg c3, if_neg c4, if_pos c5]; exact ⟨_, _, rfl, rfl, rfl, hR⟩
  by_cases c6 : z1 = 6
  · simp only [if_neg c0, if_neg c1, if_neg c2, if_neg c3, if_neg c4, if_neg c5, if_pos c6]; exact ⟨_, _, rfl, rfl, h.s5, hR⟩
  by_cases c7 : z1 = 7
  · simp only [if_neg c0, if_neg c1, if_neg c2, if_neg c3, if_neg c4, if_neg c5, if_neg c6, if_pos c7]; exact ⟨_, _, rfl, rfl, h.s6, hR⟩
  by_cases c8 : z1 = 8
  · simp only [if_neg c0, if_neg c1, if_neg c2, if_neg c3, if_neg c4, if_neg c5, if_neg c6, if_neg c7, if_pos c8]; exact ⟨_, _, rfl, rfl, hR.2.2.1, hR⟩
  simp only [if_neg c0, if_neg c1, if_neg c2, if_neg c3, if_neg c4, if_neg c5, if_neg c6, if_neg c7, if_neg c8]
  exact ⟨_, _, rfl, rfl, rfl, hR.fnd⟩
theorem sim_paperIs (S : SS) (K : KS) (T : TS) (X : XS) (M : SS) (z0 z1 : Int32) (hR : Rel S K T X M) : ∃ p q, cD_paperIs S z0 z1 = some p ∧ rM_paperIs M z0 z1 = some q ∧ p.1 = q.1 ∧ Rel p.2 K T X q.2 := by
  obtain ⟨np, nf, nx, nl, yr, h⟩ := hR.ld
  have hc := h.cp
  unfold cD_paperIs rM_paperIs rM_paperIs_J27
  rw [cLand_hasPaper_eq h.s2 (by omega), rM_isPaper_eq h.n2 (by omega)]
  by_cases h1 : inb z0 nx
  · have h20 := inb_mono h1 hc.2.2.1
    have hq := inb_lt h1
    simp only [decide_eq_true h1, Option.bind_some, if_true, if_pos h20, in_eq, found_eq, finds_eq]
    by_cases h2 : inb z1 10
    · have h2' : 0 ≤ z1 ∧ z1 ≤ 9 := (inb_lit (by decide)).mpr h2
      simp only [decide_eq_true h2', if_true]
      rcases lits h2 (by decide) with ⟨rfl, -⟩ | ⟨rfl, -⟩ | ⟨rfl, -⟩ | ⟨rfl, -⟩ | ⟨rfl, -⟩ | ⟨rfl, -⟩ | ⟨rfl, -⟩ | ⟨rfl, -⟩ | ⟨rfl, -⟩ | ⟨rfl, -⟩ | ⟨rfl, z⟩ | ⟨rfl, z⟩
      · rw [rM_of_0 h20]; exact ⟨_, _, rfl, rfl, h.a hq 0 (by decide), hR⟩
      · rw [rM_of_1 h20]; exact ⟨_, _, rfl, rfl, h.a hq 1 (by decide), hR⟩
      · rw [rM_of_2 h20]; exact ⟨_, _, rfl, rfl, h.a hq 2 (by decide), hR⟩
      · rw [rM_of_3 h20]; exact ⟨_, _, rfl, rfl, h.a hq 3 (by decide), hR⟩
      · rw [rM_of_4 h20]; exact ⟨_, _, rfl, rfl, h.a hq 4 (by decide), hR⟩
      · rw [rM_of_5 h20]; exact ⟨_, _, rfl, rfl, h.a hq 5 (by decide), hR⟩
      · rw [rM_of_6 h20]; exact ⟨_, _, rfl, rfl, h.a hq 6 (by decide), hR⟩
      · rw [rM_of_7 h20]; exact ⟨_, _, rfl, rfl, h.a hq 7 (by decide), hR⟩
      · rw [rM_of_8 h20]; exact ⟨_, _, rfl, rfl, h.a hq 8 (by decide), hR⟩
      · rw [rM_of_9 h20]; exact ⟨_, _, rfl, rfl, h.a hq 9 (by decide), hR⟩
      · exact absurd z (by decide)
      · exact absurd z (by decide)
    · have h2' : ¬ (0 ≤ z1 ∧ z1 ≤ 9) := fun z => h2 ((inb_lit (by decide)).mp z)
      have nz : ∀ k : Int32, inb k 10 → ¬ z1 = k := fun k hk e => h2 (e ▸ hk)
      simp only [decide_eq_false h2', Bool.false_eq_true, if_false, if_neg (nz 0 (by decide)), if_neg (nz 1 (by decide)), if_neg (nz 2 (by decide)), if_neg (nz 3 (by decide)), if_neg (nz 4 (by decide)), if_neg (nz 5 (by decide)), if_neg (nz 6 (by decide)), if_neg (nz 7 (by decide)), if_neg (nz 8 (by decide)), if_neg (nz 9 (by decide))]
      exact ⟨_, _, rfl, rfl, rfl, hR.fnd⟩
  · simp only [decide_eq_false h1, Option.bind_some, Bool.false_eq_true, if_false, found_eq, finds_eq]
    exact ⟨_, _, rfl, rfl, rfl, hR.fnd⟩
theorem sim_fieldIs (S : SS) (K : KS) (T : TS) (X : XS) (M : SS) (z0 z1 : Int32) (hR : Rel S K T X M) : ∃ p q, cD_fieldIs S z0 z1 = some p ∧ rM_fieldIs M z0 z1 = some q ∧ p.1 = q.1 ∧ Rel p.2 K T X q.2 := by
  obtain ⟨np, nf, nx, nl, yr, h⟩ := hR.ld
  have hc := h.cp
  unfold cD_fieldIs rM_fieldIs rM_fieldIs_J26
  rw [cLand_hasField_eq h.s1 (by omega), rM_isField_eq h.n1 (by omega)]
  by_cases h1 : inb z0 nf
  · have h20 := inb_mono h1 hc.2.1
    have hq := inb_lt h1
    have e3 : S (31 + ix z0) 3 = M 155 (150 + 4 * ix z0 + 3) := h.f hq 3 (by decide)
    have o3 : M 155 (150 + 4 * ix z0 + 3) = 0 ∨ M 155 (150 + 4 * ix z0 + 3) = 1 := h.okf hq 3 (by decide)
    simp only [decide_eq_true h1, Option.bind_some, if_true, if_pos h20, in_eq, found_eq, finds_eq, e3, if_pos o3, bit_eq]
    by_cases h2 : inb z1 4
    · have h2' : 0 ≤ z1 ∧ z1 ≤ 3 := (inb_lit (by decide)).mpr h2
      simp only [decide_eq_true h2', if_true]
      rcases lits h2 (by decide) with ⟨rfl, -⟩ | ⟨rfl, -⟩ | ⟨rfl, -⟩ | ⟨rfl, -⟩ | ⟨rfl, z⟩ | ⟨rfl, z⟩ | ⟨rfl, z⟩ | ⟨rfl, z⟩ | ⟨rfl, z⟩ | ⟨rfl, z⟩ | ⟨rfl, z⟩ | ⟨rfl, z⟩
      · rw [rM_ofField_0 h20]; exact ⟨_, _, rfl, rfl, h.f hq 0 (by decide), hR⟩
      · rw [rM_ofField_1 h20]; exact ⟨_, _, rfl, rfl, h.f hq 1 (by decide), hR⟩
      · rw [rM_ofField_2 h20]; exact ⟨_, _, rfl, rfl, h.f hq 2 (by decide), hR⟩
      · rw [rM_ofField_3 h20]; exact ⟨_, _, rfl, rfl, (z01 o3).symm, hR⟩
      all_goals exact absurd z (by decide)
    · have h2' : ¬ (0 ≤ z1 ∧ z1 ≤ 3) := fun z => h2 ((inb_lit (by decide)).mp z)
      have nz : ∀ k : Int32, inb k 4 → ¬ z1 = k := fun k hk e => h2 (e ▸ hk)
      simp only [decide_eq_false h2', Bool.false_eq_true, if_false, if_neg (nz 0 (by decide)), if_neg (nz 1 (by decide)), if_neg (nz 2 (by decide)), if_neg (nz 3 (by decide))]
      exact ⟨_, _, rfl, rfl, rfl, hR.fnd⟩
  · simp only [decide_eq_false h1, Option.bind_some, Bool.false_eq_true, if_false, found_eq, finds_eq]
    exact ⟨_, _, rfl, rfl, rfl, hR.fnd⟩
