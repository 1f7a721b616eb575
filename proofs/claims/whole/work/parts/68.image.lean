/-! ===== image, restore ===== -/
theorem pbec {A : SS} {a0 a1 : Nat} (h : a1 ≠ a0) (h8 : A a1 8 = 0 ∨ A a1 8 = 1) (h9 : A a1 9 = 0 ∨ A a1 9 = 1) : ∃ A', cPerson_become A a0 a1 = some A' ∧ (∀ x, x ≠ a0 → A' x = A x) ∧ ∀ j, j < 10 → A' a0 j = A a1 j := by
  unfold cPerson_become cPerson_begin
  simp only [Option.bind_some, up_x h, if_pos h8, if_pos h9]
  refine ⟨_, rfl, fun x hx => ?_, fun j hj => ?_⟩
  · rw [up_o hx, up_o hx, up_o hx, up_o hx, up_o hx, up_o hx, up_o hx, up_o hx, up_o hx, up_o hx, up_o hx, up_o hx, up_o hx, up_o hx, up_o hx, up_o hx]
  · simp only [u1]
    have hw' : j = 0 ∨ j = 1 ∨ j = 2 ∨ j = 3 ∨ j = 4 ∨ j = 5 ∨ j = 6 ∨ j = 7 ∨ j = 8 ∨ j = 9 := by omega
    rcases hw' with rfl | rfl | rfl | rfl | rfl | rfl | rfl | rfl | rfl | rfl <;> simp
theorem fbec {A : SS} {a0 a1 : Nat} (h : a1 ≠ a0) (h3 : A a1 3 = 0 ∨ A a1 3 = 1) : ∃ A', cField_become A a0 a1 = some A' ∧ (∀ x, x ≠ a0 → A' x = A x) ∧ ∀ j, j < 4 → A' a0 j = A a1 j := by
  unfold cField_become cField_begin
  simp only [Option.bind_some, up_x h, if_pos h3]
  refine ⟨_, rfl, fun x hx => ?_, fun j hj => ?_⟩
  · rw [up_o hx, up_o hx, up_o hx, up_o hx, up_o hx]
  · simp only [u1]
    have hw' : j = 0 ∨ j = 1 ∨ j = 2 ∨ j = 3 := by omega
    rcases hw' with rfl | rfl | rfl | rfl
    · simp
    · simp
    · simp
    · simp only [show ¬ (3 = 2) by decide, if_false, if_true]
      exact (z01 h3).symm
theorem abec {A : SS} {a0 a1 : Nat} (h : a1 ≠ a0) : ∃ A', cPaper_become A a0 a1 = some A' ∧ (∀ x, x ≠ a0 → A' x = A x) ∧ ∀ j, j < 10 → A' a0 j = A a1 j := by
  unfold cPaper_become cPaper_begin
  simp only [Option.bind_some, up_x h]
  refine ⟨_, rfl, fun x hx => ?_, fun j hj => ?_⟩
  · rw [up_o hx, up_o hx, up_o hx, up_o hx, up_o hx, up_o hx, up_o hx, up_o hx, up_o hx, up_o hx, up_o hx, up_o hx, up_o hx, up_o hx]
  · simp only [u1]
    have hw' : j = 0 ∨ j = 1 ∨ j = 2 ∨ j = 3 ∨ j = 4 ∨ j = 5 ∨ j = 6 ∨ j = 7 ∨ j = 8 ∨ j = 9 := by omega
    rcases hw' with rfl | rfl | rfl | rfl | rfl | rfl | rfl | rfl | rfl | rfl <;> simp
/-- so much of a land is copied: from c to b -/
def bcI (b c : Nat) (S : SS) (np nf nx nl : Nat) (A : SS) : Prop := (∀ x, (x < b ∨ b + 62 ≤ x) → A x = S x) ∧ ∀ a, lvA np nf nx nl a → A (b + rg a) (sl a) = S (c + rg a) (sl a)
theorem bcI.stepP {b c np : Nat} {S A A' : SS} (h : bcI b c S np 0 0 0 A) (hn : np < 14) (h1 : ∀ x, x ≠ b + (8 + np) → A' x = A x) (h2 : ∀ j, j < 10 → A' (b + (8 + np)) j = S (c + (8 + np)) j) : bcI b c S (np + 1) 0 0 0 A' := by
  refine ⟨fun x hx => by rw [h1 x (by omega)]; exact h.1 x hx, fun a ha => ?_⟩
  by_cases e : rg a = 8 + np
  · rw [e]
    have hr := rgP_of hn e
    obtain ⟨w, hw, rfl⟩ : ∃ w, w < 10 ∧ a = 10 + 10 * np + w := ⟨a - (10 + 10 * np), by omega, by omega⟩
    rw [(rgP hn hw).2]
    refine h2 _ ?_
    unfold pv
    split <;> decide
  · rw [h1 _ (by omega)]
    refine h.2 a ?_
    unfold lvA at ha ⊢
    have : ¬ (10 + 10 * np ≤ a ∧ a < 20 + 10 * np) := fun z => e (by
      obtain ⟨w, hw, rfl⟩ : ∃ w, w < 10 ∧ a = 10 + 10 * np + w := ⟨a - (10 + 10 * np), by omega, by omega⟩
      exact (rgP hn hw).1)
    omega
theorem bcI.stepF {b c np nf : Nat} {S A A' : SS} (h : bcI b c S np nf 0 0 A) (hn : nf < 8) (h1 : ∀ x, x ≠ b + (22 + nf) → A' x = A x) (h2 : ∀ j, j < 4 → A' (b + (22 + nf)) j = S (c + (22 + nf)) j) : bcI b c S np (nf + 1) 0 0 A' := by
  refine ⟨fun x hx => by rw [h1 x (by omega)]; exact h.1 x hx, fun a ha => ?_⟩
  by_cases e : rg a = 22 + nf
  · rw [e]
    have hr := rgF_of hn e
    obtain ⟨w, hw, rfl⟩ : ∃ w, w < 4 ∧ a = 150 + 4 * nf + w := ⟨a - (150 + 4 * nf), by omega, by omega⟩
    rw [(rgF hn hw).2]
    refine h2 _ ?_
    unfold fv
    split <;> decide
  · rw [h1 _ (by omega)]
    refine h.2 a ?_
    unfold lvA at ha ⊢
    have : ¬ (150 + 4 * nf ≤ a ∧ a < 154 + 4 * nf) := fun z => e (by
      obtain ⟨w, hw, rfl⟩ : ∃ w, w < 4 ∧ a = 150 + 4 * nf + w := ⟨a - (150 + 4 * nf), by omega, by omega⟩
      exact (rgF hn hw).1)
    omega
theorem bcI.stepA {b c np nf nx : Nat} {S A A' : SS} (h : bcI b c S np nf nx 0 A) (hn : nx < 20) (h1 : ∀ x, x ≠ b + (30 + nx) → A' x = A x) (h2 : ∀ j, j < 10 → A' (b + (30 + nx)) j = S (c + (30 + nx)) j) : bcI b c S np nf (nx + 1) 0 A' := by
  refine ⟨fun x hx => by rw [h1 x (by omega)]; exact h.1 x hx, fun a ha => ?_⟩
  by_cases e : rg a = 30 + nx
  · rw [e]
    have hr := rgA_of hn e
    obtain ⟨w, hw, rfl⟩ : ∃ w, w < 10 ∧ a = 182 + 10 * nx + w := ⟨a - (182 + 10 * nx), by omega, by omega⟩
    rw [(rgA hn hw).2]
    exact h2 _ hw
  · rw [h1 _ (by omega)]
    refine h.2 a ?_
    unfold lvA at ha ⊢
    have : ¬ (182 + 10 * nx ≤ a ∧ a < 192 + 10 * nx) := fun z => e (by
      obtain ⟨w, hw, rfl⟩ : ∃ w, w < 10 ∧ a = 182 + 10 * nx + w := ⟨a - (182 + 10 * nx), by omega, by omega⟩
      exact (rgA hn hw).1)
    omega
theorem bcI.stepL {b c np nf nx nl : Nat} {S A A' : SS} (h : bcI b c S np nf nx nl A) (hc : caps np nf nx nl) (hn : nl < 12) (h1 : ∀ x, x ≠ b + (50 + nl) → A' x = A x) (h2 : ∀ j, j = 1 ∨ j = 2 → A' (b + (50 + nl)) j = S (c + (50 + nl)) j) : bcI b c S np nf nx (nl + 1) A' := by
  refine ⟨fun x hx => by rw [h1 x (by omega)]; exact h.1 x hx, fun a ha => ?_⟩
  have hl := lvA_lt (nl := nl + 1) ⟨hc.1, hc.2.1, hc.2.2.1, by omega⟩ ha
  by_cases e : rg a = 50 + nl
  · rw [e]
    have hr := rgL_of hn e hl.1
    obtain ⟨w, hw, rfl⟩ : ∃ w, w < 2 ∧ a = 382 + 2 * nl + w := ⟨a - (382 + 2 * nl), by omega, by omega⟩
    rw [(rgL hw).2]
    exact h2 _ (by omega)
  · rw [h1 _ (by omega)]
    refine h.2 a ?_
    unfold lvA at ha ⊢
    have : ¬ (382 + 2 * nl ≤ a ∧ a < 384 + 2 * nl) := fun z => e (by
      obtain ⟨w, hw, rfl⟩ : ∃ w, w < 2 ∧ a = 382 + 2 * nl + w := ⟨a - (382 + 2 * nl), by omega, by omega⟩
      exact (rgL hw).1)
    omega
theorem become_k {S : SS} {T : TS} {X : XS} {N : Nat → Int32} (hL : LRel 9 S T X N) : ∃ A U, cLand_become_k S T X = some (A, U) ∧ LRel 71 A U X N ∧ (∀ x, (x < 71 ∨ 71 + 62 ≤ x) → A x = S x) ∧ ∀ x, (x < 71 ∨ 71 + 62 ≤ x) → U x = T x := by
  obtain ⟨np, nf, nx, nl, yr, hI, hE, hT⟩ := hL
  have hc := hI.1
  have hcc := hc
  unfold caps at hcc
  unfold cLand_become_k
  rw [if_pos (by decide)]
  have n0 : S 9 7 = nI np := (hE 0 (Or.inl (by omega))).trans hI.2.2.1
  have n1 : S 9 8 = nI nf := (hE 1 (Or.inl (by omega))).trans hI.2.2.2.1
  have n2 : S 9 9 = nI nx := (hE 2 (Or.inl (by omega))).trans hI.2.2.2.2.1
  have n4 : S 9 10 = nI nl := (hE 4 (Or.inl (by omega))).trans hI.2.2.2.2.2.2.1
  generalize hA0 : cpS (up _ 71 13 _) _ _ _ _ _ = A0
  have hI0 : bcI 71 9 S 0 0 0 0 A0 := by
    rw [← hA0]
    simp only [up_x (show 9 ≠ 71 by decide)]
    refine ⟨fun x hx => funext fun j => ?_, fun a ha => ?_⟩
    · unfold cpS
      rw [if_neg (by omega), up_x (by omega), up_x (by omega), up_x (by omega), up_x (by omega), up_x (by omega), up_x (by omega), up_x (by omega)]
    · have ha9 : a = 0 ∨ a = 1 ∨ a = 2 ∨ a = 3 ∨ a = 4 ∨ a = 5 ∨ a = 6 ∨ a = 7 ∨ a = 8 := by
        unfold lvA at ha
        omega
      rcases ha9 with rfl | rfl | rfl | rfl | rfl | rfl | rfl | rfl | rfl <;> rfl
  -- persons
  obtain ⟨A1, e1, I1⟩ := loop_e0 (fun f A i => cLand_become_k_L72 X f A T i) np (fun A => cLand_become_k_L103 X FU A T 0) (fun i A => bcI 71 9 S i 0 0 0 A) (by omega) (fun f i A hi hIA => by
    have h14 : inb (nI i) 14 := nI_inb (by omega) (by decide)
    have k0 : A 71 7 = nI np := (hIA.2 0 (Or.inl (by omega))).trans n0
    have es : ∀ j, A (9 + (8 + i)) j = S (9 + (8 + i)) j := fun j => by rw [hIA.1 _ (by omega)]
    have o4 : okP i 4 (N (10 + 10 * i + 4)) := hI.2.2.2.2.2.2.2.2.2.1 i hi 4 (by decide)
    have o5 : okP i 5 (N (10 + 10 * i + 5)) := hI.2.2.2.2.2.2.2.2.2.1 i hi 5 (by decide)
    rw [← hE.P hc hi 4 (by decide)] at o4
    rw [← hE.P hc hi 5 (by decide)] at o5
    obtain ⟨A', b1, b2, b3⟩ := pbec (A := A) (a0 := 71 + (8 + i)) (a1 := 9 + (8 + i)) (by omega) (by rw [es]; exact o4) (by rw [es]; exact o5)
    refine ⟨A', ?_, hIA.stepP (by omega) b2 (fun j hj => by rw [b3 j hj, es])⟩
    show cLand_become_k_L72 X (f + 1) A T (nI i) = _
    rw [cLand_become_k_L72, k0, if_neg (nle hi (by omega)), if_pos h14, nI_ix (by omega), show 79 + i = 71 + (8 + i) by omega, show 17 + i = 9 + (8 + i) by omega, b1]
    simp only [Option.bind_some, nI_1]) (fun f A hIA => by
    have k0 : A 71 7 = nI np := (hIA.2 0 (Or.inl (by omega))).trans n0
    show cLand_become_k_L72 X (f + 1) A T (nI np) = _
    rw [cLand_become_k_L72, k0, if_pos (Int32.le_refl _)]) A0 hI0
  -- fields
  obtain ⟨A2, e2, I2⟩ := loop_e0 (fun f A i => cLand_become_k_L103 X f A T i) nf (fun A => cLand_become_k_L134 X FU A T 0) (fun i A => bcI 71 9 S np i 0 0 A) (by omega) (fun f i A hi hIA => by
    have h8 : inb (nI i) 8 := nI_inb (by omega) (by decide)
    have k0 : A 71 8 = nI nf := (hIA.2 1 (Or.inl (by omega))).trans n1
    have es : ∀ j, A (9 + (22 + i)) j = S (9 + (22 + i)) j := fun j => by rw [hIA.1 _ (by omega)]
    have o3 : okF np 3 (N (150 + 4 * i + 3)) := hI.2.2.2.2.2.2.2.2.2.2.1 i hi 3 (by decide)
    rw [← hE.F hc hi 3 (by decide)] at o3
    obtain ⟨A', b1, b2, b3⟩ := fbec (A := A) (a0 := 71 + (22 + i)) (a1 := 9 + (22 + i)) (by omega) (by rw [es]; exact o3)
    refine ⟨A', ?_, hIA.stepF (by omega) b2 (fun j hj => by rw [b3 j hj, es])⟩
    show cLand_become_k_L103 X (f + 1) A T (nI i) = _
    rw [cLand_become_k_L103, k0, if_neg (nle hi (by omega)), if_pos h8, nI_ix (by omega), show 93 + i = 71 + (22 + i) by omega, show 31 + i = 9 + (22 + i) by omega, b1]
    simp only [Option.bind_some, nI_1]) (fun f A hIA => by
    have k0 : A 71 8 = nI nf := (hIA.2 1 (Or.inl (by omega))).trans n1
    show cLand_become_k_L103 X (f + 1) A T (nI nf) = _
    rw [cLand_become_k_L103, k0, if_pos (Int32.le_refl _)]) A1 I1
  -- papers
  obtain ⟨A3, e3, I3⟩ := loop_e0 (fun f A i => cLand_become_k_L134 X f A T i) nx (fun A => cLand_become_k_L165 X FU A T 0) (fun i A => bcI 71 9 S np nf i 0 A) (by omega) (fun f i A hi hIA => by
    have h8 : inb (nI i) 20 := nI_inb (by omega) (by decide)
    have k0 : A 71 9 = nI nx := (hIA.2 2 (Or.inl (by omega))).trans n2
    have es : ∀ j, A (9 + (30 + i)) j = S (9 + (30 + i)) j := fun j => by rw [hIA.1 _ (by omega)]
    obtain ⟨A', b1, b2, b3⟩ := abec (A := A) (a0 := 71 + (30 + i)) (a1 := 9 + (30 + i)) (by omega)
    refine ⟨A', ?_, hIA.stepA (by omega) b2 (fun j hj => by rw [b3 j hj, es])⟩
    show cLand_become_k_L134 X (f + 1) A T (nI i) = _
    rw [cLand_become_k_L134, k0, if_neg (nle hi (by omega)), if_pos h8, nI_ix (by omega), show 101 + i = 71 + (30 + i) by omega, show 39 + i = 9 + (30 + i) by omega, b1]
    simp only [Option.bind_some, nI_1]) (fun f A hIA => by
    have k0 : A 71 9 = nI nx := (hIA.2 2 (Or.inl (by omega))).trans n2
    show cLand_become_k_L134 X (f + 1) A T (nI nx) = _
    rw [cLand_become_k_L134, k0, if_pos (Int32.le_refl _)]) A2 I2
  -- laws
  obtain ⟨⟨A4, U4⟩, e4, I4, J4, V4⟩ := loop_e0 (fun f (Z : SS × TS) i => cLand_become_k_L165 X f Z.1 Z.2 i) nl (fun Z => cLand_become_k_L217 X FU Z.1 Z.2 0) (fun i Z => bcI 71 9 S np nf nx i Z.1 ∧ (∀ x, (x < 71 + 50 ∨ 71 + 62 ≤ x) → Z.2 x = T x) ∧ ∀ q, q < i → Z.2 (71 + (50 + q)) 0 = T (9 + (50 + q)) 0) (by omega) (fun f i Z hi hIA => by
    obtain ⟨A, U⟩ := Z
    obtain ⟨g1, g2, g3⟩ := hIA
    dsimp only at g1 g2 g3
    have h8 : inb (nI i) 12 := nI_inb (by omega) (by decide)
    have k0 : A 71 10 = nI nl := (g1.2 4 (Or.inl (by omega))).trans n4
    have es : ∀ j, A (9 + (50 + i)) j = S (9 + (50 + i)) j := fun j => by rw [g1.1 _ (by omega)]
    have et : U (9 + (50 + i)) = T (9 + (50 + i)) := g2 _ (by omega)
    refine ⟨(up (up A (71 + (50 + i)) 1 (A (9 + (50 + i)) 1)) (71 + (50 + i)) 2 (A (9 + (50 + i)) 2), upTT U (71 + (50 + i)) 0 (U (9 + (50 + i)) 0)), ?_, g1.stepL ⟨hcc.1, hcc.2.1, hcc.2.2.1, by omega⟩ (by omega) (fun x hx => by dsimp only; rw [up_o hx, up_o hx]) (fun j hj => ?_), fun x hx => ?_, fun q hq => ?_⟩
    · show cLand_become_k_L165 X (f + 1) A U (nI i) = _
      rw [cLand_become_k_L165, k0, if_neg (nle hi (by omega)), if_pos h8, nI_ix (by omega), show 121 + i = 71 + (50 + i) by omega, show 59 + i = 9 + (50 + i) by omega]
      unfold cLaw_begin
      simp only [Option.bind_some, nI_1]
    · dsimp only
      rcases hj with rfl | rfl
      · rw [up_j (by decide), up_s, es]
      · rw [up_s, es]
    · dsimp only
      rw [← g2 x hx]
      funext j
      unfold upTT
      rw [if_neg (by omega)]
    · dsimp only
      unfold upTT
      by_cases eq : q = i
      · subst eq
        rw [if_pos ⟨rfl, rfl⟩, et]
      · rw [if_neg (by omega)]
        exact g3 q (by omega)) (fun f Z hIA => by
    obtain ⟨A, U⟩ := Z
    have k0 : A 71 10 = nI nl := (hIA.1.2 4 (Or.inl (by omega))).trans n4
    show cLand_become_k_L165 X (f + 1) A U (nI nl) = _
    rw [cLand_become_k_L165, k0, if_pos (Int32.le_refl _)]) (A3, T) ⟨I3, fun _ _ => rfl, fun q hq => absurd hq (by omega)⟩
  dsimp only at e4 I4 J4 V4
  -- texts
  obtain ⟨U5, e5, J5, V5, W5⟩ := loop_e0 (fun f U i => cLand_become_k_L217 X f A4 U i) 5 (fun U => some (A4, U)) (fun i U => (∀ x, x ≠ 71 + 5 → U x = U4 x) ∧ (∀ t, t < i → U (71 + 5) t = T (9 + 5) t) ∧ True) (by decide) (fun f i U hi hIA => by
    obtain ⟨g1, g2, -⟩ := hIA
    have h8 : inb (nI i) 5 := nI_inb (by omega) (by decide)
    have et : U (9 + 5) = T (9 + 5) := by rw [g1 _ (by omega), J4 _ (by omega)]
    have ok : T (9 + 5) i = 0 ∨ tok X (T (9 + 5) i) := by
      rcases hT.1 i hi with ⟨z, -⟩ | z
      · exact Or.inl z
      · exact Or.inr z.1
    refine ⟨upTT U (71 + 5) i (T (9 + 5) i), ?_, fun x hx => ?_, fun t ht => ?_, trivial⟩
    · show cLand_become_k_L217 X (f + 1) A4 U (nI i) = _
      rw [cLand_become_k_L217, if_neg (show ¬ (5 : Int32) ≤ nI i from nle (n := 5) hi (by decide)), if_pos h8, nI_ix (by omega), show U 14 i = T (9 + 5) i from congrFun et i, if_pos ok, nI_1]
    · rw [← g1 x hx]
      funext j
      unfold upTT
      rw [if_neg (by omega)]
    · unfold upTT
      by_cases eq : t = i
      · subst eq
        rw [if_pos ⟨rfl, rfl⟩]
      · rw [if_neg (by omega)]
        exact g2 t (by omega)) (fun f U hIA => by
    show cLand_become_k_L217 X (f + 1) A4 U (nI 5) = _
    rw [cLand_become_k_L217, if_pos (show (5 : Int32) ≤ nI 5 by decide)]) U4 ⟨fun _ _ => rfl, fun t ht => absurd ht (by omega), trivial⟩
  refine ⟨A4, U5, ?_, ⟨np, nf, nx, nl, yr, hI, fun a ha => (I4.2 a ha).trans (hE a ha), ?_⟩, I4.1, fun x hx => ?_⟩
  · rw [show cLand_become_k_L72 X FU A0 T 0 = _ from e1, show cLand_become_k_L103 X FU A1 T 0 = _ from e2, show cLand_become_k_L134 X FU A2 T 0 = _ from e3, show cLand_become_k_L165 X FU A3 T 0 = _ from e4]
    exact e5
  · have hx : ∀ x, 172 ≤ x → x < 172 + X.2 → A4 x = S x := fun x g1 g2 => I4.1 x (by omega)
    have hF := hT.frame (S' := A4) hx (fun _ _ => rfl)
    refine ⟨fun t ht => ?_, fun q hq => ?_⟩
    · rw [V5 t ht]
      exact hF.1 t ht
    · rw [J5 _ (by omega), V4 q hq]
      exact hF.2 q hq
  · rw [J5 x (by omega), J4 x (by omega)]
theorem become {S : SS} {T : TS} {X : XS} {N : Nat → Int32} (hL : LRel 71 S T X N) : ∃ A U, cLand_become S T X = some (A, U) ∧ LRel 9 A U X N ∧ (∀ x, (x < 9 ∨ 9 + 62 ≤ x) → A x = S x) ∧ ∀ x, (x < 9 ∨ 9 + 62 ≤ x) → U x = T x := by
  obtain ⟨np, nf, nx, nl, yr, hI, hE, hT⟩ := hL
  have hc := hI.1
  have hcc := hc
  unfold caps at hcc
  unfold cLand_become
  rw [if_pos (by decide)]
  have n0 : S 71 7 = nI np := (hE 0 (Or.inl (by omega))).trans hI.2.2.1
  have n1 : S 71 8 = nI nf := (hE 1 (Or.inl (by omega))).trans hI.2.2.2.1
  have n2 : S 71 9 = nI nx := (hE 2 (Or.inl (by omega))).trans hI.2.2.2.2.1
  have n4 : S 71 10 = nI nl := (hE 4 (Or.inl (by omega))).trans hI.2.2.2.2.2.2.1
  generalize hA0 : cpS (up _ 9 13 _) _ _ _ _ _ = A0
  have hI0 : bcI 9 71 S 0 0 0 0 A0 := by
    rw [← hA0]
    simp only [up_x (show 71 ≠ 9 by decide)]
    refine ⟨fun x hx => funext fun j => ?_, fun a ha => ?_⟩
    · unfold cpS
      rw [if_neg (by omega), up_x (by omega), up_x (by omega), up_x (by omega), up_x (by omega), up_x (by omega), up_x (by omega), up_x (by omega)]
    · have ha9 : a = 0 ∨ a = 1 ∨ a = 2 ∨ a = 3 ∨ a = 4 ∨ a = 5 ∨ a = 6 ∨ a = 7 ∨ a = 8 := by
        unfold lvA at ha
        omega
      rcases ha9 with rfl | rfl | rfl | rfl | rfl | rfl | rfl | rfl | rfl <;> rfl
  -- persons
  obtain ⟨A1, e1, I1⟩ := loop_e0 (fun f A i => cLand_become_L72 X f A T i) np (fun A => cLand_become_L103 X FU A T 0) (fun i A => bcI 9 71 S i 0 0 0 A) (by omega) (fun f i A hi hIA => by
    have h14 : inb (nI i) 14 := nI_inb (by omega) (by decide)
    have k0 : A 9 7 = nI np := (hIA.2 0 (Or.inl (by omega))).trans n0
    have es : ∀ j, A (71 + (8 + i)) j = S (71 + (8 + i)) j := fun j => by rw [hIA.1 _ (by omega)]
    have o4 : okP i 4 (N (10 + 10 * i + 4)) := hI.2.2.2.2.2.2.2.2.2.1 i hi 4 (by decide)
    have o5 : okP i 5 (N (10 + 10 * i + 5)) := hI.2.2.2.2.2.2.2.2.2.1 i hi 5 (by decide)
    rw [← hE.P hc hi 4 (by decide)] at o4
    rw [← hE.P hc hi 5 (by decide)] at o5
    obtain ⟨A', b1, b2, b3⟩ := pbec (A := A) (a0 := 9 + (8 + i)) (a1 := 71 + (8 + i)) (by omega) (by rw [es]; exact o4) (by rw [es]; exact o5)
    refine ⟨A', ?_, hIA.stepP (by omega) b2 (fun j hj => by rw [b3 j hj, es])⟩
    show cLand_become_L72 X (f + 1) A T (nI i) = _
    rw [cLand_become_L72, k0, if_neg (nle hi (by omega)), if_pos h14, nI_ix (by omega), show 17 + i = 9 + (8 + i) by omega, show 79 + i = 71 + (8 + i) by omega, b1]
    simp only [Option.bind_some, nI_1]) (fun f A hIA => by
    have k0 : A 9 7 = nI np := (hIA.2 0 (Or.inl (by omega))).trans n0
    show cLand_become_L72 X (f + 1) A T (nI np) = _
    rw [cLand_become_L72, k0, if_pos (Int32.le_refl _)]) A0 hI0
  -- fields
  obtain ⟨A2, e2, I2⟩ := loop_e0 (fun f A i => cLand_become_L103 X f A T i) nf (fun A => cLand_become_L134 X FU A T 0) (fun i A => bcI 9 71 S np i 0 0 A) (by omega) (fun f i A hi hIA => by
    have h8 : inb (nI i) 8 := nI_inb (by omega) (by decide)
    have k0 : A 9 8 = nI nf := (hIA.2 1 (Or.inl (by omega))).trans n1
    have es : ∀ j, A (71 + (22 + i)) j = S (71 + (22 + i)) j := fun j => by rw [hIA.1 _ (by omega)]
    have o3 : okF np 3 (N (150 + 4 * i + 3)) := hI.2.2.2.2.2.2.2.2.2.2.1 i hi 3 (by decide)
    rw [← hE.F hc hi 3 (by decide)] at o3
    obtain ⟨A', b1, b2, b3⟩ := fbec (A := A) (a0 := 9 + (22 + i)) (a1 := 71 + (22 + i)) (by omega) (by rw [es]; exact o3)
    refine ⟨A', ?_, hIA.stepF (by omega) b2 (fun j hj => by rw [b3 j hj, es])⟩
    show cLand_become_L103 X (f + 1) A T (nI i) = _
    rw [cLand_become_L103, k0, if_neg (nle hi (by omega)), if_pos h8, nI_ix (by omega), show 31 + i = 9 + (22 + i) by omega, show 93 + i = 71 + (22 + i) by omega, b1]
    simp only [Option.bind_some, nI_1]) (fun f A hIA => by
    have k0 : A 9 8 = nI nf := (hIA.2 1 (Or.inl (by omega))).trans n1
    show cLand_become_L103 X (f + 1) A T (nI nf) = _
    rw [cLand_become_L103, k0, if_pos (Int32.le_refl _)]) A1 I1
  -- papers
  obtain ⟨A3, e3, I3⟩ := loop_e0 (fun f A i => cLand_become_L134 X f A T i) nx (fun A => cLand_become_L165 X FU A T 0) (fun i A => bcI 9 71 S np nf i 0 A) (by omega) (fun f i A hi hIA => by
    have h8 : inb (nI i) 20 := nI_inb (by omega) (by decide)
    have k0 : A 9 9 = nI nx := (hIA.2 2 (Or.inl (by omega))).trans n2
    have es : ∀ j, A (71 + (30 + i)) j = S (71 + (30 + i)) j := fun j => by rw [hIA.1 _ (by omega)]
    obtain ⟨A', b1, b2, b3⟩ := abec (A := A) (a0 := 9 + (30 + i)) (a1 := 71 + (30 + i)) (by omega)
    refine ⟨A', ?_, hIA.stepA (by omega) b2 (fun j hj => by rw [b3 j hj, es])⟩
    show cLand_become_L134 X (f + 1) A T (nI i) = _
    rw [cLand_become_L134, k0, if_neg (nle hi (by omega)), if_pos h8, nI_ix (by omega), show 39 + i = 9 + (30 + i) by omega, show 101 + i = 71 + (30 + i) by omega, b1]
    simp only [Option.bind_some, nI_1]) (fun f A hIA => by
    have k0 : A 9 9 = nI nx := (hIA.2 2 (Or.inl (by omega))).trans n2
    show cLand_become_L134 X (f + 1) A T (nI nx) = _
    rw [cLand_become_L134, k0, if_pos (Int32.le_refl _)]) A2 I2
  -- laws
  obtain ⟨⟨A4, U4⟩, e4, I4, J4, V4⟩ := loop_e0 (fun f (Z : SS × TS) i => cLand_become_L165 X f Z.1 Z.2 i) nl (fun Z => cLand_become_L217 X FU Z.1 Z.2 0) (fun i Z => bcI 9 71 S np nf nx i Z.1 ∧ (∀ x, (x < 9 + 50 ∨ 9 + 62 ≤ x) → Z.2 x = T x) ∧ ∀ q, q < i → Z.2 (9 + (50 + q)) 0 = T (71 + (50 + q)) 0) (by omega) (fun f i Z hi hIA => by
    obtain ⟨A, U⟩ := Z
    obtain ⟨g1, g2, g3⟩ := hIA
    dsimp only at g1 g2 g3
    have h8 : inb (nI i) 12 := nI_inb (by omega) (by decide)
    have k0 : A 9 10 = nI nl := (g1.2 4 (Or.inl (by omega))).trans n4
    have es : ∀ j, A (71 + (50 + i)) j = S (71 + (50 + i)) j := fun j => by rw [g1.1 _ (by omega)]
    have et : U (71 + (50 + i)) = T (71 + (50 + i)) := g2 _ (by omega)
    refine ⟨(up (up A (9 + (50 + i)) 1 (A (71 + (50 + i)) 1)) (9 + (50 + i)) 2 (A (71 + (50 + i)) 2), upTT U (9 + (50 + i)) 0 (U (71 + (50 + i)) 0)), ?_, g1.stepL ⟨hcc.1, hcc.2.1, hcc.2.2.1, by omega⟩ (by omega) (fun x hx => by dsimp only; rw [up_o hx, up_o hx]) (fun j hj => ?_), fun x hx => ?_, fun q hq => ?_⟩
    · show cLand_become_L165 X (f + 1) A U (nI i) = _
      rw [cLand_become_L165, k0, if_neg (nle hi (by omega)), if_pos h8, nI_ix (by omega), show 59 + i = 9 + (50 + i) by omega, show 121 + i = 71 + (50 + i) by omega]
      unfold cLaw_begin
      simp only [Option.bind_some, nI_1]
    · dsimp only
      rcases hj with rfl | rfl
      · rw [up_j (by decide), up_s, es]
      · rw [up_s, es]
    · dsimp only
      rw [← g2 x hx]
      funext j
      unfold upTT
      rw [if_neg (by omega)]
    · dsimp only
      unfold upTT
      by_cases eq : q = i
      · subst eq
        rw [if_pos ⟨rfl, rfl⟩, et]
      · rw [if_neg (by omega)]
        exact g3 q (by omega)) (fun f Z hIA => by
    obtain ⟨A, U⟩ := Z
    have k0 : A 9 10 = nI nl := (hIA.1.2 4 (Or.inl (by omega))).trans n4
    show cLand_become_L165 X (f + 1) A U (nI nl) = _
    rw [cLand_become_L165, k0, if_pos (Int32.le_refl _)]) (A3, T) ⟨I3, fun _ _ => rfl, fun q hq => absurd hq (by omega)⟩
  dsimp only at e4 I4 J4 V4
  -- texts
  obtain ⟨U5, e5, J5, V5, W5⟩ := loop_e0 (fun f U i => cLand_become_L217 X f A4 U i) 5 (fun U => some (A4, U)) (fun i U => (∀ x, x ≠ 9 + 5 → U x = U4 x) ∧ (∀ t, t < i → U (9 + 5) t = T (71 + 5) t) ∧ True) (by decide) (fun f i U hi hIA => by
    obtain ⟨g1, g2, -⟩ := hIA
    have h8 : inb (nI i) 5 := nI_inb (by omega) (by decide)
    have et : U (71 + 5) = T (71 + 5) := by rw [g1 _ (by omega), J4 _ (by omega)]
    have ok : T (71 + 5) i = 0 ∨ tok X (T (71 + 5) i) := by
      rcases hT.1 i hi with ⟨z, -⟩ | z
      · exact Or.inl z
      · exact Or.inr z.1
    refine ⟨upTT U (9 + 5) i (T (71 + 5) i), ?_, fun x hx => ?_, fun t ht => ?_, trivial⟩
    · show cLand_become_L217 X (f + 1) A4 U (nI i) = _
      rw [cLand_become_L217, if_neg (show ¬ (5 : Int32) ≤ nI i from nle (n := 5) hi (by decide)), if_pos h8, nI_ix (by omega), show U 76 i = T (71 + 5) i from congrFun et i, if_pos ok, nI_1]
    · rw [← g1 x hx]
      funext j
      unfold upTT
      rw [if_neg (by omega)]
    · unfold upTT
      by_cases eq : t = i
      · subst eq
        rw [if_pos ⟨rfl, rfl⟩]
      · rw [if_neg (by omega)]
        exact g2 t (by omega)) (fun f U hIA => by
    show cLand_become_L217 X (f + 1) A4 U (nI 5) = _
    rw [cLand_become_L217, if_pos (show (5 : Int32) ≤ nI 5 by decide)]) U4 ⟨fun _ _ => rfl, fun t ht => absurd ht (by omega), trivial⟩
  refine ⟨A4, U5, ?_, ⟨np, nf, nx, nl, yr, hI, fun a ha => (I4.2 a ha).trans (hE a ha), ?_⟩, I4.1, fun x hx => ?_⟩
  · rw [show cLand_become_L72 X FU A0 T 0 = _ from e1, show cLand_become_L103 X FU A1 T 0 = _ from e2, show cLand_become_L134 X FU A2 T 0 = _ from e3, show cLand_become_L165 X FU A3 T 0 = _ from e4]
    exact e5
  · have hx : ∀ x, 172 ≤ x → x < 172 + X.2 → A4 x = S x := fun x g1 g2 => I4.1 x (by omega)
    have hF := hT.frame (S' := A4) hx (fun _ _ => rfl)
    refine ⟨fun t ht => ?_, fun q hq => ?_⟩
    · rw [V5 t ht]
      exact hF.1 t ht
    · rw [J5 _ (by omega), V4 q hq]
      exact hF.2 q hq
  · rw [J5 x (by omega), J4 x (by omega)]
