/-! ===== feed ===== -/
theorem m255 (x : Int32) : inb (x &&& 255) 256 := by
  have h : (x &&& 255).toBitVec.toNat < 256 := by
    rw [Int32.toBitVec_and, BitVec.toNat_and]
    exact Nat.lt_of_le_of_lt Nat.and_le_right (by decide)
  have e : (x &&& 255).toInt = ((x &&& 255).toBitVec.toNat : Int) := by
    show (x &&& 255).toBitVec.toInt = _
    rw [BitVec.toInt_eq_toNat_of_lt (by omega)]
  exact ⟨by omega, by omega⟩
theorem bt_l (x : Int64) {j : Nat} (hj : j < 32) : bt x.toInt32 j = x.toBitVec.getLsbD j := by
  show (x.toBitVec.signExtend 32).getLsbD j = _
  rw [BitVec.getLsbD_signExtend, decide_eq_true hj, Bool.true_and, if_pos (by omega)]
theorem feed_bits (b : Int64) {i : Nat} (hi : i < 8) : ((b.toUInt64 >>> ((nI (8 * i)).toInt64.toUInt64 &&& Int64.toUInt64 63)).toInt64).toInt32 &&& 255 = ((b >>> ((nI (8 * i)).toInt64 &&& 63)).toInt32) &&& 255 := by
  apply b_ext
  intro j hj
  rw [b_and, b_and, b_255]
  by_cases c : j < 8
  · rw [bt_l _ hj, bt_l _ hj, wb_c _ (show 8 * i < 64 by omega), wb_cu _ (show 8 * i < 64 by omega)]
    congr 1
    rw [Int64.toBitVec_shiftRight, wb_tb, wb_sm _ (by omega)]
    show (b.toUInt64 >>> UInt64.ofNat (8 * i)).toBitVec.getLsbD j = _
    rw [UInt64.toBitVec_shiftRight]
    have e1 : ((UInt64.ofNat (8 * i)).toBitVec % 64).toNat = 8 * i := by
      rw [BitVec.toNat_umod]
      show (8 * i) % 2 ^ 64 % 64 = 8 * i
      omega
    have e2 : (BitVec.ofNat 64 (8 * i)).toNat = 8 * i := by rw [BitVec.toNat_ofNat]; omega
    rw [BitVec.ushiftRight_eq', e1, BitVec.getLsbD_ushiftRight]
    show _ = (b.toBitVec.sshiftRight (BitVec.ofNat 64 (8 * i)).toNat).getLsbD j
    rw [e2, BitVec.getLsbD_sshiftRight, decide_eq_false (show ¬ 64 ≤ j by omega), Bool.not_false, Bool.true_and, if_pos (by omega)]
    rfl
  · rw [decide_eq_false c, Bool.and_false, Bool.and_false]
theorem loop_ex {α β : Type} (L : Nat → α → Int32 → Option β) (n : Nat) (fin : α → Option β) (I : Nat → α → Prop) (hs : ∀ f i a, i < n → I i a → ∃ a', L (f + 1) a (nI i) = L f a' (nI (i + 1)) ∧ I (i + 1) a') (he : ∀ f a, I n a → L (f + 1) a (nI n) = fin a) : ∀ k i a f, i + k = n → k < f → I i a → ∃ a', L f a (nI i) = fin a' ∧ I n a' := by
  intro k
  induction k with
  | zero =>
    intro i a f hi hf hI
    obtain ⟨g, rfl⟩ : ∃ g, f = g + 1 := ⟨f - 1, by omega⟩
    have e : i = n := by omega
    subst e
    exact ⟨a, he g a hI, hI⟩
  | succ k ih =>
    intro i a f hi hf hI
    obtain ⟨g, rfl⟩ : ∃ g, f = g + 1 := ⟨f - 1, by omega⟩
    obtain ⟨a', h1, h2⟩ := hs g i a (by omega) hI
    rw [h1]
    exact ih (i + 1) a' g (by omega) (by omega) h2
theorem loop_e0 {α β : Type} (L : Nat → α → Int32 → Option β) (n : Nat) (fin : α → Option β) (I : Nat → α → Prop) (hn : n < 20000) (hs : ∀ f i a, i < n → I i a → ∃ a', L (f + 1) a (nI i) = L f a' (nI (i + 1)) ∧ I (i + 1) a') (he : ∀ f a, I n a → L (f + 1) a (nI n) = fin a) (a : α) (h0 : I 0 a) : ∃ a', L FU a 0 = fin a' ∧ I n a' :=
  loop_ex L n fin I hs he n 0 a FU (by omega) hn h0
/-- two loops side by side -/
theorem loop_2 {α β γ δ : Type} (L1 : Nat → α → Int32 → Option γ) (L2 : Nat → β → Int32 → Option δ) (n : Nat) (fin1 : α → Option γ) (fin2 : β → Option δ) (I : Nat → α → β → Prop) (hs : ∀ f g i a b, i < n → I i a b → ∃ a' b', L1 (f + 1) a (nI i) = L1 f a' (nI (i + 1)) ∧ L2 (g + 1) b (nI i) = L2 g b' (nI (i + 1)) ∧ I (i + 1) a' b') (he : ∀ f g a b, I n a b → L1 (f + 1) a (nI n) = fin1 a ∧ L2 (g + 1) b (nI n) = fin2 b) : ∀ k i a b f g, i + k = n → k < f → k < g → I i a b → ∃ a' b', L1 f a (nI i) = fin1 a' ∧ L2 g b (nI i) = fin2 b' ∧ I n a' b' := by
  intro k
  induction k with
  | zero =>
    intro i a b f g hi hf hg hI
    obtain ⟨f', rfl⟩ : ∃ f', f = f' + 1 := ⟨f - 1, by omega⟩
    obtain ⟨g', rfl⟩ : ∃ g', g = g' + 1 := ⟨g - 1, by omega⟩
    have e : i = n := by omega
    subst e
    exact ⟨a, b, (he f' g' a b hI).1, (he f' g' a b hI).2, hI⟩
  | succ k ih =>
    intro i a b f g hi hf hg hI
    obtain ⟨f', rfl⟩ : ∃ f', f = f' + 1 := ⟨f - 1, by omega⟩
    obtain ⟨g', rfl⟩ : ∃ g', g = g' + 1 := ⟨g - 1, by omega⟩
    obtain ⟨a', b', h1, h2, h3⟩ := hs f' g' i a b (by omega) hI
    rw [h1, h2]
    exact ih (i + 1) a' b' f' g' (by omega) (by omega) (by omega) h3
theorem loop_20 {α β γ δ : Type} (L1 : Nat → α → Int32 → Option γ) (L2 : Nat → β → Int32 → Option δ) (n : Nat) (fin1 : α → Option γ) (fin2 : β → Option δ) (I : Nat → α → β → Prop) (hn : n < 20000) (hs : ∀ f g i a b, i < n → I i a b → ∃ a' b', L1 (f + 1) a (nI i) = L1 f a' (nI (i + 1)) ∧ L2 (g + 1) b (nI i) = L2 g b' (nI (i + 1)) ∧ I (i + 1) a' b') (he : ∀ f g a b, I n a b → L1 (f + 1) a (nI n) = fin1 a ∧ L2 (g + 1) b (nI n) = fin2 b) (a : α) (b : β) (h0 : I 0 a b) : ∃ a' b', L1 FU a 0 = fin1 a' ∧ L2 FU b 0 = fin2 b' ∧ I n a' b' :=
  loop_2 L1 L2 n fin1 fin2 I hs he n 0 a b FU FU (by omega) hn hn h0
def fdI (S M : SS) (n : Nat) (i : Nat) (A B : SS) : Prop := (∀ x, x ≠ 138 → A x = S x) ∧ (∀ x, x ≠ 160 → x ≠ 154 → B x = M x) ∧ (∀ j, j ≠ 8 → B 154 j = M 154 j) ∧ B 154 8 = nI (n + i) ∧ ∀ j, j < n + i → A 138 j = B 160 j &&& 255 ∧ inb (A 138 j) 256
theorem fd_step {S M A B : SS} {n m i : Nat} {z1 : Int64} {f g : Nat} (t1 : S 137 1 = nI n) (hm : m < 9) (c2 : n + m ≤ 200) (hi : i < m) (hI : fdI S M n i A B) : ∃ a' b', cScribe_takes_L17 (f + 1) A (nI m) z1 (nI i) = cScribe_takes_L17 f a' (nI m) z1 (nI (i + 1)) ∧ rM_feed_L39 (g + 1) B (nI m) z1 (nI i) = rM_feed_L39 g b' (nI m) z1 (nI (i + 1)) ∧ fdI S M n (i + 1) a' b' := by
  obtain ⟨i1, i2, i3, i4, i5⟩ := hI
  have eA : A 137 1 = nI n := by rw [i1 137 (by decide)]; exact t1
  have e8 : (8 : Int32) * nI i = nI (8 * i) := pk_mul 8 i
  refine ⟨up A 138 (n + i) (((z1.toUInt64 >>> ((nI (8 * i)).toInt64.toUInt64 &&& Int64.toUInt64 63)).toInt64).toInt32 &&& 255), up (up B 160 (n + i) (vp_nar .byte (((z1 >>> ((nI (8 * i)).toInt64 &&& 63)).toInt32).toInt8.toInt32))) 154 8 (nI (n + i + 1)), ?_, ?_, fun x hx => ?_, fun x h1 h2 => ?_, fun j hj => ?_, ?_, fun j hj => ?_⟩
  · show cScribe_takes_L17 (f + 1) A (nI m) z1 (nI i) = _
    rw [cScribe_takes_L17, if_neg (nle hi (by omega)), eA, nI_add, if_pos (nI_inb (by omega) (by decide)), nI_ix (by omega), e8, nI_1]
  · show rM_feed_L39 (g + 1) B (nI m) z1 (nI i) = _
    rw [rM_feed_L39, if_neg (nle hi (by omega)), i4, if_pos (nI_inb (by omega) (by decide)), nI_ix (by omega), e8, nI_1, up_x (show 154 ≠ 160 by decide), i4, nI_1]
  · rw [up_o hx]; exact i1 x hx
  · rw [up_o h2, up_o h1]; exact i2 x h1 h2
  · rw [up_j hj, up_x (by decide)]; exact i3 j hj
  · rw [up_s]
    rfl
  · rw [up_x (show 160 ≠ 154 by decide)]
    by_cases ej : j = n + i
    · subst ej
      rw [up_s, up_s, vp_nar_byte, bp_b, bp_b]
      exact ⟨feed_bits z1 (by omega), m255 _⟩
    · rw [up_j ej, up_j ej]
      exact i5 j (by omega)
theorem fd_end {A B : SS} {m : Nat} {z1 : Int64} {f g : Nat} : cScribe_takes_L17 (f + 1) A (nI m) z1 (nI m) = some (true, up A 137 1 (A 137 1 + nI m)) ∧ rM_feed_L39 (g + 1) B (nI m) z1 (nI m) = some (B 154 8, B) := by
  constructor
  · rw [cScribe_takes_L17, if_pos (Int32.le_refl _)]
  · rw [rM_feed_L39, if_pos (Int32.le_refl _)]
theorem sim_feed (S : SS) (K : KS) (T : TS) (X : XS) (M : SS) (z0 : Int32) (z1 : Int64) (hR : Rel S K T X M) : ∃ p q, cD_feed S z0 z1 = some p ∧ rM_feed M z0 z1 = some q ∧ p.1 = q.1 ∧ Rel p.2 K T X q.2 := by
  obtain ⟨n, hn, t1, t2, t3⟩ := hR.2.2.2.2.1
  unfold cD_feed rM_feed cScribe_takes
  simp only [within_eq, in_eq, found_eq, finds_eq, Option.bind_some, t1, t2]
  by_cases c : 1 ≤ z0 ∧ z0 ≤ 8
  · simp only [decide_eq_true c, if_true]
    have hz : inb z0 9 := ⟨by have := Int32.le_iff_toInt_le.mp c.1; simp at this; omega, by have := Int32.le_iff_toInt_le.mp c.2; simp at this; omega⟩
    obtain ⟨m, hm, rfl⟩ := inb_ex hz
    rw [nI_add]
    by_cases c2 : n + m ≤ 200
    · have c2' : nI (n + m) ≤ (200 : Int32) := nI_le (b := 200) c2 (by decide)
      rw [if_pos c2', if_pos c2']
      obtain ⟨A, B, e1, e2, ⟨i1, i2, i3, i4, i5⟩⟩ := loop_20 (fun f A i => cScribe_takes_L17 f A (nI m) z1 i) (fun f B i => rM_feed_L39 f B (nI m) z1 i) m (fun A => some (true, up A 137 1 (A 137 1 + nI m))) (fun B => some (B 154 8, B)) (fdI S M n) (by omega) (fun f g i A B hi hI => fd_step t1 (by omega) c2 hi hI) (fun f g A B hI => fd_end) S M ⟨fun _ _ => rfl, fun _ _ _ => rfl, fun _ _ => rfl, t2, t3⟩
      · have eA : A 137 1 = nI n := by rw [i1 137 (by decide)]; exact t1
        rw [e1, e2]
        refine ⟨(_, _), (_, _), rfl, rfl, ?_, ?_⟩
        · dsimp only
          rw [up_s, eA, nI_add, i4]
        · obtain ⟨r1, ⟨r2, r3⟩, r4, r5, r6, r7, r8, r9⟩ := hR
          have hS : ∀ x, x ≠ 137 → x ≠ 138 → up A 137 1 (A 137 1 + nI m) x = S x := fun x g1 g2 => by rw [up_o g1]; exact i1 x g2
          dsimp only
          refine ⟨?_, ⟨?_, ?_⟩, ?_, ?_, ?_, ?_, ?_, r9⟩
          · rw [i2 155 (by decide) (by decide)]
            exact r1.frame (fun x g1 g2 => hS x (by omega) (by omega)) (fun x g1 g2 => hS x (by omega) (by omega))
          · rw [hS 8 (by decide) (by decide), i3 2 (by decide)]
            exact r2
          · rw [hS 8 (by decide) (by decide), i2 156 (by decide) (by decide)]
            rcases r3 with r3 | ⟨r3, r3'⟩
            · exact Or.inl r3
            · exact Or.inr ⟨r3, r3'.frame (fun x g1 g2 => hS x (by omega) (by omega)) (fun x g1 g2 => hS x (by omega) (by omega))⟩
          · rw [hS 8 (by decide) (by decide), i3 3 (by decide)]
            exact r4
          · intro s hs4
            rw [hS (146 + 2 * s) (by omega) (by omega), hS (147 + 2 * s) (by omega) (by omega), i2 168 (by decide) (by decide), i2 169 (by decide) (by decide), i2 170 (by decide) (by decide)]
            exact r5 s hs4
          · refine ⟨n + m, c2, by rw [up_s, eA, nI_add], i4, fun j hj => ?_⟩
            rw [up_x (by decide)]
            exact i5 j hj
          · unfold CN
            rw [i2 161 (by decide) (by decide), i2 162 (by decide) (by decide)]
            exact r7
          · unfold TH
            rw [hS 143 (by decide) (by decide)]
            exact r8
    · have c2' : ¬ nI (n + m) ≤ (200 : Int32) := nle (n := n + m) (i := 200) (by omega) (by omega)
      rw [if_neg c2', if_neg c2']
      exact ⟨_, _, rfl, rfl, rfl, hR.fnd⟩
  · simp only [decide_eq_false c, Bool.false_eq_true, if_false]
    exact ⟨_, _, rfl, rfl, rfl, hR.fnd⟩
