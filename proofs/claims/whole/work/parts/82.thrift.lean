/-! ===== thrift: last, pays ===== -/
theorem tb256 {m i : Nat} (hm : m < 256) (hi : 8 ≤ i) : m.testBit i = false :=
  Nat.testBit_lt_two_pow (Nat.lt_of_lt_of_le (show m < 2 ^ 8 from hm) (Nat.pow_le_pow_right (by decide) hi))
theorem byt_bt (k : Int64) {y j : Nat} (hy : y < 8) (hj : j < 32) : bt (byt k y) j = (k.toBitVec.getLsbD (8 * y + j) && decide (j < 8)) := by
  unfold byt
  rw [b_and, b_255]
  by_cases c : j < 8
  · rw [bt_l _ hj, wb_cu _ (show 8 * y < 64 by omega)]
    congr 1
    show (k.toUInt64 >>> UInt64.ofNat (8 * y)).toBitVec.getLsbD j = _
    rw [UInt64.toBitVec_shiftRight]
    have e1 : ((UInt64.ofNat (8 * y)).toBitVec % 64).toNat = 8 * y := by
      rw [BitVec.toNat_umod]
      show (8 * y) % 2 ^ 64 % 64 = 8 * y
      omega
    rw [BitVec.ushiftRight_eq', e1, BitVec.getLsbD_ushiftRight]
    rfl
  · rw [decide_eq_false c, Bool.and_false, Bool.and_false]
theorem nI_bt {m j : Nat} (hj : j < 32) : bt (nI m) j = m.testBit j := by
  show (BitVec.ofNat 32 m).getLsbD j = _
  rw [BitVec.getLsbD_ofNat, decide_eq_true hj, Bool.true_and]
theorem byt_or (k : Int64) {m y z : Nat} (hm : m < 256) (hy : y < 8) (hz : z < 8) : byt (k ||| ((nI m).toInt64 <<< ((nI (8 * y)).toInt64 &&& 63))) z = if z = y then byt k z ||| nI m else byt k z := by
  have hs : ∀ i, i < 64 → ((nI m).toInt64 <<< ((nI (8 * y)).toInt64 &&& 63)).toBitVec.getLsbD i = (decide (8 * y ≤ i) && m.testBit (i - 8 * y)) := by
    intro i hi
    rw [nI_l (by omega), wb_shl m (show 8 * y < 64 by omega), wb_tb, BitVec.getLsbD_ofNat, decide_eq_true hi, Bool.true_and, Nat.testBit_mul_two_pow]
  have key : ∀ j, j < 32 → bt (byt (k ||| ((nI m).toInt64 <<< ((nI (8 * y)).toInt64 &&& 63))) z) j = ((k.toBitVec.getLsbD (8 * z + j) || (decide (8 * y ≤ 8 * z + j) && m.testBit (8 * z + j - 8 * y))) && decide (j < 8)) := by
    intro j hj
    rw [byt_bt _ hz hj]
    by_cases c : j < 8
    · rw [Int64.toBitVec_or, BitVec.getLsbD_or, hs _ (by omega)]
    · rw [decide_eq_false c, Bool.and_false, Bool.and_false]
  by_cases e : z = y
  · subst e
    rw [if_pos rfl]
    apply b_ext
    intro j hj
    rw [key j hj, b_or, byt_bt _ hz hj, nI_bt hj, decide_eq_true (show 8 * z ≤ 8 * z + j by omega), Bool.true_and, show 8 * z + j - 8 * z = j by omega]
    by_cases c : j < 8
    · rw [decide_eq_true c, Bool.and_true, Bool.and_true]
    · rw [decide_eq_false c, Bool.and_false, Bool.and_false, tb256 hm (by omega), Bool.or_false]
  · rw [if_neg e]
    apply b_ext
    intro j hj
    rw [key j hj, byt_bt _ hz hj]
    by_cases c : j < 8
    · have : (decide (8 * y ≤ 8 * z + j) && m.testBit (8 * z + j - 8 * y)) = false := by
        by_cases d : 8 * y ≤ 8 * z + j
        · rw [tb256 hm (by omega), Bool.and_false]
        · rw [decide_eq_false d, Bool.false_and]
      rw [this, Bool.or_false]
    · rw [decide_eq_false c, Bool.and_false, Bool.and_false]
theorem byt_0 : ∀ y, y < 8 → byt 0 y = 0 := by decide +kernel
theorem minTo_le {g : Nat → Nat} : ∀ {m p : Nat}, p ≤ m → minTo g m ≤ g p := by
  intro m
  induction m with
  | zero =>
    intro p hp
    have : p = 0 := by omega
    subst this
    exact Nat.le_refl _
  | succ m ih =>
    intro p hp
    show min (minTo g m) (g (m + 1)) ≤ g p
    by_cases e : p = m + 1
    · subst e
      exact Nat.min_le_right _ _
    · exact Nat.le_trans (Nat.min_le_left _ _) (ih (by omega))
theorem minTo_ex (g : Nat → Nat) : ∀ m, ∃ p, p ≤ m ∧ g p = minTo g m := by
  intro m
  induction m with
  | zero => exact ⟨0, Nat.le_refl _, rfl⟩
  | succ m ih =>
    obtain ⟨p, h1, h2⟩ := ih
    show ∃ p, p ≤ m + 1 ∧ g p = min (minTo g m) (g (m + 1))
    by_cases c : minTo g m ≤ g (m + 1)
    · exact ⟨p, by omega, by rw [Nat.min_eq_left c]; exact h2⟩
    · exact ⟨m + 1, Nat.le_refl _, by rw [Nat.min_eq_right (by omega)]⟩
def gP (f : Nat → Nat → Nat) (has o p : Nat) : Nat := (10 - (has - p)) + f (min 60 (has - p - 10)) (o - p)
theorem bestV_eq (f : Nat → Nat → Nat) (has o : Nat) : bestV f has o = minTo (gP f has o) (min 9 (min has o)) := rfl
/-! more in the store is never worse: so the low harvest is the worst -/
theorem bestV_mono {f : Nat → Nat → Nat} (hf : ∀ s s' o, s ≤ s' → f s' o ≤ f s o) {has has' o : Nat} (h : has ≤ has') : bestV f has' o ≤ bestV f has o := by
  obtain ⟨p, hp, e⟩ := minTo_ex (gP f has o) (min 9 (min has o))
  rw [bestV_eq, bestV_eq, ← e]
  refine Nat.le_trans (minTo_le (p := p) (by omega)) ?_
  unfold gP
  have := hf (min 60 (has - p - 10)) (min 60 (has' - p - 10)) (o - p) (by omega)
  omega
theorem lastV_mono (lo hi : Nat) : ∀ y s s' o, s ≤ s' → lastV lo hi y s' o ≤ lastV lo hi y s o := by
  intro y
  induction y with
  | zero =>
    intro s s' o _
    exact Nat.le_refl _
  | succ y ih =>
    intro s s' o h
    show max (bestV (lastV lo hi y) (s' + lo) o) (bestV (lastV lo hi y) (s' + hi) o) ≤ max (bestV (lastV lo hi y) (s + lo) o) (bestV (lastV lo hi y) (s + hi) o)
    have h1 : bestV (lastV lo hi y) (s' + lo) o ≤ bestV (lastV lo hi y) (s + lo) o := bestV_mono ih (by omega)
    have h2 : bestV (lastV lo hi y) (s' + hi) o ≤ bestV (lastV lo hi y) (s + hi) o := bestV_mono ih (by omega)
    omega
theorem lastV_lo {lo hi : Nat} (h : lo ≤ hi) : lastV lo hi = lastV lo lo := by
  funext y
  induction y with
  | zero => rfl
  | succ y ih =>
    funext s o
    show max (bestV (lastV lo hi y) (s + lo) o) (bestV (lastV lo hi y) (s + hi) o) = max (bestV (lastV lo lo y) (s + lo) o) (bestV (lastV lo lo y) (s + lo) o)
    rw [ih, Nat.max_self]
    exact Nat.max_eq_left (bestV_mono (lastV_mono lo lo y) (by omega))
theorem lastV_le (lo hi : Nat) : ∀ y s o, lastV lo hi y s o ≤ 2 * o + 10 * y := by
  intro y
  induction y with
  | zero =>
    intro s o
    show 2 * o ≤ _
    omega
  | succ y ih =>
    have hb : ∀ has o, bestV (lastV lo hi y) has o ≤ 2 * o + 10 * y + 10 := by
      intro has o
      rw [bestV_eq]
      have h0 : minTo (gP (lastV lo hi y) has o) (min 9 (min has o)) ≤ (10 - (has - 0)) + lastV lo hi y (min 60 (has - 0 - 10)) (o - 0) := minTo_le (Nat.zero_le _)
      have h1 := ih (min 60 (has - 0 - 10)) (o - 0)
      omega
    intro s o
    show max (bestV (lastV lo hi y) (s + lo) o) (bestV (lastV lo hi y) (s + hi) o) ≤ _
    have h1 := hb (s + lo) o
    have h2 := hb (s + hi) o
    omega
theorem gP_le {lo hi y has o p : Nat} : gP (lastV lo hi y) has o p ≤ 10 + 2 * o + 10 * y := by
  unfold gP
  have := lastV_le lo hi y (min 60 (has - p - 10)) (o - p)
  omega
theorem minP_le {lo hi y has o m : Nat} : minTo (gP (lastV lo hi y) has o) m ≤ 10 + 2 * o + 10 * y :=
  Nat.le_trans (minTo_le (Nat.zero_le _)) gP_le
/-- what the memory may hold -/
def MK (lo hi : Nat) (K : KS) : Prop := ∀ s o y, s ≤ 60 → o ≤ 60 → y < 8 → byt (K (61 * s + o)) y = 0 ∨ byt (K (61 * s + o)) y = nI (lastV lo hi (y + 1) s o + 1)
def FT (lo hi y : Nat) (fT : KS → Int32 → Int32 → Int32 → Option (Int32 × KS)) : Prop := ∀ K s o, MK lo hi K → s ≤ 60 → o ≤ 60 → ∃ K', fT K (nI s) (nI o) (nI y) = some (nI (lastV lo hi y s o), K') ∧ MK lo hi K'
section Thrift
variable {lo hi y : Nat} {fT : KS → Int32 → Int32 → Int32 → Option (Int32 × KS)} {S : SS} {K : KS}
theorem paying_eq (hF : FT lo hi y fT) (hK : MK lo hi K) {has o p : Nat} (hh : has ≤ 90) (ho : o ≤ 60) (hp : p ≤ min 9 (min has o)) : ∃ K', cThrift_paying fT S K (nI p) (nI has) (nI o) (nI (y + 1)) = some (nI (gP (lastV lo hi y) has o p), K') ∧ MK lo hi K' := by
  obtain ⟨K', e1, e2⟩ := hF K (min 60 (has - p - 10)) (o - p) hK (by omega) (by omega)
  refine ⟨K', ?_, e2⟩
  unfold cThrift_paying
  rw [pk_sub (show p ≤ has by omega), pk_sub (show p ≤ o by omega), chung_eq (by omega), ckept_eq (by omega), Option.bind_some, Option.bind_some, nI_pred, e1, Option.bind_some]
  show some (nI (10 - (has - p)) + nI _, K') = _
  rw [nI_add]
  rfl
theorem least_go (hF : FT lo hi y fT) {has o m : Nat} (hy : y ≤ 8) (hh : has ≤ 90) (ho : o ≤ 60) (hm : m = min 9 (min has o)) : ∀ k i K f, i + k = m → k < f → MK lo hi K → ∃ K', cThrift_leastHunger_L20 fT S f K (nI has) (nI o) (nI (y + 1)) (nI m) (nI (minTo (gP (lastV lo hi y) has o) i)) (nI (i + 1)) = some (nI (minTo (gP (lastV lo hi y) has o) m), K') ∧ MK lo hi K' := by
  intro k
  induction k with
  | zero =>
    intro i K f hi_ hf hK
    obtain ⟨f', rfl⟩ : ∃ f', f = f' + 1 := ⟨f - 1, by omega⟩
    have e : i = m := by omega
    subst e
    exact ⟨K, by rw [cThrift_leastHunger_L20, if_pos (nI_lt (by omega) (by omega))], hK⟩
  | succ k ih =>
    intro i K f hi_ hf hK
    obtain ⟨f', rfl⟩ : ∃ f', f = f' + 1 := ⟨f - 1, by omega⟩
    obtain ⟨K1, p1, p2⟩ := paying_eq (S := S) hF hK hh ho (show i + 1 ≤ min 9 (min has o) by omega)
    have b1 : minTo (gP (lastV lo hi y) has o) i ≤ 10 + 2 * o + 10 * y := minP_le
    have b2 : gP (lastV lo hi y) has o (i + 1) ≤ 10 + 2 * o + 10 * y := gP_le
    obtain ⟨K', e1, e2⟩ := ih (i + 1) K1 f' (by omega) (by omega) p2
    refine ⟨K', ?_, e2⟩
    rw [cThrift_leastHunger_L20, if_neg (nI_nlt (by omega) (by omega)), p1, Option.bind_some]
    dsimp only
    rw [min_lt (by omega) (by omega), nI_1]
    exact e1
theorem leastH_eq (hF : FT lo hi y fT) (hK : MK lo hi K) {has o : Nat} (hy : y ≤ 8) (hh : has ≤ 90) (ho : o ≤ 60) : ∃ K', cThrift_leastHunger fT S K (nI has) (nI o) (nI (y + 1)) = some (nI (bestV (lastV lo hi y) has o), K') ∧ MK lo hi K' := by
  obtain ⟨K1, p1, p2⟩ := paying_eq (S := S) hF hK hh ho (show 0 ≤ min 9 (min has o) by omega)
  obtain ⟨K', e1, e2⟩ := least_go (S := S) hF hy hh ho rfl (min 9 (min has o)) 0 K1 FU (by omega) (by unfold FU; omega) p2
  refine ⟨K', ?_, e2⟩
  unfold cThrift_leastHunger
  rw [cmost_eq (by omega) (by omega), Option.bind_some, show cThrift_paying fT S K 0 (nI has) (nI o) (nI (y + 1)) = _ from p1, Option.bind_some]
  exact e1
theorem sure_0 {s o : Nat} : cThrift_sureHunger fT S K (nI s) (nI o) (nI 0) = some (nI (lastV lo hi 0 s o), K) := by
  unfold cThrift_sureHunger
  rw [if_pos (by decide)]
  show some ((2 : Int32) * nI o, K) = some (nI (2 * o), K)
  rw [← pk_mul]
  rfl
theorem MK.put (hK : MK lo hi K) {s o y : Nat} (hs : s ≤ 60) (ho : o ≤ 60) (hy : y < 8) : MK lo hi (upK K (61 * s + o) (K (61 * s + o) ||| ((nI (lastV lo hi (y + 1) s o + 1)).toInt64 <<< ((nI (8 * y)).toInt64 &&& 63)))) := by
  intro s' o' y' h1 h2 h3
  have hv := lastV_le lo hi (y + 1) s o
  unfold upK
  by_cases c : 61 * s' + o' = 61 * s + o
  · have es : s' = s := by omega
    have eo : o' = o := by omega
    subst es eo
    rw [if_pos rfl, byt_or _ (by omega) hy h3]
    by_cases d : y' = y
    · subst d
      rw [if_pos rfl]
      right
      rcases hK s' o' y' h1 h2 h3 with e | e
      · rw [e, Int32.zero_or]
      · rw [e, Int32.or_self]
    · rw [if_neg d]
      exact hK s' o' y' h1 h2 h3
  · rw [if_neg c]
    exact hK s' o' y' h1 h2 h3
theorem sure_S (h0 : S 143 0 = nI lo) (hlo : lo ≤ 30) (hy : y < 8) (hF : FT lo lo y fT) : FT lo lo (y + 1) (fun K a b c => cThrift_sureHunger fT S K a b c) := by
  intro K s o hK hs ho
  have pl : nI s * 61 + nI o = nI (61 * s + o) := by
    rw [show (61 : Int32) = nI 61 from rfl, pk_mul, nI_add, Nat.mul_comm]
  have sh : (8 : Int32) * (nI (y + 1) - 1) = nI (8 * y) := by
    rw [nI_pred]
    exact pk_mul 8 y
  have w1 : cD_within (nI (61 * s + o)) 0 (3721 - 1) = some true := by
    rw [within_eq, decide_eq_true]
    exact ⟨nI_pos' (by omega), nI_le (b := 3720) (by omega) (by decide)⟩
  have i1 : inb (nI (61 * s + o)) 3721 := nI_inb (by omega) (by decide)
  show ∃ K', cThrift_sureHunger fT S K (nI s) (nI o) (nI (y + 1)) = _ ∧ _
  unfold cThrift_sureHunger
  rw [if_neg (show ¬ nI (y + 1) < 1 from nI_nlt (b := 1) (by omega) (by omega)), if_pos (show nI (y + 1) ≤ 8 from nI_le (b := 8) (by omega) (by decide)), pl, w1, Option.bind_some, if_pos rfl, if_pos i1, nI_ix (by omega), sh]
  show ∃ K', (if byt (K (61 * s + o)) y ≤ 0 then _ else some (byt (K (61 * s + o)) y - 1, K)) = _ ∧ _
  by_cases c : byt (K (61 * s + o)) y ≤ 0
  · rw [if_pos c, h0, nI_add]
    obtain ⟨K1, a1, a2⟩ := leastH_eq (S := S) hF hK (show y ≤ 8 by omega) (show s + lo ≤ 90 by omega) ho
    have em : lastV lo lo (y + 1) s o = bestV (lastV lo lo y) (s + lo) o := Nat.max_self _
    rw [a1, Option.bind_some, ← em]
    dsimp only
    rw [nI_1]
    exact ⟨_, rfl, a2.put hs ho hy⟩
  · rw [if_neg c]
    rcases hK s o y hs ho hy with e | e
    · rw [e] at c
      exact absurd (Int32.le_refl _) c
    · rw [e]
      exact ⟨K, by rw [nI_pred], hK⟩
theorem rSure_ok (h0 : S 143 0 = nI lo) (hlo : lo ≤ 30) : ∀ y n, y < n → y ≤ 8 → FT lo lo y (rSure S n) := by
  intro y
  induction y with
  | zero =>
    intro n hn _ K s o hK hs ho
    obtain ⟨n', rfl⟩ : ∃ n', n = n' + 1 := ⟨n - 1, by omega⟩
    exact ⟨K, sure_0, hK⟩
  | succ y ih =>
    intro n hn hy K s o hK hs ho
    obtain ⟨n', rfl⟩ : ∃ n', n = n' + 1 := ⟨n - 1, by omega⟩
    exact sure_S h0 hlo (by omega) (ih n' (by omega) (by omega)) K s o hK hs ho
end Thrift
theorem expect_ok {S : SS} {K : KS} (hT : TH S K) {lo : Nat} (hlo : lo ≤ 30) : ∃ S' K', cThrift_expect S K (nI lo) = some (S', K') ∧ S' 143 0 = nI lo ∧ (∀ x, x ≠ 143 → S' x = S x) ∧ MK lo lo K' := by
  unfold cThrift_expect
  by_cases c1 : nI lo = S 143 0
  · rw [if_pos c1]
    exact ⟨S, K, rfl, c1.symm, fun _ _ => rfl, hT lo hlo c1.symm⟩
  · rw [if_neg c1]
    refine ⟨_, _, rfl, up_s, fun x hx => up_o hx, fun s o y hs ho hy => Or.inl ?_⟩
    dsimp only
    rw [if_pos (by omega)]
    exact byt_0 y hy
theorem MK.th {S : SS} {K : KS} {lo : Nat} (hK : MK lo lo K) (h0 : S 143 0 = nI lo) (hlo : lo ≤ 30) : TH S K := by
  intro lo' l1 e1
  have a : lo' = lo := (nI_eq (by omega) (by omega)).mp (e1.symm.trans h0)
  subst a
  exact hK
theorem Rel.thrift {S S' : SS} {K K' : KS} {T : TS} {X : XS} {M M' : SS} (h : Rel S K T X M) (hS : ∀ x, x ≠ 143 → S' x = S x) (hM : ∀ x, x ≠ 167 → M' x = M x) (hT : TH S' K') : Rel S' K' T X M' := by
  obtain ⟨r1, ⟨r2, r3⟩, r4, r5, r6, r7, r8, r9⟩ := h
  refine ⟨?_, ⟨?_, ?_⟩, ?_, ?_, ?_, ?_, hT, r9⟩
  · rw [hM 155 (by decide)]
    exact r1.frame (fun x g1 g2 => hS x (by omega)) (fun x g1 g2 => hS x (by omega))
  · rw [hS 8 (by omega), hM 154 (by decide)]
    exact r2
  · rw [hS 8 (by omega), hM 156 (by decide)]
    rcases r3 with r3 | ⟨r3, r3'⟩
    · exact Or.inl r3
    · exact Or.inr ⟨r3, r3'.frame (fun x g1 g2 => hS x (by omega)) (fun x g1 g2 => hS x (by omega))⟩
  · rw [hS 8 (by omega), hM 154 (by decide)]
    exact r4
  · intro s hs4
    rw [hS (146 + 2 * s) (by omega), hS (147 + 2 * s) (by omega), hM 168 (by decide), hM 169 (by decide), hM 170 (by decide)]
    exact r5 s hs4
  · obtain ⟨n, a1, a2, a3, a4⟩ := r6
    refine ⟨n, a1, by rw [hS 137 (by omega)]; exact a2, by rw [hM 154 (by decide)]; exact a3, ?_⟩
    rw [hS 138 (by omega), hM 160 (by decide)]
    exact a4
  · unfold CN
    rw [hM 161 (by decide), hM 162 (by decide)]
    exact r7
/-! the reference's table -/
def at3 (y s k : Nat) : Nat := 61 * (61 * y + s) + k
theorem rat_eq (y s k : Nat) : rM_at (nI y) (nI s) (nI k) = some (nI (at3 y s k)) := by
  unfold rM_at at3
  rw [show (61 : Int32) = nI 61 from rfl, pk_mul, nI_add, pk_mul, nI_add]
def row (lo hi y o : Nat) (M : SS) : Prop := ∀ s k, s ≤ 60 → k ≤ o → M 167 (at3 y s k) = nI (lastV lo hi y s k)
section Table
variable {lo hi y o : Nat} {M : SS}
theorem byP_eq (hr : row lo hi y o M) (hy : y ≤ 8) {has k p : Nat} (hh : has ≤ 90) (hk : k ≤ o) (ho : o ≤ 60) (hp : p ≤ min 9 (min has k)) : rM_byPaying M (nI y) (nI has) (nI k) (nI p) = some (nI (gP (lastV lo hi y) has k p)) := by
  have hl := kept_m (has - p) (by omega)
  have hg := hung_m (has - p) (by omega)
  have last : ∀ w0 : Int32, rM_byPaying_J46 M (nI y) (nI k) (nI p) w0 (nI (min 60 (has - p - 10))) = some (w0 + nI (lastV lo hi y (min 60 (has - p - 10)) (k - p))) := by
    intro w0
    unfold rM_byPaying_J46
    rw [pk_sub (show p ≤ k by omega), rat_eq, Option.bind_some, if_pos (nI_inb (by unfold at3; omega) (by decide)), nI_ix (by unfold at3; omega), hr _ _ (by omega) (by omega)]
  unfold rM_byPaying rM_byPaying_J21
  rw [pk_sub (show p ≤ has by omega)]
  unfold gP
  rw [← nI_add]
  by_cases c : 0 ≤ nI (has - p) - 10
  · rw [if_pos c, if_pos c, hg.1 c]
    by_cases d : nI (has - p) - 10 ≤ 60
    · rw [if_pos d, hl.2.1 c d]
      exact last 0
    · rw [if_neg d]
      have e := hl.2.2 c d
      have := last 0
      rw [e] at this
      rw [e]
      exact this
  · rw [if_neg c, if_neg c, hg.2 c]
    have e := hl.1 c
    have := last (nI (10 - (has - p)))
    rw [e] at this
    rw [e]
    exact this
theorem best_go (hr : row lo hi y o M) (hy : y ≤ 8) {has k m : Nat} (hh : has ≤ 90) (hk : k ≤ o) (ho : o ≤ 60) (hm : m = min 9 (min has k)) : ∀ d i f, i + d = m → d < f → rM_bestOf_L13 M f (nI y) (nI has) (nI k) (nI (minTo (gP (lastV lo hi y) has k) i)) (nI (i + 1)) = some (nI (minTo (gP (lastV lo hi y) has k) m)) := by
  intro d
  induction d with
  | zero =>
    intro i f hi_ hf
    obtain ⟨f', rfl⟩ : ∃ f', f = f' + 1 := ⟨f - 1, by omega⟩
    have e : i = m := by omega
    subst e
    rw [rM_bestOf_L13, mmost_eq (by omega) (by omega), Option.bind_some, ← hm, if_pos (nI_lt (by omega) (by omega))]
  | succ d ih =>
    intro i f hi_ hf
    obtain ⟨f', rfl⟩ : ∃ f', f = f' + 1 := ⟨f - 1, by omega⟩
    have b1 : minTo (gP (lastV lo hi y) has k) i ≤ 10 + 2 * k + 10 * y := minP_le
    have b2 : gP (lastV lo hi y) has k (i + 1) ≤ 10 + 2 * k + 10 * y := gP_le
    have := ih (i + 1) f' (by omega) (by omega)
    have em : minTo (gP (lastV lo hi y) has k) (i + 1) = min (minTo (gP (lastV lo hi y) has k) i) (gP (lastV lo hi y) has k (i + 1)) := rfl
    rw [em] at this
    rw [rM_bestOf_L13, mmost_eq (by omega) (by omega), Option.bind_some, ← hm, if_neg (nI_nlt (by omega) (by omega)), byP_eq hr hy hh hk ho (by omega), Option.bind_some]
    unfold rM_bestOf_J48
    rw [nI_1]
    by_cases c : minTo (gP (lastV lo hi y) has k) i ≤ gP (lastV lo hi y) has k (i + 1)
    · rw [if_pos (nI_le c (by omega))]
      rw [Nat.min_eq_left c] at this
      exact this
    · rw [if_neg (nle (by omega) (by omega))]
      rw [Nat.min_eq_right (by omega)] at this
      exact this
theorem bestOf_eq (hr : row lo hi y o M) (hy : y ≤ 8) {has k : Nat} (hh : has ≤ 90) (hk : k ≤ o) (ho : o ≤ 60) : rM_bestOf M (nI y) (nI has) (nI k) = some (nI (bestV (lastV lo hi y) has k)) := by
  unfold rM_bestOf
  rw [show rM_byPaying M (nI y) (nI has) (nI k) 0 = _ from byP_eq hr hy hh hk ho (Nat.zero_le _), Option.bind_some]
  exact best_go hr hy hh hk ho rfl (min 9 (min has k)) 0 FU (by omega) (by unfold FU; omega)
end Table
/-- the table is filled up to (y, s, k) -/
def TB (lo hi o : Nat) (M0 M : SS) (y s k : Nat) : Prop := (∀ x, x ≠ 167 → M x = M0 x) ∧ ∀ y' s' k', s' ≤ 60 → k' ≤ o → (y' < y ∨ (y' = y ∧ (s' < s ∨ (s' = s ∧ k' < k)))) → M 167 (at3 y' s' k') = nI (lastV lo hi y' s' k')
section Fill
variable {lo hi o n : Nat} {M0 : SS}
theorem TB.put {M : SS} {y s k : Nat} (h : TB lo hi o M0 M y s k) (hs : s ≤ 60) (hk : k ≤ o) (ho : o ≤ 60) : TB lo hi o M0 (up M 167 (at3 y s k) (nI (lastV lo hi y s k))) y s (k + 1) := by
  refine ⟨fun x hx => by rw [up_o hx]; exact h.1 x hx, fun y' s' k' h1 h2 h3 => ?_⟩
  by_cases e : at3 y' s' k' = at3 y s k
  · rw [e, up_s]
    unfold at3 at e
    have ek : k' = k := by omega
    have es : s' = s := by omega
    have ey : y' = y := by omega
    rw [ek, es, ey]
  · rw [up_j e]
    refine h.2 y' s' k' h1 h2 ?_
    rcases h3 with h3 | ⟨h3, h4 | ⟨h4, h5⟩⟩
    · exact Or.inl h3
    · exact Or.inr ⟨h3, Or.inl h4⟩
    · refine Or.inr ⟨h3, Or.inr ⟨h4, ?_⟩⟩
      have : k' ≠ k := fun z => e (by rw [h3, h4, z])
      omega
theorem TB.s {M : SS} {y s : Nat} (h : TB lo hi o M0 M y s (o + 1)) : TB lo hi o M0 M y (s + 1) 0 :=
  ⟨h.1, fun y' s' k' h1 h2 h3 => h.2 y' s' k' h1 h2 (by omega)⟩
theorem TB.y {M : SS} {y : Nat} (h : TB lo hi o M0 M y 61 0) : TB lo hi o M0 M (y + 1) 0 0 :=
  ⟨h.1, fun y' s' k' h1 h2 h3 => h.2 y' s' k' h1 h2 (by omega)⟩
theorem TB.row {M : SS} {y s k : Nat} (h : TB lo hi o M0 M (y + 1) s k) : row lo hi y o M := fun s' k' h1 h2 => h.2 y s' k' h1 h2 (Or.inl (by omega))
theorem tb13 (ho : o ≤ 60) {s : Nat} (hs : s ≤ 60) (k3 : SS → Int32 → Int32 → Int32 → Int32 → Int32 → Option SS) (a3 a4 : Int32) : ∀ d k M f, k + d = o + 1 → d < f → TB lo hi o M0 M 0 s k → ∃ M', rM_findLast_L13 k3 f M (nI n) (nI o) a3 a4 (nI s) (nI k) = k3 M' (nI n) (nI o) a3 a4 (nI (s + 1)) ∧ TB lo hi o M0 M' 0 (s + 1) 0 := by
  intro d
  induction d with
  | zero =>
    intro k M f hk hf h
    obtain ⟨f', rfl⟩ : ∃ f', f = f' + 1 := ⟨f - 1, by omega⟩
    have e : k = o + 1 := by omega
    subst e
    exact ⟨M, by rw [rM_findLast_L13, if_pos (nI_lt (by omega) (by omega)), nI_1], h.s⟩
  | succ d ih =>
    intro k M f hk hf h
    obtain ⟨f', rfl⟩ : ∃ f', f = f' + 1 := ⟨f - 1, by omega⟩
    have e2 : (2 : Int32) * nI k = nI (lastV lo hi 0 s k) := by
      show _ = nI (2 * k)
      rw [← pk_mul]
      rfl
    obtain ⟨M', e1, e3⟩ := ih (k + 1) _ f' (by omega) (by omega) (h.put hs (by omega) ho)
    refine ⟨M', ?_, e3⟩
    rw [rM_findLast_L13, if_neg (nI_nlt (by omega) (by omega)), show rM_at 0 (nI s) (nI k) = _ from rat_eq 0 s k, Option.bind_some, if_pos (nI_inb (by unfold at3; omega) (by decide)), nI_ix (by unfold at3; omega), e2, nI_1]
    exact e1
theorem tb3 (ho : o ≤ 60) (a3 a4 : Int32) : ∀ d s M f, s + d = 61 → d < f → TB lo hi o M0 M 0 s 0 → ∃ M', rM_findLast_L3 f M (nI n) (nI o) a3 a4 (nI s) = rM_findLast_L51 FU M' (nI n) (nI o) a3 a4 1 ∧ TB lo hi o M0 M' 1 0 0 := by
  intro d
  induction d with
  | zero =>
    intro s M f hs hf h
    obtain ⟨f', rfl⟩ : ∃ f', f = f' + 1 := ⟨f - 1, by omega⟩
    have e : s = 61 := by omega
    subst e
    exact ⟨M, by rw [rM_findLast_L3, if_pos (by decide)], h.y⟩
  | succ d ih =>
    intro s M f hs hf h
    obtain ⟨f', rfl⟩ : ∃ f', f = f' + 1 := ⟨f - 1, by omega⟩
    obtain ⟨M1, e1, e2⟩ := tb13 (n := n) ho (show s ≤ 60 by omega) (rM_findLast_L3 f') a3 a4 (o + 1) 0 M FU (by omega) (by unfold FU; omega) h
    obtain ⟨M', e3, e4⟩ := ih (s + 1) M1 f' (by omega) (by omega) e2
    refine ⟨M', ?_, e4⟩
    rw [rM_findLast_L3, if_neg (show ¬ (60 : Int32) < nI s from nI_nlt (a := 60) (by omega) (by decide)), show rM_findLast_L13 (rM_findLast_L3 f') FU M (nI n) (nI o) a3 a4 (nI s) 0 = _ from e1]
    exact e3
theorem tb70 (ho : o ≤ 60) (hlo : lo ≤ 30) (hhi : hi ≤ 30) {y s : Nat} (hy : y < 8) (hs : s ≤ 60) (k51 : SS → Int32 → Int32 → Int32 → Int32 → Int32 → Option SS) (k60 : SS → Int32 → Int32 → Int32 → Int32 → Int32 → Int32 → Option SS) : ∀ d k M f, k + d = o + 1 → d < f → TB lo hi o M0 M (y + 1) s k → ∃ M', rM_findLast_L70 k51 k60 f M (nI n) (nI o) (nI lo) (nI hi) (nI (y + 1)) (nI s) (nI k) = k60 M' (nI n) (nI o) (nI lo) (nI hi) (nI (y + 1)) (nI (s + 1)) ∧ TB lo hi o M0 M' (y + 1) (s + 1) 0 := by
  intro d
  induction d with
  | zero =>
    intro k M f hk hf h
    obtain ⟨f', rfl⟩ : ∃ f', f = f' + 1 := ⟨f - 1, by omega⟩
    have e : k = o + 1 := by omega
    subst e
    exact ⟨M, by rw [rM_findLast_L70, if_pos (nI_lt (by omega) (by omega)), nI_1], h.s⟩
  | succ d ih =>
    intro k M f hk hf h
    obtain ⟨f', rfl⟩ : ∃ f', f = f' + 1 := ⟨f - 1, by omega⟩
    obtain ⟨M', e1, e3⟩ := ih (k + 1) _ f' (by omega) (by omega) (h.put hs (by omega) ho)
    have l1 : bestV (lastV lo hi y) (s + lo) k ≤ 10 + 2 * k + 10 * y := minP_le
    have l2 : bestV (lastV lo hi y) (s + hi) k ≤ 10 + 2 * k + 10 * y := minP_le
    refine ⟨M', ?_, e3⟩
    rw [rM_findLast_L70, if_neg (nI_nlt (by omega) (by omega)), nI_pred, nI_add, nI_add, bestOf_eq h.row (by omega) (show s + lo ≤ 90 by omega) (show k ≤ o by omega) ho, Option.bind_some, bestOf_eq h.row (by omega) (show s + hi ≤ 90 by omega) (show k ≤ o by omega) ho, Option.bind_some, rat_eq, Option.bind_some]
    unfold rM_findLast_J136
    have hb : inb (nI (at3 (y + 1) s k)) 33489 := nI_inb (by unfold at3; omega) (by decide)
    rw [if_pos hb, if_pos hb, nI_ix (by unfold at3; omega), nI_1]
    have em : lastV lo hi (y + 1) s k = max (bestV (lastV lo hi y) (s + lo) k) (bestV (lastV lo hi y) (s + hi) k) := rfl
    rw [em] at e1
    by_cases c : bestV (lastV lo hi y) (s + lo) k ≤ bestV (lastV lo hi y) (s + hi) k
    · rw [if_pos (nI_le c (by omega))]
      rw [Nat.max_eq_right c] at e1
      exact e1
    · rw [if_neg (nle (by omega) (by omega))]
      rw [Nat.max_eq_left (by omega)] at e1
      exact e1
theorem tb60 (ho : o ≤ 60) (hlo : lo ≤ 30) (hhi : hi ≤ 30) {y : Nat} (hy : y < 8) (k51 : SS → Int32 → Int32 → Int32 → Int32 → Int32 → Option SS) : ∀ d s M f, s + d = 61 → d < f → TB lo hi o M0 M (y + 1) s 0 → ∃ M', rM_findLast_L60 k51 f M (nI n) (nI o) (nI lo) (nI hi) (nI (y + 1)) (nI s) = k51 M' (nI n) (nI o) (nI lo) (nI hi) (nI (y + 2)) ∧ TB lo hi o M0 M' (y + 2) 0 0 := by
  intro d
  induction d with
  | zero =>
    intro s M f hs hf h
    obtain ⟨f', rfl⟩ : ∃ f', f = f' + 1 := ⟨f - 1, by omega⟩
    have e : s = 61 := by omega
    subst e
    exact ⟨M, by rw [rM_findLast_L60, if_pos (by decide), nI_1], h.y⟩
  | succ d ih =>
    intro s M f hs hf h
    obtain ⟨f', rfl⟩ : ∃ f', f = f' + 1 := ⟨f - 1, by omega⟩
    obtain ⟨M1, e1, e2⟩ := tb70 (n := n) ho hlo hhi hy (show s ≤ 60 by omega) k51 (rM_findLast_L60 k51 f') (o + 1) 0 M FU (by omega) (by unfold FU; omega) h
    obtain ⟨M', e3, e4⟩ := ih (s + 1) M1 f' (by omega) (by omega) e2
    refine ⟨M', ?_, e4⟩
    rw [rM_findLast_L60, if_neg (show ¬ (60 : Int32) < nI s from nI_nlt (a := 60) (by omega) (by decide)), show rM_findLast_L70 k51 (rM_findLast_L60 k51 f') FU M (nI n) (nI o) (nI lo) (nI hi) (nI (y + 1)) (nI s) 0 = _ from e1]
    exact e3
theorem tb51 (ho : o ≤ 60) (hlo : lo ≤ 30) (hhi : hi ≤ 30) (hn : n ≤ 8) : ∀ d y M f, y + d = n → d < f → TB lo hi o M0 M (y + 1) 0 0 → ∃ M', rM_findLast_L51 f M (nI n) (nI o) (nI lo) (nI hi) (nI (y + 1)) = some M' ∧ TB lo hi o M0 M' (n + 1) 0 0 := by
  intro d
  induction d with
  | zero =>
    intro y M f hy hf h
    obtain ⟨f', rfl⟩ : ∃ f', f = f' + 1 := ⟨f - 1, by omega⟩
    have e : y = n := by omega
    subst e
    exact ⟨M, by rw [rM_findLast_L51, if_pos (nI_lt (by omega) (by omega))], h⟩
  | succ d ih =>
    intro y M f hy hf h
    obtain ⟨f', rfl⟩ : ∃ f', f = f' + 1 := ⟨f - 1, by omega⟩
    obtain ⟨M1, e1, e2⟩ := tb60 (n := n) ho hlo hhi (show y < 8 by omega) (rM_findLast_L51 f') 61 0 M FU (by omega) (by unfold FU; omega) h
    obtain ⟨M', e3, e4⟩ := ih (y + 1) M1 f' (by omega) (by omega) e2
    refine ⟨M', ?_, e4⟩
    rw [rM_findLast_L51, if_neg (nI_nlt (by omega) (by omega)), show rM_findLast_L60 (rM_findLast_L51 f') FU M (nI n) (nI o) (nI lo) (nI hi) (nI (y + 1)) 0 = _ from e1]
    exact e3
theorem find_ok' (ho : o ≤ 60) (hlo : lo ≤ 30) (hhi : hi ≤ 30) (hn : n ≤ 8) (M : SS) : ∃ M', rM_findLast M (nI n) (nI o) (nI lo) (nI hi) = some M' ∧ (∀ x, x ≠ 167 → M' x = M x) ∧ ∀ y, y ≤ n → row lo hi y o M' := by
  have h0 : TB lo hi o M M 0 0 0 := ⟨fun _ _ => rfl, fun y' s' k' _ _ h => by omega⟩
  obtain ⟨M1, e1, e2⟩ := tb3 (n := n) ho (nI lo) (nI hi) 61 0 M FU (by omega) (by unfold FU; omega) h0
  obtain ⟨M', e3, e4⟩ := tb51 ho hlo hhi hn n 0 M1 FU (by omega) (by unfold FU; omega) e2
  refine ⟨M', ?_, e4.1, fun y hy s k h1 h2 => e4.2 y s k h1 h2 (Or.inl (by omega))⟩
  unfold rM_findLast
  rw [show rM_findLast_L3 FU M (nI n) (nI o) (nI lo) (nI hi) 0 = _ from e1]
  exact e3
theorem find_ok (ho : o ≤ 60) (hlh : lo ≤ hi) (hhi : hi ≤ 30) (hn : n ≤ 8) (M : SS) : ∃ M', rM_findLast M (nI n) (nI o) (nI lo) (nI hi) = some M' ∧ (∀ x, x ≠ 167 → M' x = M x) ∧ ∀ y, y ≤ n → row lo lo y o M' := by
  obtain ⟨M', h1, h2, h3⟩ := find_ok' ho (show lo ≤ 30 by omega) hhi hn M
  refine ⟨M', h1, h2, fun y hy => ?_⟩
  have h := h3 y hy
  unfold row at h ⊢
  rw [lastV_lo hlh] at h
  exact h
end Fill
/-! the questions -/
def mayL (a b c d : Int32) : Prop := inb a 61 ∧ inb b 61 ∧ inb c 9 ∧ inb (d / 100) 31 ∧ inb (d - d / 100 * 100) 31 ∧ ¬ d - d / 100 * 100 < d / 100
theorem mayLast_c (a b c d : Int32) : (mayL a b c d → cD_mayLast a b c d = some true ∧ rM_isLast a b c d = some true) ∧ (¬ mayL a b c d → cD_mayLast a b c d = some false ∧ rM_isLast a b c d = some false) := by
  have p1 : ∀ z : Int32, rM_in z 0 60 = some (decide (inb z 61)) := fun z => by rw [in_eq]; exact dec_c (inb_lit (by decide))
  have p2 : ∀ z : Int32, cD_within z 0 8 = some (decide (inb z 9)) := fun z => by rw [within_eq]; exact dec_c (inb_lit (by decide))
  have p3 : ∀ z : Int32, rM_in z 0 8 = some (decide (inb z 9)) := fun z => by rw [in_eq]; exact dec_c (inb_lit (by decide))
  have p4 : ∀ z : Int32, rM_in z 0 30 = some (decide (inb z 31)) := fun z => by rw [in_eq]; exact dec_c (inb_lit (by decide))
  have hm : mayL a b c d ↔ (decide (inb a 61) = true ∧ decide (inb b 61) = true ∧ decide (inb c 9) = true ∧ decide (inb (d / 100) 31) = true ∧ decide (inb (d - d / 100 * 100) 31) = true ∧ ¬ d - d / 100 * 100 < d / 100) := by
    unfold mayL
    simp only [decide_eq_true_eq]
  have hd : decide (inb (d / 100) 31) = true → decide (inb (d - d / 100 * 100) 31) = true → ¬ d < 0 := by
    intro c3 c4
    obtain ⟨q, hq, eq⟩ := inb_ex (of_decide_eq_true c3)
    obtain ⟨r, hr, er⟩ := inb_ex (of_decide_eq_true c4)
    have : d = nI (r + q * 100) := by
      have e : d = (d - d / 100 * 100) + d / 100 * 100 := (Int32.sub_add_cancel _ _).symm
      rw [er, eq] at e
      rw [e, show (100 : Int32) = nI 100 from rfl, pk_mul, nI_add]
    rw [this]
    exact nI_pos (by omega)
  rw [hm]
  unfold cD_mayLast rM_isLast
  simp only [cD_isPurse_eq, cD_isHarvest_eq, p1, p2, p3, p4, Option.bind_some]
  generalize decide (inb a 61) = A
  generalize decide (inb b 61) = B
  generalize decide (inb c 9) = C
  generalize decide (inb (d / 100) 31) = D at hd ⊢
  generalize decide (inb (d - d / 100 * 100) 31) = E at hd ⊢
  by_cases c5 : d - d / 100 * 100 < d / 100
  · by_cases hneg : d < 0
    · simp only [if_pos c5, if_pos hneg]
      cases A <;> cases B <;> cases C <;> cases D <;> cases E <;> first | exact absurd hneg (hd rfl rfl) | simp [c5]
    · simp only [if_pos c5, if_neg hneg]
      cases A <;> cases B <;> cases C <;> cases D <;> cases E <;> simp [c5]
  · by_cases hneg : d < 0
    · simp only [if_neg c5, if_pos hneg]
      cases A <;> cases B <;> cases C <;> cases D <;> cases E <;> first | exact absurd hneg (hd rfl rfl) | simp [c5]
    · simp only [if_neg c5, if_neg hneg]
      cases A <;> cases B <;> cases C <;> cases D <;> cases E <;> simp [c5]
theorem sim_last (S : SS) (K : KS) (T : TS) (X : XS) (M : SS) (z0 z1 z2 z3 : Int32) (hR : Rel S K T X M) : ∃ p q, cD_last S K z0 z1 z2 z3 = some p ∧ rM_last M z0 z1 z2 z3 = some q ∧ p.1 = q.1 ∧ Rel p.2.1 p.2.2 T X q.2 := by
  unfold cD_last rM_last
  by_cases h : mayL z0 z1 z2 z3
  · obtain ⟨m1, m2⟩ := (mayLast_c z0 z1 z2 z3).1 h
    obtain ⟨c0, c1, c2, c3, c4, c5⟩ := h
    obtain ⟨s, hs, rfl⟩ := inb_ex c0
    obtain ⟨o, ho, rfl⟩ := inb_ex c1
    obtain ⟨n, hn, rfl⟩ := inb_ex c2
    obtain ⟨lo, hlo, e3⟩ := inb_ex c3
    obtain ⟨hi, hhi, e4⟩ := inb_ex c4
    have hlh : lo ≤ hi := by
      rw [e4, e3] at c5
      by_cases z : hi < lo
      · exact absurd (nI_lt z (by omega)) c5
      · omega
    rw [m1, m2, Option.bind_some, Option.bind_some, if_pos rfl, if_pos rfl, e4, e3]
    obtain ⟨S', K', a1, a2, a4, a5⟩ := expect_ok (hR.2.2.2.2.2.2.1) (show lo ≤ 30 by omega)
    obtain ⟨M', b1, b2, b3⟩ := find_ok (show o ≤ 60 by omega) hlh (show hi ≤ 30 by omega) (show n ≤ 8 by omega) M
    obtain ⟨K2, d1, d2⟩ := rSure_ok a2 (by omega) n 13 (by omega) (by omega) K' s o a5 (by omega) (by omega)
    rw [a1, b1, Option.bind_some, Option.bind_some, rat_eq, Option.bind_some, if_pos (nI_inb (by unfold at3; omega) (by decide)), nI_ix (by unfold at3; omega), b3 n (Nat.le_refl _) s o (by omega) (Nat.le_refl _)]
    unfold cThrift_sureHunger_r
    rw [show cThrift_sureHunger (rSure S' 12) S' K' (nI s) (nI o) (nI n) = _ from d1, Option.bind_some]
    exact ⟨_, _, rfl, rfl, rfl, hR.thrift a4 b2 (d2.th a2 (by omega))⟩
  · obtain ⟨m1, m2⟩ := (mayLast_c z0 z1 z2 z3).2 h
    rw [m1, m2, Option.bind_some, Option.bind_some, if_neg (by decide), if_neg (by decide), found_eq, finds_eq]
    exact ⟨_, _, rfl, rfl, rfl, hR.fnd⟩
theorem pays_go {lo hi y : Nat} {S : SS} {M : SS} (hF : FT lo hi y (rSure S 12)) {s h o m : Nat} (hr : row lo hi y o M) (hy : y ≤ 7) (hh : s + h ≤ 90) (ho : o ≤ 60) (hm : m = min 9 (min (s + h) o)) : ∀ d p K f g, p + d = m → d < f → d < g → MK lo hi K → (∀ p', p' < p → gP (lastV lo hi y) (s + h) o p' ≠ minTo (gP (lastV lo hi y) (s + h) o) m) → ∃ v K', cThrift_bestPayment_L19 S f K (nI (s + h)) (nI o) (nI (y + 1)) (nI m) (nI (minTo (gP (lastV lo hi y) (s + h) o) m)) (nI p) = some (v, K') ∧ rM_pays_L70 g M (nI s) (nI o) (nI (y + 1)) (nI h) (nI p) = some (v, M) ∧ MK lo hi K' := by
  have bm : minTo (gP (lastV lo hi y) (s + h) o) m ≤ 10 + 2 * o + 10 * y := minP_le
  have bp : ∀ p, gP (lastV lo hi y) (s + h) o p ≤ 10 + 2 * o + 10 * y := fun p => gP_le
  have best : rM_bestOf M (nI y) (nI (s + h)) (nI o) = some (nI (minTo (gP (lastV lo hi y) (s + h) o) m)) := by
    rw [bestOf_eq hr (by omega) hh (Nat.le_refl _) ho, bestV_eq, ← hm]
  intro d
  induction d with
  | zero =>
    intro p K f g hp hf hg hK hno
    obtain ⟨f', rfl⟩ : ∃ f', f = f' + 1 := ⟨f - 1, by omega⟩
    obtain ⟨g', rfl⟩ : ∃ g', g = g' + 1 := ⟨g - 1, by omega⟩
    have e : p = m := by omega
    subst e
    obtain ⟨p', h1, h2⟩ := minTo_ex (gP (lastV lo hi y) (s + h) o) p
    have e : p' = p := by
      by_cases z : p' < p
      · exact absurd h2 (hno p' z)
      · omega
    subst e
    refine ⟨nI p', K, ?_, ?_, hK⟩
    · rw [cThrift_bestPayment_L19, if_pos (Int32.le_refl _)]
    · rw [rM_pays_L70, nI_pred, nI_add, byP_eq hr (by omega) hh (Nat.le_refl _) ho (by omega), Option.bind_some, best, Option.bind_some, if_pos (by rw [h2])]
  | succ d ih =>
    intro p K f g hp hf hg hK hno
    obtain ⟨f', rfl⟩ : ∃ f', f = f' + 1 := ⟨f - 1, by omega⟩
    obtain ⟨g', rfl⟩ : ∃ g', g = g' + 1 := ⟨g - 1, by omega⟩
    obtain ⟨K1, a1, a2⟩ := paying_eq (S := S) hF hK hh ho (show p ≤ min 9 (min (s + h) o) by omega)
    have b2 := bp p
    have hle : minTo (gP (lastV lo hi y) (s + h) o) m ≤ gP (lastV lo hi y) (s + h) o p := minTo_le (by omega)
    rw [cThrift_bestPayment_L19, if_neg (nle (by omega) (by omega)), rM_pays_L70, nI_pred, nI_add, byP_eq hr (by omega) hh (Nat.le_refl _) ho (by omega), Option.bind_some, best, Option.bind_some]
    unfold cThrift_paying_r
    rw [a1, Option.bind_some]
    dsimp only
    by_cases c : gP (lastV lo hi y) (s + h) o p = minTo (gP (lastV lo hi y) (s + h) o) m
    · rw [if_pos (nI_le (by omega) (by omega)), if_pos (by rw [c])]
      exact ⟨nI p, K1, rfl, rfl, a2⟩
    · rw [if_neg (nle (by omega) (by omega)), if_neg (fun z => c ((nI_eq (by omega) (by omega)).mp z)), nI_1]
      exact ih (p + 1) K1 f' g' (by omega) (by omega) (by omega) a2 (fun p' hp' => by
        by_cases e : p' = p
        · subst e; exact c
        · exact hno p' (by omega))
theorem sim_pays (S : SS) (K : KS) (T : TS) (X : XS) (M : SS) (z0 z1 z2 z3 z4 : Int32) (hR : Rel S K T X M) : ∃ p q, cD_pays S K z0 z1 z2 z3 z4 = some p ∧ rM_pays M z0 z1 z2 z3 z4 = some q ∧ p.1 = q.1 ∧ Rel p.2.1 p.2.2 T X q.2 := by
  have bad : ∃ p q, cD_pays_J15 S K = some p ∧ rM_pays_J15 M = some q ∧ p.1 = q.1 ∧ Rel p.2.1 p.2.2 T X q.2 := by
    unfold cD_pays_J15 rM_pays_J15
    rw [found_eq, finds_eq]
    exact ⟨_, _, rfl, rfl, rfl, hR.fnd⟩
  unfold cD_pays rM_pays
  by_cases h : mayL z0 z1 z2 z3
  · obtain ⟨m1, m2⟩ := (mayLast_c z0 z1 z2 z3).1 h
    obtain ⟨c0, c1, c2, c3, c4, c5⟩ := h
    obtain ⟨s, hs, rfl⟩ := inb_ex c0
    obtain ⟨o, ho, rfl⟩ := inb_ex c1
    obtain ⟨n, hn, rfl⟩ := inb_ex c2
    obtain ⟨lo, hlo, e3⟩ := inb_ex c3
    obtain ⟨hi, hhi, e4⟩ := inb_ex c4
    have hlh : lo ≤ hi := by
      rw [e4, e3] at c5
      by_cases z : hi < lo
      · exact absurd (nI_lt z (by omega)) c5
      · omega
    rw [m1, m2, Option.bind_some, Option.bind_some, if_pos rfl, if_pos rfl]
    by_cases cn : n = 0
    · subst cn
      rw [if_pos nI_0, if_pos nI_0]
      exact bad
    · rw [if_neg (nI_ne0 (by omega) (by omega)), if_neg (nI_ne0 (by omega) (by omega))]
      obtain ⟨y, rfl⟩ : ∃ y, n = y + 1 := ⟨n - 1, by omega⟩
      have main : ∀ t : Nat, t ≤ 30 → z4 = nI t → ∃ p q, cD_pays_J57 S K (nI s) (nI o) (nI (y + 1)) z4 (z3 / 100) = some p ∧ rM_pays_J49 M (nI s) (nI o) (nI (y + 1)) z3 z4 = some q ∧ p.1 = q.1 ∧ Rel p.2.1 p.2.2 T X q.2 := by
        intro t ht et
        unfold cD_pays_J57 rM_pays_J49
        rw [e4, e3, et]
        obtain ⟨S', K', a1, a2, a4, a5⟩ := expect_ok (hR.2.2.2.2.2.2.1) (show lo ≤ 30 by omega)
        obtain ⟨M', b1, b2, b3⟩ := find_ok (show o ≤ 60 by omega) hlh (show hi ≤ 30 by omega) (show y ≤ 8 by omega) M
        have hF := rSure_ok a2 (by omega) y 12 (by omega) (by omega)
        obtain ⟨K1, d1, d2⟩ := leastH_eq (S := S') hF a5 (show y ≤ 8 by omega) (show s + t ≤ 90 by omega) (show o ≤ 60 by omega)
        obtain ⟨v, K2, g1, g2, g3⟩ := pays_go (S := S') (M := M') hF (s := s) (h := t) (o := o) (b3 y (Nat.le_refl _)) (by omega) (by omega) (by omega) rfl (min 9 (min (s + t) o)) 0 K1 FU FU (by omega) (by unfold FU; omega) (by unfold FU; omega) d2 (fun p' hp' => absurd hp' (by omega))
        rw [a1, Option.bind_some, nI_pred, b1, Option.bind_some, nI_add]
        unfold cThrift_bestPayment cThrift_leastHunger_r
        rw [cmost_eq (by omega) (by omega), Option.bind_some, d1, Option.bind_some]
        rw [show cThrift_bestPayment_L19 S' FU K1 (nI (s + t)) (nI o) (nI (y + 1)) (nI (min 9 (min (s + t) o))) (nI (bestV (lastV lo lo y) (s + t) o)) 0 = _ from g1, show rM_pays_L70 FU M' (nI s) (nI o) (nI (y + 1)) (nI t) 0 = _ from g2, Option.bind_some]
        exact ⟨_, _, rfl, rfl, rfl, hR.thrift a4 b2 (g3.th a2 (by omega))⟩
      by_cases d1 : z4 = z3 / 100
      · rw [if_pos d1, if_pos d1]
        exact main lo (by omega) (d1.trans e3)
      · rw [if_neg d1, if_neg d1]
        by_cases d2 : z4 = z3 - z3 / 100 * 100
        · rw [if_pos d2, if_pos d2]
          exact main hi (by omega) (d2.trans e4)
        · rw [if_neg d2, if_neg d2, found_eq, finds_eq]
          exact ⟨_, _, rfl, rfl, rfl, hR.fnd⟩
  · obtain ⟨m1, m2⟩ := (mayLast_c z0 z1 z2 z3).2 h
    rw [m1, m2, Option.bind_some, Option.bind_some, if_neg (by decide), if_neg (by decide)]
    exact bad
