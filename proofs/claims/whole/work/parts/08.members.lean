/-! ===== members of the layout's rows; truth as a number ===== -/
section Mem
variable {k : Nat} {tl : Nat → Nat}
theorem kdA {x : Nat} (h : 9 ≤ x ∧ x < 71) : kd x = kdl (x - 9) := by unfold kd; rw [if_pos h]
theorem kdB {x : Nat} (h : 71 ≤ x ∧ x < 133) : kd x = kdl (x - 71) := by unfold kd; rw [if_neg (by omega), if_pos h]
theorem scA {x j : Nat} (h : 9 ≤ x ∧ x < 71) : sc x j = scl (x - 9) j := by unfold sc; rw [if_pos h]
theorem scB {x j : Nat} (h : 71 ≤ x ∧ x < 133) : sc x j = scl (x - 71) j := by unfold sc; rw [if_neg (by omega), if_pos h]
theorem kdl_P {r : Nat} (h : 8 ≤ r) (h2 : r < 22) : kdl r = 6 := by unfold kdl; rw [if_neg (by omega), if_pos h2]
theorem kdl_F {r : Nat} (h : 22 ≤ r) (h2 : r < 30) : kdl r = 2 := by unfold kdl; rw [if_neg (by omega), if_neg (by omega), if_pos h2]
theorem kdl_A {r : Nat} (h : 30 ≤ r) (h2 : r < 50) : kdl r = 5 := by unfold kdl; rw [if_neg (by omega), if_neg (by omega), if_neg (by omega), if_pos h2]
theorem kdl_L {r : Nat} (h : 50 ≤ r) : kdl r = 4 := by unfold kdl; rw [if_neg (by omega), if_neg (by omega), if_neg (by omega), if_neg (by omega)]
theorem scl_0 {r j : Nat} (h : 8 ≤ r) (h2 : r < 50) : scl r j = 0 := by unfold scl; rw [if_neg (by omega), if_neg (by omega), if_neg (by omega), if_pos h2]
theorem scl_L {r j : Nat} (h : 50 ≤ r) : scl r j = if j = 0 then 2 else 0 := by unfold scl; rw [if_neg (by omega), if_neg (by omega), if_neg (by omega), if_neg (by omega)]
theorem obP {i : Nat} (h : i < 14) : ob k (17 + i) 6 := ⟨by omega, by omega, by rw [kdA (by omega), kdl_P (by omega) (by omega)]⟩
theorem obP' {i : Nat} (h : i < 14) : ob k (79 + i) 6 := ⟨by omega, by omega, by rw [kdB (by omega), kdl_P (by omega) (by omega)]⟩
theorem obF {i : Nat} (h : i < 8) : ob k (31 + i) 2 := ⟨by omega, by omega, by rw [kdA (by omega), kdl_F (by omega) (by omega)]⟩
theorem obF' {i : Nat} (h : i < 8) : ob k (93 + i) 2 := ⟨by omega, by omega, by rw [kdB (by omega), kdl_F (by omega) (by omega)]⟩
theorem obA {i : Nat} (h : i < 20) : ob k (39 + i) 5 := ⟨by omega, by omega, by rw [kdA (by omega), kdl_A (by omega) (by omega)]⟩
theorem obA' {i : Nat} (h : i < 20) : ob k (101 + i) 5 := ⟨by omega, by omega, by rw [kdB (by omega), kdl_A (by omega) (by omega)]⟩
theorem obL_ {i : Nat} (h : i < 12) : ob k (59 + i) 4 := ⟨by omega, by omega, by rw [kdA (by omega), kdl_L (by omega)]⟩
theorem obL_' {i : Nat} (h : i < 12) : ob k (121 + i) 4 := ⟨by omega, by omega, by rw [kdB (by omega), kdl_L (by omega)]⟩
theorem scP {i j : Nat} (h : i < 14) : sc (17 + i) j = 0 := by rw [scA (by omega), scl_0 (by omega) (by omega)]
theorem scP' {i j : Nat} (h : i < 14) : sc (79 + i) j = 0 := by rw [scB (by omega), scl_0 (by omega) (by omega)]
theorem scF {i j : Nat} (h : i < 8) : sc (31 + i) j = 0 := by rw [scA (by omega), scl_0 (by omega) (by omega)]
theorem scF' {i j : Nat} (h : i < 8) : sc (93 + i) j = 0 := by rw [scB (by omega), scl_0 (by omega) (by omega)]
theorem scA_ {i j : Nat} (h : i < 20) : sc (39 + i) j = 0 := by rw [scA (by omega), scl_0 (by omega) (by omega)]
theorem scA_' {i j : Nat} (h : i < 20) : sc (101 + i) j = 0 := by rw [scB (by omega), scl_0 (by omega) (by omega)]
theorem scL0 {i : Nat} (h : i < 12) : sc (59 + i) 0 = 2 := by rw [scA (by omega), scl_L (by omega)]; rfl
theorem scL0' {i : Nat} (h : i < 12) : sc (121 + i) 0 = 2 := by rw [scB (by omega), scl_L (by omega)]; rfl
theorem scL1 {i : Nat} (h : i < 12) : sc (59 + i) 1 = 0 := by rw [scA (by omega), scl_L (by omega)]; rfl
theorem scL1' {i : Nat} (h : i < 12) : sc (121 + i) 1 = 0 := by rw [scB (by omega), scl_L (by omega)]; rfl
theorem scL2 {i : Nat} (h : i < 12) : sc (59 + i) 2 = 0 := by rw [scA (by omega), scl_L (by omega)]; rfl
theorem scL2' {i : Nat} (h : i < 12) : sc (121 + i) 2 = 0 := by rw [scB (by omega), scl_L (by omega)]; rfl
theorem scPr {q : Nat} (_ : q < 14) : sc 10 q = 3 := rfl
theorem scPr' {q : Nat} (_ : q < 14) : sc 72 q = 3 := rfl
theorem scFr {q : Nat} (_ : q < 8) : sc 11 q = 3 := rfl
theorem scFr' {q : Nat} (_ : q < 8) : sc 73 q = 3 := rfl
theorem scAr {q : Nat} (_ : q < 20) : sc 12 q = 3 := rfl
theorem scAr' {q : Nat} (_ : q < 20) : sc 74 q = 3 := rfl
theorem scLr {q : Nat} (_ : q < 12) : sc 13 q = 3 := rfl
theorem scLr' {q : Nat} (_ : q < 12) : sc 75 q = 3 := rfl
theorem rfP {q : Nat} (_ : q < 14) : rf 10 q = 17 + q := rfl
theorem rfP' {q : Nat} (_ : q < 14) : rf 72 q = 79 + q := rfl
theorem rfF {q : Nat} (_ : q < 8) : rf 11 q = 31 + q := rfl
theorem rfF' {q : Nat} (_ : q < 8) : rf 73 q = 93 + q := rfl
theorem rfA {q : Nat} (_ : q < 20) : rf 12 q = 39 + q := rfl
theorem rfA' {q : Nat} (_ : q < 20) : rf 74 q = 101 + q := rfl
theorem rfL {q : Nat} (_ : q < 12) : rf 13 q = 59 + q := rfl
theorem rfL' {q : Nat} (_ : q < 12) : rf 75 q = 121 + q := rfl
theorem h4 {i : Nat} {P : Nat → Prop} (h : i < 4) (h0 : P 0) (h1 : P 1) (h2 : P 2) (h3 : P 3) : P i := by
  have : i = 0 ∨ i = 1 ∨ i = 2 ∨ i = 3 := by omega
  rcases this with rfl | rfl | rfl | rfl <;> assumption
theorem obH {i : Nat} (h : i < 4) : ob k (146 + 2 * i) 9 := h4 (P := fun i => ob k (146 + 2 * i) 9) h (obL (by decide)) (obL (by decide)) (obL (by decide)) (obL (by decide))
theorem obHn {i : Nat} (h : i < 4) : ob k (147 + 2 * i) 20 := h4 (P := fun i => ob k (147 + 2 * i) 20) h (obL (by decide)) (obL (by decide)) (obL (by decide)) (obL (by decide))
theorem scH0 {i : Nat} (h : i < 4) : sc (146 + 2 * i) 0 = 3 := h4 (P := fun i => sc (146 + 2 * i) 0 = 3) h rfl rfl rfl rfl
theorem scH1 {i : Nat} (h : i < 4) : sc (146 + 2 * i) 1 = 0 := h4 (P := fun i => sc (146 + 2 * i) 1 = 0) h rfl rfl rfl rfl
theorem scH2 {i : Nat} (h : i < 4) : sc (146 + 2 * i) 2 = 0 := h4 (P := fun i => sc (146 + 2 * i) 2 = 0) h rfl rfl rfl rfl
theorem rfH {i : Nat} (h : i < 4) : rf (146 + 2 * i) 0 = 147 + 2 * i := h4 (P := fun i => rf (146 + 2 * i) 0 = 147 + 2 * i) h rfl rfl rfl rfl
theorem scHn {i j : Nat} (h : i < 4) : sc (147 + 2 * i) j = 0 := h4 (P := fun i => sc (147 + 2 * i) j = 0) h rfl rfl rfl rfl
theorem lnHn {i : Nat} (h : i < 4) : ln tl (147 + 2 * i) < 2 ^ 31 := h4 (P := fun i => ln tl (147 + 2 * i) < 2 ^ 31) h (by show 20 < _; decide) (by show 20 < _; decide) (by show 20 < _; decide) (by show 20 < _; decide)
theorem lnHn' {i : Nat} (h : i < 4) : ln tl (147 + 2 * i) = 20 := h4 (P := fun i => ln tl (147 + 2 * i) = 20) h rfl rfl rfl rfl
end Mem
def bI (p : Prop) [Decidable p] : Int32 := if p then 1 else 0
theorem bI_t {p : Prop} [Decidable p] (h : p) : bI p = 1 := if_pos h
theorem bI_f {p : Prop} [Decidable p] (h : ¬ p) : bI p = 0 := if_neg h
theorem bI_z {p : Prop} [Decidable p] : bI p = 0 ∨ bI p = 1 := by by_cases h : p; exact Or.inr (bI_t h); exact Or.inl (bI_f h)
theorem bI_n {p : Prop} [Decidable p] : narrow .boolean (.int (bI p)) = .int (bI p) := (nfit (Or.inr ⟨rfl, bI_z⟩)).1
theorem bI_0 {p : Prop} [Decidable p] : bI p = 0 ↔ ¬ p := by by_cases h : p; rw [bI_t h]; exact ⟨fun q => absurd q (by decide), fun q => absurd h q⟩; rw [bI_f h]; exact ⟨fun _ => h, fun _ => rfl⟩
theorem bI_1 {p : Prop} [Decidable p] : bI p ≠ 0 ↔ p := by rw [Ne, bI_0]; exact Decidable.not_not
theorem bI_eq {p q : Prop} [Decidable p] [Decidable q] (h : p ↔ q) : bI p = bI q := by by_cases hp : p; rw [bI_t hp, bI_t (h.mp hp)]; rw [bI_f hp, bI_f (fun z => hp (h.mpr z))]
