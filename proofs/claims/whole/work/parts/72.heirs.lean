/-! ===== heirs: the least number, 0 as none; sums over paths ===== -/
def mn (a b : Nat) : Nat := if a = 0 then b else if b = 0 then a else min a b
theorem mn_0 (a : Nat) : mn a 0 = a := by
  unfold mn
  split
  · omega
  · rw [if_pos rfl]
theorem mn_0l (a : Nat) : mn 0 a = a := by
  unfold mn
  rw [if_pos rfl]
theorem mn_comm (a b : Nat) : mn a b = mn b a := by
  unfold mn
  repeat' split
  all_goals omega
theorem mn_assoc (a b c : Nat) : mn (mn a b) c = mn a (mn b c) := by
  unfold mn
  repeat' split
  all_goals omega
theorem mn_pos {a b : Nat} : 0 < mn a b ↔ 0 < a ∨ 0 < b := by
  unfold mn
  repeat' split
  all_goals omega
theorem mn_le {a b m : Nat} (ha : a ≤ m) (hb : b ≤ m) : mn a b ≤ m := by
  unfold mn
  repeat' split
  all_goals omega
theorem mul_mn (c a b : Nat) : c * mn a b = mn (c * a) (c * b) := by
  by_cases hc : c = 0
  · subst hc
    rw [Nat.zero_mul, Nat.zero_mul, Nat.zero_mul]
    rfl
  · have e : ∀ x, c * x = 0 ↔ x = 0 := fun x => by
      rw [Nat.mul_eq_zero]
      omega
    unfold mn
    by_cases ha : a = 0
    · rw [if_pos ha, if_pos ((e a).mpr ha)]
    · rw [if_neg ha, if_neg (fun z => ha ((e a).mp z))]
      by_cases hb : b = 0
      · rw [if_pos hb, if_pos ((e b).mpr hb)]
      · rw [if_neg hb, if_neg (fun z => hb ((e b).mp z))]
        rcases Nat.le_total a b with h | h
        · rw [Nat.min_eq_left h, Nat.min_eq_left (Nat.mul_le_mul_left c h)]
        · rw [Nat.min_eq_right h, Nat.min_eq_right (Nat.mul_le_mul_left c h)]
def sm (f : Nat → Nat) : Nat → Nat
  | 0 => 0
  | n + 1 => mn (sm f n) (f n)
theorem sm_s (f : Nat → Nat) (n : Nat) : sm f (n + 1) = mn (sm f n) (f n) := rfl
theorem sm_cong {f g : Nat → Nat} : ∀ n, (∀ i, i < n → f i = g i) → sm f n = sm g n := by
  intro n
  induction n with
  | zero => intro _; rfl
  | succ n ih =>
    intro h
    rw [sm_s, sm_s, ih (fun i hi => h i (by omega)), h n (by omega)]
theorem sm_z : ∀ n, sm (fun _ => 0) n = 0 := by
  intro n
  induction n with
  | zero => rfl
  | succ n ih => rw [sm_s, ih]; rfl
theorem sm_zero {f : Nat → Nat} (n : Nat) (h : ∀ i, i < n → f i = 0) : sm f n = 0 := (sm_cong n h).trans (sm_z n)
theorem sm_mn (f g : Nat → Nat) : ∀ n, sm (fun i => mn (f i) (g i)) n = mn (sm f n) (sm g n) := by
  intro n
  induction n with
  | zero => rfl
  | succ n ih =>
    rw [sm_s, sm_s, sm_s, ih, mn_assoc, mn_assoc]
    congr 1
    rw [← mn_assoc, ← mn_assoc, mn_comm (sm g n)]
theorem sm_mul (c : Nat) (f : Nat → Nat) : ∀ n, c * sm f n = sm (fun i => c * f i) n := by
  intro n
  induction n with
  | zero => rfl
  | succ n ih => rw [sm_s, sm_s, mul_mn, ih]
theorem sm_swap (F : Nat → Nat → Nat) (m : Nat) : ∀ n, sm (fun i => sm (fun j => F i j) m) n = sm (fun j => sm (fun i => F i j) n) m := by
  intro n
  induction n with
  | zero => exact (sm_z m).symm
  | succ n ih =>
    rw [sm_s, ih, ← sm_mn]
    rfl
theorem sm_one (f : Nat → Nat) {r : Nat} : ∀ n, r < n → (∀ i, i < n → i ≠ r → f i = 0) → sm f n = f r := by
  intro n
  induction n with
  | zero => intro h _; omega
  | succ n ih =>
    intro hr h
    rw [sm_s]
    by_cases e : r = n
    · subst e
      rw [sm_zero r (fun i hi => h i (by omega) (by omega)), mn_0l]
    · rw [ih (by omega) (fun i hi hn => h i (by omega) hn), h n (by omega) (fun z => e z.symm), mn_0]
theorem sm_pos (f : Nat → Nat) : ∀ n, 0 < sm f n ↔ ∃ i, i < n ∧ 0 < f i := by
  intro n
  induction n with
  | zero => exact ⟨fun h => absurd h (Nat.lt_irrefl 0), fun ⟨i, h, _⟩ => absurd h (by omega)⟩
  | succ n ih =>
    rw [sm_s, mn_pos, ih]
    constructor
    · rintro (⟨i, h1, h2⟩ | h)
      · exact ⟨i, by omega, h2⟩
      · exact ⟨n, by omega, h⟩
    · rintro ⟨i, h1, h2⟩
      by_cases e : i = n
      · subst e
        exact Or.inr h2
      · exact Or.inl ⟨i, by omega, h2⟩
theorem sm_le {f : Nat → Nat} {m : Nat} : ∀ n, (∀ i, i < n → f i ≤ m) → sm f n ≤ m := by
  intro n
  induction n with
  | zero => intro _; exact Nat.zero_le _
  | succ n ih =>
    intro h
    rw [sm_s]
    exact mn_le (ih (fun i hi => h i (by omega))) (h n (by omega))
def cntF (P : Nat → Bool) : Nat → Nat
  | 0 => 0
  | n + 1 => cntF P n + (if P n = true then 1 else 0)
theorem cntF_s (P : Nat → Bool) (n : Nat) : cntF P (n + 1) = cntF P n + (if P n = true then 1 else 0) := rfl
theorem cntF_le (P : Nat → Bool) : ∀ n, cntF P n ≤ n := by
  intro n
  induction n with
  | zero => exact Nat.le_refl _
  | succ n ih =>
    rw [cntF_s]
    split <;> omega
theorem cntF_pos (P : Nat → Bool) : ∀ n, 0 < cntF P n ↔ ∃ i, i < n ∧ P i = true := by
  intro n
  induction n with
  | zero => exact ⟨fun h => absurd h (Nat.lt_irrefl 0), fun ⟨i, h, _⟩ => absurd h (by omega)⟩
  | succ n ih =>
    rw [cntF_s]
    constructor
    · intro h
      by_cases c : P n = true
      · exact ⟨n, by omega, c⟩
      · rw [if_neg c] at h
        obtain ⟨i, h1, h2⟩ := ih.mp h
        exact ⟨i, by omega, h2⟩
    · rintro ⟨i, h1, h2⟩
      by_cases e : i = n
      · subst e
        rw [if_pos h2]
        omega
      · have := ih.mpr ⟨i, by omega, h2⟩
        omega
theorem cntF_zero {P : Nat → Bool} (n : Nat) (h : ∀ i, i < n → P i = false) : cntF P n = 0 := by
  by_cases c : 0 < cntF P n
  · obtain ⟨i, h1, h2⟩ := (cntF_pos P n).mp c
    rw [h i h1] at h2
    cases h2
  · omega
/-! who lives, who is a child of whom -/
def al (N : Nat → Int32) (p : Nat) : Bool := decide (N (10 + 10 * p + 3) < 0)
def chd (N : Nat → Int32) (c p : Nat) : Bool := decide (N (10 + 10 * c + 1) = nI p ∨ N (10 + 10 * c + 2) = nI p)
def hasH (N : Nat → Int32) (np : Nat) : Nat → Nat → Bool
  | 0, p => al N p
  | k + 1, p => al N p || decide (0 < cntF (fun c => decide (p < c) && chd N c p && hasH N np k c) np)
def edg (N : Nat → Int32) (np k p c : Nat) : Bool := decide (p < c) && chd N c p && hasH N np k c
def nsh (N : Nat → Int32) (np : Nat) : Nat → Nat → Nat
  | 0, _ => 0
  | k + 1, p => cntF (edg N np k p) np
theorem hasH_eq (N : Nat → Int32) (np k p : Nat) : hasH N np k p = (al N p || decide (0 < nsh N np k p)) := by
  cases k with
  | zero =>
    rw [decide_eq_false (show ¬ 0 < nsh N np 0 p from Nat.lt_irrefl 0), Bool.or_false]
    rfl
  | succ k => rfl
def shr (N : Nat → Int32) (np : Nat) : Nat → Nat → Nat → Nat
  | 0, p, q => if al N p = true ∧ p = q then 1 else 0
  | k + 1, p, q => if al N p = true then (if p = q then 1 else 0) else nsh N np (k + 1) p * sm (fun c => if edg N np k p c = true then shr N np k c q else 0) np
def fwd (N : Nat → Int32) (np r : Nat) : Nat → Nat → Nat
  | 0, p => if p = r then 1 else 0
  | l + 1, c => sm (fun p => if al N p = false ∧ edg N np (4 - l) p c = true then fwd N np r l p * nsh N np (5 - l) p else 0) np
def prt (N : Nat → Int32) (np r q : Nat) : Nat := if al N q = true then sm (fun l => fwd N np r l q) 6 else 0
section Heirs
variable {N : Nat → Int32} {np : Nat}
theorem shr_al {k p q : Nat} (h : al N p = true) : shr N np k p q = if p = q then 1 else 0 := by
  cases k with
  | zero =>
    unfold shr
    by_cases e : p = q
    · rw [if_pos ⟨h, e⟩, if_pos e]
    · rw [if_neg (fun z => e z.2), if_neg e]
  | succ k =>
    unfold shr
    rw [if_pos h]
theorem shr_0 {p q : Nat} (h : al N p = false) : shr N np 0 p q = 0 := by
  unfold shr
  rw [if_neg (by rw [h]; exact fun z => Bool.noConfusion z.1)]
theorem shr_s {k p q : Nat} (h : al N p = false) : shr N np (k + 1) p q = nsh N np (k + 1) p * sm (fun c => if edg N np k p c = true then shr N np k c q else 0) np := by
  rw [shr, if_neg (by rw [h]; decide)]
theorem shr_pos_s {k p q : Nat} (h : al N p = false) : 0 < shr N np (k + 1) p q ↔ 0 < sm (fun c => if edg N np k p c = true then shr N np k c q else 0) np := by
  rw [shr_s h]
  constructor
  · intro hh
    exact Nat.pos_of_ne_zero (fun z => by rw [z, Nat.mul_zero] at hh; omega)
  · intro hh
    refine Nat.mul_pos ?_ hh
    obtain ⟨c, hc, h2⟩ := (sm_pos _ _).mp hh
    refine (cntF_pos _ _).mpr ⟨c, hc, ?_⟩
    by_cases e : edg N np k p c = true
    · exact e
    · rw [if_neg e] at h2
      omega
theorem shr_has : ∀ k p q, 0 < shr N np k p q → hasH N np k p = true := by
  intro k p q h
  rw [hasH_eq]
  cases ha : al N p
  · cases k with
    | zero =>
      rw [shr_0 ha] at h
      omega
    | succ k =>
      rw [shr_s ha] at h
      rw [Bool.false_or, decide_eq_true]
      exact Nat.pos_of_ne_zero (fun z => by rw [z, Nat.zero_mul] at h; omega)
  · rfl
theorem has_shr : ∀ k p, p < np → hasH N np k p = true → ∃ q, q < np ∧ 0 < shr N np k p q := by
  intro k
  induction k with
  | zero =>
    intro p hp h
    exact ⟨p, hp, by rw [shr_al h, if_pos rfl]; omega⟩
  | succ k ih =>
    intro p hp h
    cases ha : al N p
    · rw [hasH_eq, ha, Bool.false_or] at h
      obtain ⟨c, hc, e⟩ := (cntF_pos _ _).mp (of_decide_eq_true h)
      have e' := e
      unfold edg at e'
      obtain ⟨q, hq, h2⟩ := ih c hc ((Bool.and_eq_true _ _).mp e').2
      exact ⟨q, hq, (shr_pos_s ha).mpr ((sm_pos _ _).mpr ⟨c, hc, by rw [if_pos e]; exact h2⟩)⟩
    · exact ⟨p, hp, by rw [shr_al ha, if_pos rfl]; omega⟩
theorem nsh_le (k p : Nat) : nsh N np k p ≤ np := by
  cases k with
  | zero => exact Nat.zero_le _
  | succ k => exact cntF_le _ _
theorem shr_le (hn : np ≤ 14) : ∀ k p q, shr N np k p q ≤ 14 ^ k := by
  intro k
  induction k with
  | zero =>
    intro p q
    unfold shr
    split <;> decide
  | succ k ih =>
    intro p q
    cases ha : al N p
    · rw [shr_s ha, Nat.pow_succ, Nat.mul_comm (14 ^ k)]
      refine Nat.mul_le_mul (Nat.le_trans (nsh_le _ _) hn) (sm_le _ (fun i _ => ?_))
      split
      · exact ih _ _
      · exact Nat.zero_le _
    · rw [shr_al ha]
      have := Nat.pow_pos (n := k + 1) (show 0 < 14 by decide)
      split <;> omega
theorem fwd_le (hn : np ≤ 14) (r : Nat) : ∀ l c, fwd N np r l c ≤ 14 ^ l := by
  intro l
  induction l with
  | zero =>
    intro c
    unfold fwd
    split <;> decide
  | succ l ih =>
    intro c
    unfold fwd
    refine sm_le _ (fun i _ => ?_)
    split
    · rw [Nat.pow_succ]
      exact Nat.mul_le_mul (ih _) (Nat.le_trans (nsh_le _ _) hn)
    · exact Nat.zero_le _
/-- what is divided so far, and what will be -/
theorem fwd_step {r q : Nat} (hq : q < np) {l : Nat} (hl : l < 5) : sm (fun p => fwd N np r l p * shr N np (5 - l) p q) np = mn (if al N q = true then fwd N np r l q else 0) (sm (fun p => fwd N np r (l + 1) p * shr N np (4 - l) p q) np) := by
  have e1 : ∀ p, p < np → fwd N np r l p * shr N np (5 - l) p q = mn (if al N p = true then (if p = q then fwd N np r l p else 0) else 0) (sm (fun c => if al N p = false ∧ edg N np (4 - l) p c = true then fwd N np r l p * nsh N np (5 - l) p * shr N np (4 - l) c q else 0) np) := by
    intro p hp
    cases ha : al N p
    · rw [if_neg (by decide), mn_0l, show 5 - l = (4 - l) + 1 by omega, shr_s ha, ← Nat.mul_assoc, sm_mul]
      refine sm_cong _ (fun c _ => ?_)
      by_cases e : edg N np (4 - l) p c = true
      · rw [if_pos e, if_pos ⟨rfl, e⟩]
      · rw [if_neg e, if_neg (fun z => e z.2), Nat.mul_zero]
    · rw [if_pos rfl, sm_zero np (fun c _ => if_neg (fun z => Bool.noConfusion z.1)), mn_0, shr_al ha]
      by_cases e : p = q
      · rw [if_pos e, if_pos e, Nat.mul_one]
      · rw [if_neg e, if_neg e, Nat.mul_zero]
  rw [sm_cong np e1, sm_mn]
  congr 1
  · rw [sm_one _ np hq (fun i _ hi => by rw [if_neg hi, ite_self]), if_pos rfl]
  · rw [sm_swap]
    refine sm_cong _ (fun c _ => ?_)
    rw [Nat.mul_comm, fwd, sm_mul]
    refine sm_cong _ (fun p _ => ?_)
    split
    · exact Nat.mul_comm _ _
    · rw [Nat.mul_zero]
theorem prt_go {r q : Nat} (hq : q < np) : ∀ l, l ≤ 5 → sm (fun p => fwd N np r 0 p * shr N np 5 p q) np = mn (if al N q = true then sm (fun l => fwd N np r l q) l else 0) (sm (fun p => fwd N np r l p * shr N np (5 - l) p q) np) := by
  intro l
  induction l with
  | zero =>
    intro _
    rw [show sm (fun l => fwd N np r l q) 0 = 0 from rfl, ite_self, mn_0l]
  | succ l ih =>
    intro hl
    rw [ih (by omega), fwd_step hq (by omega), ← mn_assoc, show 5 - (l + 1) = 4 - l by omega]
    congr 1
    by_cases c : al N q = true
    · rw [if_pos c, if_pos c, if_pos c, sm_s]
    · rw [if_neg c, if_neg c, if_neg c, mn_0]
theorem prt_eq {r q : Nat} (hr : r < np) (hq : q < np) : prt N np r q = shr N np 5 r q := by
  have e0 : sm (fun p => fwd N np r 0 p * shr N np 5 p q) np = shr N np 5 r q := by
    rw [sm_one _ np hr (fun i _ hi => by rw [fwd, if_neg hi, Nat.zero_mul]), fwd, if_pos rfl, Nat.one_mul]
  rw [← e0, prt_go hq 5 (by omega)]
  have e5 : sm (fun p => fwd N np r 5 p * shr N np (5 - 5) p q) np = if al N q = true then fwd N np r 5 q else 0 := by
    rw [sm_one _ np hq (fun i _ hi => ?_)]
    · show fwd N np r 5 q * shr N np 0 q q = _
      unfold shr
      by_cases c : al N q = true
      · rw [if_pos ⟨c, rfl⟩, if_pos c, Nat.mul_one]
      · rw [if_neg (fun z => c z.1), if_neg c, Nat.mul_zero]
    · show _ * shr N np 0 i q = 0
      unfold shr
      rw [if_neg (fun z => hi z.2), Nat.mul_zero]
  rw [e5]
  unfold prt
  by_cases c : al N q = true
  · rw [if_pos c, if_pos c, if_pos c, sm_s]
  · rw [if_neg c, if_neg c, if_neg c, mn_0]
end Heirs
