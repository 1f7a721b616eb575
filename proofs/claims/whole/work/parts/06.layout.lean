/-! ===== the heap of the two objects: numbers 8..153 the class's, 154..171 the reference's, from 172 on texts (even: Text, odd: its code) ===== -/
/-- in a land: itself, seven arrays, 14 persons, 8 fields, 20 papers, 12 laws -/
def kdl (r : Nat) : Nat := if r < 8 then (match r with
  | 0 => 3
  | 1 => 30
  | 2 => 31
  | 3 => 32
  | 4 => 33
  | 5 => 34
  | _ => 20) else if r < 22 then 6 else if r < 30 then 2 else if r < 50 then 5 else 4
def lnl (r : Nat) : Nat := if r < 8 then (match r with
  | 0 => 14
  | 1 => 14
  | 2 => 8
  | 3 => 20
  | 4 => 12
  | 5 => 5
  | 6 => 2
  | _ => 14) else if r < 22 then 10 else if r < 30 then 4 else if r < 50 then 10 else 3
def kdx (x : Nat) : Nat := match x with
  | 8 => 0
  | 133 => 1
  | 136 => 8
  | 137 => 7
  | 143 => 11
  | 144 => 21
  | 145 => 35
  | 146 => 9
  | 148 => 9
  | 150 => 9
  | 152 => 9
  | 154 => 12
  | 157 => 24
  | 160 => 22
  | 161 => 23
  | _ => 20
def lnx (x : Nat) : Nat := match x with
  | 8 => 9
  | 133 => 3
  | 134 => 11
  | 135 => 200
  | 136 => 2
  | 137 => 9
  | 138 => 200
  | 139 => 201
  | 140 => 201
  | 141 => 200
  | 142 => 3
  | 143 => 2
  | 144 => 3721
  | 145 => 4
  | 146 => 3
  | 147 => 20
  | 148 => 3
  | 149 => 20
  | 150 => 3
  | 151 => 20
  | 152 => 3
  | 153 => 20
  | 154 => 26
  | 155 => 10759
  | 156 => 10759
  | 157 => 84
  | 158 => 84
  | 159 => 84
  | 160 => 200
  | 161 => 69
  | 162 => 18
  | 163 => 609
  | 164 => 200
  | 165 => 200
  | 166 => 11
  | 167 => 33489
  | 168 => 4
  | 169 => 4
  | 170 => 80
  | _ => 20
def kd (x : Nat) : Nat := if 9 ≤ x ∧ x < 71 then kdl (x - 9) else if 71 ≤ x ∧ x < 133 then kdl (x - 71) else if x < 172 then kdx x else if x % 2 = 0 then 10 else 20
def ln (tl : Nat → Nat) (x : Nat) : Nat := if 9 ≤ x ∧ x < 71 then lnl (x - 9) else if 71 ≤ x ∧ x < 133 then lnl (x - 71) else if x < 172 then lnx x else if x % 2 = 0 then 3 else tl x
/-- a slot: 0 a number, 1 a long, 2 a reference that changes, 3 one that doesn't -/
def scl (r j : Nat) : Nat := if r = 0 then (if j < 7 then 3 else 0) else if r < 5 then 3 else if r = 5 then 2 else if r < 50 then 0 else (if j = 0 then 2 else 0)
def scx (x j : Nat) : Nat := match x with
  | 8 => if j < 7 then 3 else 0
  | 133 => 3
  | 136 => 3
  | 137 => if j = 0 ∨ j = 2 ∨ j = 3 ∨ j = 6 ∨ j = 8 then 3 else 0
  | 143 => if j = 1 then 3 else 0
  | 144 => 1
  | 145 => 3
  | 146 => if j = 0 then 3 else 0
  | 148 => if j = 0 then 3 else 0
  | 150 => if j = 0 then 3 else 0
  | 152 => if j = 0 then 3 else 0
  | 154 => if j = 0 ∨ j = 1 ∨ j = 4 ∨ j = 5 ∨ j = 6 ∨ j = 7 ∨ (9 ≤ j ∧ j < 15) ∨ 21 ≤ j then 3 else 0
  | _ => 0
def sc (x j : Nat) : Nat := if 9 ≤ x ∧ x < 71 then scl (x - 9) j else if 71 ≤ x ∧ x < 133 then scl (x - 71) j else if x < 172 then scx x j else if x % 2 = 0 ∧ j = 0 then 3 else 0
def rfl_ (b r j : Nat) : Nat := match r with
  | 0 => b + 1 + j
  | 1 => b + 8 + j
  | 2 => b + 22 + j
  | 3 => b + 30 + j
  | _ => b + 50 + j
def rfx (x j : Nat) : Nat := match x with
  | 8 => (match j with
    | 0 => 9
    | 1 => 71
    | 2 => 133
    | 3 => 136
    | 4 => 137
    | 5 => 143
    | _ => 145)
  | 133 => (match j with
    | 0 => 9
    | 1 => 134
    | _ => 135)
  | 136 => (match j with
    | 0 => 9
    | _ => 133)
  | 137 => (match j with
    | 0 => 138
    | 2 => 139
    | 3 => 140
    | 6 => 141
    | _ => 142)
  | 143 => 144
  | 145 => 146 + 2 * j
  | 146 => 147
  | 148 => 149
  | 150 => 151
  | 152 => 153
  | _ => (match j with
    | 0 => 155
    | 1 => 156
    | 4 => 157
    | 5 => 158
    | 6 => 159
    | 7 => 160
    | 9 => 161
    | 10 => 162
    | 11 => 163
    | 12 => 164
    | 13 => 165
    | 14 => 166
    | 21 => 167
    | 22 => 168
    | 23 => 169
    | 24 => 170
    | _ => 171)
def rf (x j : Nat) : Nat := if 9 ≤ x ∧ x < 71 then rfl_ 9 (x - 9) j else if 71 ≤ x ∧ x < 133 then rfl_ 71 (x - 71) j else if x < 172 then rfx x j else x + 1
def sv (S : Nat → Nat → Int32) (K : Nat → Int64) (T : Nat → Nat → Value) (x j : Nat) : Value := match sc x j with
  | 0 => .int (S x j)
  | 1 => .long (K j)
  | 2 => T x j
  | _ => .ref (rf x j)
def lay (o : Nat → aCell) (k : Nat) (S : Nat → Nat → Int32) (K : Nat → Int64) (T : Nat → Nat → Value) (tl : Nat → Nat) : aHeap := (172 + k, fun x => if x < 8 then o x else (kd x, ln tl x, fun j => sv S K T x j))
def up (S : Nat → Nat → Int32) (x j : Nat) (v : Int32) : Nat → Nat → Int32 := fun a b => if a = x ∧ b = j then v else S a b
def upT (S : Nat → Nat → Value) (x j : Nat) (v : Value) : Nat → Nat → Value := fun a b => if a = x ∧ b = j then v else S a b
def upK (S : Nat → Int64) (j : Nat) (v : Int64) : Nat → Int64 := fun b => if b = j then v else S b
theorem up_s {S : Nat → Nat → Int32} {x j : Nat} {v : Int32} : up S x j v x j = v := by unfold up; rw [if_pos ⟨rfl, rfl⟩]
theorem up_n {S : Nat → Nat → Int32} {x j : Nat} {v : Int32} {a b : Nat} (h : ¬ (a = x ∧ b = j)) : up S x j v a b = S a b := by unfold up; rw [if_neg h]
theorem up_x {S : Nat → Nat → Int32} {x j : Nat} {v : Int32} {a b : Nat} (h : a ≠ x) : up S x j v a b = S a b := up_n fun q => h q.1
theorem up_j {S : Nat → Nat → Int32} {x j : Nat} {v : Int32} {a b : Nat} (h : b ≠ j) : up S x j v a b = S a b := up_n fun q => h q.2
/-- an object or array of a kind -/
def ob (k x ci : Nat) : Prop := 8 ≤ x ∧ x < 172 + k ∧ kd x = ci
theorem obL {k x ci : Nat} (h : 8 ≤ x ∧ x < 172 ∧ kd x = ci) : ob k x ci := ⟨h.1, Nat.lt_of_lt_of_le h.2.1 (Nat.le_add_right _ _), h.2.2⟩
section Lay
variable {o : Nat → aCell} {k : Nat} {S : Nat → Nat → Int32} {K : Nat → Int64} {T : Nat → Nat → Value} {tl : Nat → Nat}
theorem lay_2 {x : Nat} (h : 8 ≤ x) : (lay o k S K T tl).2 x = (kd x, ln tl x, fun j => sv S K T x j) := by
  show (if x < 8 then o x else _) = _
  rw [if_neg (by omega)]
theorem lay_setI {x j : Nat} {v : Int32} (hx : 8 ≤ x) (hs : sc x j = 0) : hset (lay o k S K T tl) x j (.int v) = lay o k (up S x j v) K T tl := by
  unfold hset lay
  refine Prod.ext rfl (funext fun q => ?_)
  dsimp only
  by_cases hq : q = x
  · subst hq
    rw [if_pos rfl, if_neg (by omega), if_neg (by omega)]
    refine Prod.ext rfl (Prod.ext rfl (funext fun b => ?_))
    dsimp only
    unfold updV sv
    by_cases hb : b = j
    · subst hb
      rw [if_pos rfl, hs]
      show Value.int v = Value.int _
      rw [up_s]
    · rw [if_neg hb, up_j hb]
  · rw [if_neg hq]
    by_cases h8 : q < 8
    · rw [if_pos h8, if_pos h8]
    · rw [if_neg h8, if_neg h8]
      refine Prod.ext rfl (Prod.ext rfl (funext fun b => ?_))
      dsimp only
      unfold sv
      rw [up_x hq]
theorem lay_setT {x j : Nat} {v : Value} (hx : 8 ≤ x) (hs : sc x j = 2) : hset (lay o k S K T tl) x j v = lay o k S K (upT T x j v) tl := by
  unfold hset lay
  refine Prod.ext rfl (funext fun q => ?_)
  dsimp only
  by_cases hq : q = x
  · subst hq
    rw [if_pos rfl, if_neg (by omega), if_neg (by omega)]
    refine Prod.ext rfl (Prod.ext rfl (funext fun b => ?_))
    dsimp only
    unfold updV sv upT
    by_cases hb : b = j
    · subst hb
      rw [if_pos rfl, hs]
      show v = if _ then _ else _
      rw [if_pos ⟨rfl, rfl⟩]
    · rw [if_neg hb, if_neg (fun z => hb z.2)]
  · rw [if_neg hq]
    by_cases h8 : q < 8
    · rw [if_pos h8, if_pos h8]
    · rw [if_neg h8, if_neg h8]
      refine Prod.ext rfl (Prod.ext rfl (funext fun b => ?_))
      dsimp only
      unfold sv upT
      rw [if_neg (fun z => hq z.1)]
theorem sc1 {x j : Nat} (h : sc x j = 1) : x = 144 := by
  unfold sc scl at h
  split at h
  · exfalso; revert h; repeat' split
    all_goals omega
  · split at h
    · exfalso; revert h; repeat' split
      all_goals omega
    · split at h
      · unfold scx at h
        split at h <;> first | rfl | (exfalso; revert h; repeat' split) <;> omega
      · exfalso; revert h; repeat' split
        all_goals omega
theorem lay_setK {x j : Nat} {v : Int64} (hx : 8 ≤ x) (hs : sc x j = 1) : hset (lay o k S K T tl) x j (.long v) = lay o k S (upK K j v) T tl := by
  have hx4 := sc1 hs
  subst hx4
  unfold hset lay
  refine Prod.ext rfl (funext fun q => ?_)
  dsimp only
  by_cases hq : q = 144
  · subst hq
    rw [if_pos rfl, if_neg (by omega), if_neg (by omega)]
    refine Prod.ext rfl (Prod.ext rfl (funext fun b => ?_))
    dsimp only
    unfold updV sv upK
    by_cases hb : b = j
    · subst hb
      rw [if_pos rfl, hs]
      show Value.long v = Value.long (if _ then _ else _)
      rw [if_pos rfl]
    · rw [if_neg hb, if_neg hb]
  · rw [if_neg hq]
    by_cases h8 : q < 8
    · rw [if_pos h8, if_pos h8]
    · rw [if_neg h8, if_neg h8]
      refine Prod.ext rfl (Prod.ext rfl (funext fun b => ?_))
      dsimp only
      unfold sv
      cases hc : sc q b with
      | zero => rfl
      | succ n =>
        cases n with
        | zero => exact absurd (sc1 hc) hq
        | succ n => cases n <;> rfl
end Lay
