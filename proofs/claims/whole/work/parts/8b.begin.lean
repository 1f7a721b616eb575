/-! ===== at the start both stand alike; so the law's loop goes through ===== -/
theorem z_155 : ∀ a, S2 155 a = 0 := fun a => rfl
theorem rel0 : Rel S2 (fun _ => 0) (fun _ _ => 0) (fun _ => 0, 0) S2 := by
  refine ⟨⟨0, 0, 0, 0, 0, ⟨by unfold caps; decide, by decide, rfl, rfl, rfl, rfl, rfl, by decide +kernel, by decide +kernel, fun q hq => absurd hq (Nat.not_lt_zero _), fun q hq => absurd hq (Nat.not_lt_zero _), fun q hq => absurd hq (Nat.not_lt_zero _), fun q hq => absurd hq (Nat.not_lt_zero _), fun q hq => absurd hq (Nat.not_lt_zero _)⟩, ?_, fun t ht => Or.inl ⟨rfl, rfl⟩, fun q hq => absurd hq (Nat.not_lt_zero _)⟩, ⟨by decide +kernel, Or.inl (by decide +kernel)⟩, by decide +kernel, ?_, ⟨0, Nat.zero_le _, by decide +kernel, by decide +kernel, fun j hj => absurd hj (Nat.not_lt_zero _)⟩, ⟨fun _ _ => rfl, fun _ _ => rfl⟩, ?_, rfl⟩
  · intro a ha
    have h9 : a < 9 := by
      unfold lvA at ha
      omega
    exact (by decide +kernel : ∀ a, a < 9 → S2 (9 + rg a) (sl a) = S2 155 a) a h9
  · intro s hs
    exact (by decide +kernel : ∀ s, s < 4 → S2 (146 + 2 * s) 1 = S2 168 s ∧ S2 (146 + 2 * s) 2 = S2 169 s ∧ inb (S2 169 s) 21 ∧ ∀ j, j < 20 → S2 (147 + 2 * s) j = S2 170 (20 * s + j)) s hs
  · intro lo h1 e1
    exfalso
    have e : S2 143 0 = -1 := by decide +kernel
    rw [e] at e1
    exact (by decide +kernel : ∀ lo, lo < 31 → ¬ (-1 : Int32) = nI lo) lo (by omega) e1
theorem law_all {l : Launch} {G : aG} {sl : Nat} {sx : Nat → Int32} (hL : sl ≤ 3072) : aAt l G 2000 600000 7302250 276 0 [(0, .ref 0)] [] 600000 7302250 (8, old0 sl sx) (fun r _ => r = some (.int 1)) := by
  refine law_start ?_
  exact law_loop (Rel := Rel) (show sl < 2 ^ 20 by omega) sim_person sim_lives sim_fear sim_die sim_personIs sim_field sim_fieldIs sim_heirs sim_share sim_paper sim_as sim_word sim_pay sim_annul sim_paperIs sim_shift sim_left sim_feed sim_text sim_force sim_law sim_falls sim_truly sim_back sim_dress sim_price sim_year sim_years sim_chain sim_last sim_pays sim_proves sim_sheet sim_put sim_copy sim_image sim_restore sim_count 512 S2 (fun _ => 0) (fun _ _ => 0) (fun _ => 0, 0) S2 599836 7239698 0 rel0 (by omega) (by decide) (by decide) (Nat.zero_le _)
