/-! ===== from the law's first point to its loop ===== -/
theorem hEq.symm {h h' : aHeap} (e : hEq h h') : hEq h' h := by
  obtain ⟨e1, e2, e3⟩ := e
  refine ⟨e1.symm, fun k hk => (e2 k hk).symm, fun k hk hk2 => ?_⟩
  obtain ⟨c1, c2, c3⟩ := e3 k hk (by omega)
  exact ⟨c1.symm, c2.symm, fun j hj => (c3 j (by rw [c2]; exact hj)).symm⟩
theorem sc3_30 {k z : Nat} (hk : k < 172) (hz : z < ln (fun _ => 0) k) (h : sc k z = 3) : z < 30 := by
  have : ln (fun _ => 0) k < 30 ∨ sc k z ≠ 3 := by
    unfold sc at h
    unfold ln
    split
    · left; unfold lnl; repeat' split
      all_goals omega
    · split
      · left; unfold lnl; repeat' split
        all_goals omega
      · rename_i h1 h2
        rw [if_neg h1, if_neg h2, if_pos hk] at h
        unfold lnx
        split <;> first | (left; omega) | (exfalso; revert h; unfold scx; simp)
  rcases this with h1 | h1
  · omega
  · exact absurd h h1
theorem cseq_all : ∀ k, k < 172 → ∀ z, z < 30 → z < ln (fun _ => 0) k → sc k z = 3 → cseq.idxOf (1000 * k + z) < 165 := by decide +kernel
theorem lay0_end {o : Nat → aCell} {S : SS} : hEq (LH o S (fun _ => 0) (fun _ _ => 0) (fun _ => 0, 0) S) (lay0 o 172 165 S) := by
  refine ⟨rfl, fun k hk => ?_, fun k hk hk2 => ?_⟩
  · rw [lay0_o hk, lh_old hk]
  · have hk3 : k < 172 := hk2
    rw [lay0_2 hk, lay_2 hk]
    refine ⟨rfl, rfl, fun j hj => ?_⟩
    dsimp only at hj ⊢
    have hjn : jn S S = S := by
      funext x
      unfold jn
      split <;> rfl
    unfold sv v0
    rw [hjn]
    have hc : sc k j = 0 ∨ sc k j = 1 ∨ sc k j = 2 ∨ sc k j = 3 := by
      have : sc k j ≤ 3 := by
        unfold sc scl scx
        repeat' split
        all_goals omega
      omega
    rcases hc with h | h | h | h
    · rw [h]; rfl
    · rw [h]; rfl
    · rw [h]
      rfl
    · rw [h]
      show Value.ref (rf k j) = if _ then _ else _
      rw [if_pos (cseq_all k hk3 j (sc3_30 hk3 hj h) hj h)]
theorem law_start {l : Launch} {G : aG} {sl : Nat} {sx : Nat → Int32} {Q : Option Value → aHeap → Prop} (hk : aAt l G 2000 600000 7302250 276 18 [(0, .ref 0), (1, .ref 8), (2, .ref 154), (3, .int (nI (6 * 0)))] [] 599836 7239698 (LH (old0 sl sx) S2 (fun _ => 0) (fun _ _ => 0) (fun _ => 0, 0) S2) Q) : aAt l G 2000 600000 7302250 276 0 [(0, .ref 0)] [] 600000 7302250 (8, old0 sl sx) Q := by
  refine aAt.heap (h := lay0 (old0 sl sx) 8 0 Z0) ⟨rfl, fun k hk => lay0_o hk, fun k h1 h2 => absurd h2 (by show ¬ k < 8; omega)⟩ ?_
  refine P_new (N := 8) (n := 9) f_276_0 nc_40_7 (by decide) ⟨_, rfl, rfl⟩ (by decide +kernel) (by decide) (by decide) ?_
  refine s_dup f_276_3 rfl ?_
  refine s_init (mc' := 145) (ms' := 5843) (As := []) f_276_4 ca_40_9 rfl rfl (Nat.le_of_ble_eq_true rfl) (by decide) (by decide) ?_
  refine ct_0_8 (d := 1996) ?_
  refine s_astore_n f_276_7 (by decide) ?_
  refine P_new (S := S1) (N := 154) (n := 26) f_276_8 nc_40_10 (by decide) ⟨_, rfl, rfl⟩ (by decide +kernel) (by decide) (by decide) ?_
  refine s_dup f_276_11 rfl ?_
  refine s_init (mc' := 17) (ms' := 56674) (As := []) f_276_12 ca_40_12 rfl rfl (Nat.le_of_ble_eq_true rfl) (by decide) (by decide) ?_
  refine ct_176_154 (d := 1998) ?_
  refine s_astore_n f_276_15 (by decide) ?_
  refine k_iconst (v := 0) f_276_16 (by decide) ?_
  refine s_istore_n f_276_17 (by decide) ?_
  refine aAt.sub [(0, .ref 0), (1, .ref 8), (2, .ref 154), (3, .int (nI (6 * 0)))] rfl ?_
  exact aAt.heap (h := LH (old0 sl sx) S2 (fun _ => 0) (fun _ _ => 0) (fun _ => 0, 0) S2) lay0_end hk
