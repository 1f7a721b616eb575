/-! ===== text ===== -/
theorem enc_a : ∀ t, t < 26 → 1 ≤ rk t → (cen t, ren t) ∈ encT ∧ ¬ -100 < ren t ∧ (ren t = -117 ↔ t = 16) := by decide +kernel
theorem enc_b : ∀ t, t < 11 → cen t = nI (10000 + t) ∧ ren t = -nI (t + 1) ∧ -100 < ren t := by decide +kernel
theorem enc_vt {t : Nat} (h : vt t) : enc (cen t) (ren t) := by
  rcases h with h | ⟨h1, h2⟩ | h
  · obtain ⟨e1, e2, _⟩ := enc_b t (by omega)
    exact Or.inr (Or.inl ⟨t, by omega, e1, e2⟩)
  · refine Or.inl ⟨t - 26, by omega, ?_, ?_⟩
    · unfold cen
      rw [if_pos h1]
    · unfold ren
      rw [if_pos h1]
  · exact Or.inr (Or.inr (enc_a t (by have := rk_lt h; omega) h).1)
theorem wfc_of {f : Nat → Int32} : ∀ (l : List Nat) (i h : Nat), (∀ t, t ∈ l → vt t) → (∀ j, j < l.length → f (i + j) = ren (l.getD j 0)) → wfp l h → wfc f l.length i h := by
  intro l
  induction l with
  | nil => intro i h _ _ hw; exact hw
  | cons t l ih =>
    intro i h hv hf hw
    have e0 : f i = ren t := hf 0 (Nat.succ_pos _)
    have nx : ∀ h', wfp l h' → wfc f l.length (i + 1) h' := fun h' hw' => ih (i + 1) h' (fun x hx => hv x (List.mem_cons_of_mem _ hx)) (fun j hj => by
      have := hf (j + 1) (Nat.succ_lt_succ hj)
      rw [show i + 1 + j = i + (j + 1) by omega, this]
      rfl) hw'
    show (if -100 < f i then wfc f l.length (i + 1) (h + 1) else if f i = -117 then 1 ≤ h ∧ wfc f l.length (i + 1) h else 2 ≤ h ∧ wfc f l.length (i + 1) (h - 1))
    have hw2 : (if t ≤ 10 ∨ 26 ≤ t then wfp l (h + 1) else if t = 16 then 1 ≤ h ∧ wfp l h else 2 ≤ h ∧ wfp l (h - 1)) := hw
    rw [e0]
    rcases hv t (List.mem_cons_self ..) with z | ⟨z1, z2⟩ | z
    · rw [if_pos (Or.inl z)] at hw2
      rw [if_pos (enc_b t (by omega)).2.2]
      exact nx _ hw2
    · rw [if_pos (Or.inr z1)] at hw2
      have : ren t = nI (t - 26) := by
        unfold ren
        rw [if_pos z1]
      rw [if_pos (show (-100 : Int32) < ren t by
        rw [this, Int32.lt_iff_toInt_lt, nI_toInt (by omega)]
        show (-100 : Int) < _
        omega)]
      exact nx _ hw2
    · rw [if_neg (rk_mid z)] at hw2
      obtain ⟨_, a1, a2⟩ := enc_a t (by have := rk_lt z; omega) z
      rw [if_neg a1]
      by_cases c : t = 16
      · rw [if_pos c] at hw2
        rw [if_pos (a2.mpr c)]
        exact ⟨hw2.1, nx _ hw2.2⟩
      · rw [if_neg c] at hw2
        rw [if_neg (fun y => c (a2.mp y))]
        exact ⟨hw2.1, nx _ hw2.2⟩
theorem txc_of {S : SS} {N : Nat → Int32} {t base off : Nat} {D : List Nat} (hD : EX D) (h0 : N base = nI D.length) (h1 : ∀ j, j < D.length → N (base + 1 + j) = ren (D.getD j 0)) (h2 : ∀ j, j < D.length → S (t + 1) (off + j) = cen (D.getD j 0)) : TXC S N t base off D.length := by
  have hw : wfp D 0 := by
    have := hD.2 [] 0 rfl
    rw [List.append_nil] at this
    exact this
  refine ⟨?_, h0, fun j hj => ?_, wfc_of D 0 0 hD.1 (fun j hj => ?_) hw⟩
  · cases D with
    | nil => exact absurd hw (by show ¬ (0 : Nat) = 1; decide)
    | cons x l => exact Nat.succ_pos _
  · rw [h1 j hj, h2 j hj]
    refine enc_vt (hD.1 _ ?_)
    rw [List.getD_eq_getElem?_getD, List.getElem?_eq_getElem hj]
    exact List.getElem_mem hj
  · rw [Nat.zero_add]
    exact h1 j hj
theorem TXR.grow {S S' : SS} {X X' : XS} {N : Nat → Int32} {t base : Nat} (h : TXR S X N t base) (hS : ∀ x, 172 ≤ x → x < 172 + X.2 → S' x = S x) (h1 : X.2 ≤ X'.2) (h2 : ∀ x, x < 172 + X.2 → X'.1 x = X.1 x) : TXR S' X' N t base := by
  have h' := h.frame hS (fun _ _ _ => rfl)
  obtain ⟨⟨t1, t2, t3, t4⟩, n0, n1, n2, g1, g2⟩ := h'
  exact ⟨⟨t1, by omega, t3, by rw [h2 _ t2]; exact t4⟩, n0, n1, n2, by rw [h2 _ t2]; exact g1, g2⟩
theorem LRel.grow {b : Nat} {S S' : SS} {T T' : TS} {X X' : XS} {N : Nat → Int32} (h : LRel b S T X N) (hS : ∀ x, b ≤ x → x < b + 62 → S' x = S x) (hX : ∀ x, 172 ≤ x → x < 172 + X.2 → S' x = S x) (h1 : X.2 ≤ X'.2) (h2 : ∀ x, x < 172 + X.2 → X'.1 x = X.1 x) (hT : ∀ x, b ≤ x → x < b + 62 → T' x = T x) : LRel b S' T' X' N := by
  obtain ⟨np, nf, nx, nl, yr, hI, hE, hL⟩ := h
  have hc := hI.1
  unfold caps at hc
  refine ⟨np, nf, nx, nl, yr, hI, hE.frame hI.1 hS, fun t ht => ?_, fun q hq => ?_⟩
  · rw [hT (b + 5) (by omega) (by omega)]
    rcases hL.1 t ht with g | g
    · exact Or.inl g
    · exact Or.inr (g.grow hX h1 h2)
  · rw [hT (b + (50 + q)) (by omega) (by omega)]
    exact (hL.2 q hq).grow hX h1 h2
theorem Rel.text {S S' : SS} {K : KS} {T T' : TS} {X X' : XS} {M M' : SS} (h : Rel S K T X M) (hS : ∀ x, (x < 137 ∨ (142 < x ∧ x < 172)) → S' x = S x) (hX : ∀ x, 172 ≤ x → x < 172 + X.2 → S' x = S x) (h1 : X.2 ≤ X'.2) (h2 : ∀ x, x < 172 + X.2 → X'.1 x = X.1 x) (hev : X'.2 % 2 = 0) (hT : ∀ x, 71 ≤ x → x < 133 → T' x = T x) (hM : ∀ x, x ≠ 154 → x ≠ 155 → x ≠ 163 → x ≠ 164 → M' x = M x) (m2 : M' 154 2 = M 154 2) (m3 : M' 154 3 = M 154 3) (z1 : S' 137 1 = 0) (z2 : M' 154 8 = 0) (hL : LRel 9 S' T' X' (M' 155)) : Rel S' K T' X' M' := by
  obtain ⟨-, ⟨r2, r3⟩, r4, r5, r6, r7, r8, r9⟩ := h
  refine ⟨hL, ⟨by rw [hS 8 (by omega), m2]; exact r2, ?_⟩, by rw [hS 8 (by omega), m3]; exact r4, ?_, ?_, ?_, ?_, hev⟩
  · rw [hS 8 (by omega), hM 156 (by decide) (by decide) (by decide) (by decide)]
    rcases r3 with r3 | ⟨r3, r3'⟩
    · exact Or.inl r3
    · exact Or.inr ⟨r3, r3'.grow (fun x g1 g2 => hS x (by omega)) hX h1 h2 (fun x g1 g2 => hT x (by omega) (by omega))⟩
  · intro s hs4
    rw [hS (146 + 2 * s) (by omega), hS (147 + 2 * s) (by omega), hM 168 (by decide) (by decide) (by decide) (by decide), hM 169 (by decide) (by decide) (by decide) (by decide), hM 170 (by decide) (by decide) (by decide) (by decide)]
    exact r5 s hs4
  · exact ⟨0, Nat.zero_le _, z1, z2, fun j hj => absurd hj (Nat.not_lt_zero _)⟩
  · unfold CN
    rw [hM 161 (by decide) (by decide) (by decide) (by decide), hM 162 (by decide) (by decide) (by decide) (by decide)]
    exact r7
  · unfold TH
    rw [hS 143 (by omega)]
    exact r8
theorem text_loop {t : Nat} (ht : t < 5) (A : SS) : rM_text_L37 FU A (nI t) 0 = some (-1, fun x j => if x = 155 ∧ 406 + 609 * t ≤ j ∧ j < 406 + 609 * t + 609 then A 163 (0 + (j - (406 + 609 * t))) else A x j) := by
  have := loop_0' (fun f A i => rM_text_L37 f A (nI t) i) (fun (A : SS) i => up A 155 ((406 + 609 * t) + i) (A 163 (0 + i))) 609 (fun A => ((-1 : Int32), A)) (by decide) (fun f i A hi => by
    have b1 : (406 : Int32) + (609 : Int32) * nI t + nI i = nI (406 + 609 * t + i) := by
      rw [show (406 : Int32) = nI 406 from rfl, show (609 : Int32) = nI 609 from rfl, pk_mul, nI_add, nI_add]
    show rM_text_L37 (f + 1) A (nI t) (nI i) = _
    rw [rM_text_L37, if_neg (show ¬ (609 : Int32) ≤ nI i from nle (n := 609) hi (by decide)), if_pos (nI_inb hi (by decide)), b1, if_pos (nI_inb (by omega) (by decide)), nI_ix (by omega), nI_ix (by omega), nI_1, Nat.zero_add]) (fun f A => by
    show rM_text_L37 (f + 1) A (nI t) (nI 609) = _
    rw [rM_text_L37, if_pos (show (609 : Int32) ≤ nI 609 by decide)]) A
  rw [show rM_text_L37 FU A (nI t) 0 = _ from this, cpy_fo 155 163 (406 + 609 * t) 0 609 (Or.inl (by decide)) 609 (Nat.le_refl _)]
theorem sim_text (S : SS) (K : KS) (T : TS) (X : XS) (M : SS) (z0 : Int32) (hR : Rel S K T X M) : ∃ p q, cD_text S T X z0 = some p ∧ rM_text M z0 = some q ∧ p.1 = q.1 ∧ Rel p.2.1 K p.2.2.1 p.2.2.2 q.2 := by
  unfold cD_text rM_text
  rw [within_eq, in_eq, dec_c (inb_lit (z := z0) (H := 4) (n := 5) (by decide)), Option.bind_some, Option.bind_some]
  by_cases c0 : inb z0 5
  · obtain ⟨t, ht, rfl⟩ := inb_ex c0
    rw [decide_eq_true c0, if_pos rfl, if_pos rfl]
    obtain ⟨n, hn, n1, n2, n3⟩ := hR.2.2.2.2.1
    have hc : CLc S (S 138) n := ⟨hn, n1, fun _ _ => rfl, fun j hj => (n3 j hj).2⟩
    have h0 : LXc M (S 138) n := ⟨hn, n2, fun j hj => (n3 j hj).1.symm, fun j hj => (n3 j hj).2, hR.2.2.2.2.2.1⟩
    have hev := hR.2.2.2.2.2.2.2
    rcases reads_ok hc h0 with ⟨a, S', M', r1, r2, r3, r4, r5, r6⟩ | ⟨S', M', r1, r2, r3, r4, r5, D0, D1, D2, x1, x2, x3, x4, x5, x6, x7, x8, x9, x10, y0, y1, y2, y3, y4, y5⟩
    · have hp : pq (S 138) n a ≤ n := (skn_b (eq_b a)).2
      have hRel : Rel (up S' 137 1 0) K T X (up M' 154 8 0) := by
        refine hR.text (fun x hx => ?_) (fun x g1 g2 => ?_) (Nat.le_refl _) (fun _ _ => rfl) hev (fun _ _ _ => rfl) (fun x g1 g2 g3 g4 => ?_) ?_ ?_ up_s up_s ?_
        · rw [up_o (by omega)]
          exact r4 x (by omega) (by omega) (by omega) (by omega) (by omega)
        · rw [up_o (by omega)]
          exact r4 x (by omega) (by omega) (by omega) (by omega) (by omega)
        · rw [up_o g1]
          exact r5 x g1 g3 g4
        · rw [up_j (by decide)]
          exact r6 2 (by omega)
        · rw [up_j (by decide)]
          exact r6 3 (by omega)
        · rw [up_o (by decide), r5 155 (by decide) (by decide) (by decide)]
          refine hR.1.frame (fun x g1 g2 => ?_) (fun x g1 g2 => ?_)
          · rw [up_o (by omega)]
            exact r4 x (by omega) (by omega) (by omega) (by omega) (by omega)
          · rw [up_o (by omega)]
            exact r4 x (by omega) (by omega) (by omega) (by omega) (by omega)
      rw [r1, r2, Option.bind_some, Option.bind_some, if_neg Bool.false_ne_true, if_pos (nI_pos' (by omega))]
      refine ⟨_, _, rfl, rfl, ?_, hRel⟩
      show nI (pq (S 138) n a) = up M' 154 8 0 154 15
      rw [up_j (by decide), r3]
    · have e137 : ix (S' 137 7) = D0.length + D1.length + D2.length := by rw [x5]; exact nI_ix (by omega)
      have hin : inb (S' 137 7) 200 ∧ X.2 % 2 = 0 ∧ inb (nI t) 5 := ⟨by rw [x5]; exact nI_inb (by omega) (by decide), hev, c0⟩
      have hSx : ∀ x, x ≠ 172 + X.2 → x ≠ 172 + X.2 + 1 → x ≠ 137 → up (txS S' (172 + X.2) (D0.length + D1.length + D2.length)) 137 1 0 x = S' x := fun x g1 g2 g3 => by
        rw [up_o g3]
        funext j
        unfold txS
        rw [if_neg g1, if_neg g2]
      have hX1 : (txX X (D0.length + D1.length + D2.length)).2 = X.2 + 2 := rfl
      have hX2 : ∀ x, x < 172 + X.2 → (txX X (D0.length + D1.length + D2.length)).1 x = X.1 x := fun x hx => by
        show (if x = 173 + X.2 then _ else X.1 x) = _
        rw [if_neg (by omega)]
      have hS1 : ∀ x, (x < 137 ∨ (142 < x ∧ x < 172)) → up (txS S' (172 + X.2) (D0.length + D1.length + D2.length)) 137 1 0 x = S x := fun x hx => by
        rw [hSx x (by omega) (by omega) (by omega)]
        exact r3 x (by omega) (by omega) (by omega) (by omega) (by omega)
      have hS2 : ∀ x, 172 ≤ x → x < 172 + X.2 → up (txS S' (172 + X.2) (D0.length + D1.length + D2.length)) 137 1 0 x = S x := fun x g1 g2 => by
        rw [hSx x (by omega) (by omega) (by omega)]
        exact r3 x (by omega) (by omega) (by omega) (by omega) (by omega)
      have hRel : Rel (up (txS S' (172 + X.2) (D0.length + D1.length + D2.length)) 137 1 0) K (upTT T 14 t (172 + X.2)) (txX X (D0.length + D1.length + D2.length)) (fun x j => if x = 155 ∧ 406 + 609 * t ≤ j ∧ j < 406 + 609 * t + 609 then up M' 154 8 0 163 (0 + (j - (406 + 609 * t))) else up M' 154 8 0 x j) := by
        refine hR.text hS1 hS2 (by rw [hX1]; omega) hX2 (by rw [hX1]; omega) (fun x g1 g2 => ?_) (fun x g1 g2 g3 g4 => ?_) ?_ ?_ up_s ?_ ?_
        · funext j
          unfold upTT
          rw [if_neg (by omega)]
        · funext j
          rw [if_neg (fun z => g2 z.1), up_x g1, r4 x g1 g3 g4]
        · rw [if_neg (fun z => absurd z.1 (by decide)), up_j (by decide)]
          exact r5 2 (by omega)
        · rw [if_neg (fun z => absurd z.1 (by decide)), up_j (by decide)]
          exact r5 3 (by omega)
        · rw [if_neg (fun z => absurd z.1 (by decide)), up_s]
        · obtain ⟨np, nf, nx, nl, yr, hI, hE, hL⟩ := hR.1
          have hcp := hI.1
          unfold caps at hcp
          have hN : ∀ a, ¬ (406 + 609 * t ≤ a ∧ a < 406 + 609 * t + 609) → (if 155 = 155 ∧ 406 + 609 * t ≤ a ∧ a < 406 + 609 * t + 609 then up M' 154 8 0 163 (0 + (a - (406 + 609 * t))) else up M' 154 8 0 155 a) = M 155 a := fun a ha => by
            rw [if_neg (fun z => ha z.2), up_x (by decide), r4 155 (by decide) (by decide) (by decide)]
          have hNn : ∀ k, k < 609 → (if 155 = 155 ∧ 406 + 609 * t ≤ 406 + 609 * t + k ∧ 406 + 609 * t + k < 406 + 609 * t + 609 then up M' 154 8 0 163 (0 + (406 + 609 * t + k - (406 + 609 * t))) else up M' 154 8 0 155 (406 + 609 * t + k)) = M' 163 k := fun k hk => by
            rw [if_pos ⟨rfl, by omega, by omega⟩, up_x (by decide)]
            congr 1
            omega
          have hNew : TXR (up (txS S' (172 + X.2) (D0.length + D1.length + D2.length)) 137 1 0) (txX X (D0.length + D1.length + D2.length)) (fun a => if 155 = 155 ∧ 406 + 609 * t ≤ a ∧ a < 406 + 609 * t + 609 then up M' 154 8 0 163 (0 + (a - (406 + 609 * t))) else up M' 154 8 0 155 a) (172 + X.2) (406 + 609 * t) := by
            have cd : ∀ j, j < D0.length + D1.length + D2.length → up (txS S' (172 + X.2) (D0.length + D1.length + D2.length)) 137 1 0 (172 + X.2 + 1) j = S' 141 j := fun j hj => by
              rw [up_x (by omega)]
              unfold txS
              rw [if_neg (by omega), if_pos rfl, if_pos hj]
            have hx1 : (txX X (D0.length + D1.length + D2.length)).1 (172 + X.2 + 1) = D0.length + D1.length + D2.length := by
              show (if 172 + X.2 + 1 = 173 + X.2 then _ else _) = _
              rw [if_pos (by omega)]
            refine ⟨⟨by omega, by rw [hX1]; omega, by omega, by rw [hx1]; omega⟩, D0.length, D1.length, D2.length, by rw [hx1], ?_, ?_, ?_, ?_, ?_⟩
            · rw [up_x (by omega)]
              unfold txS
              rw [if_pos rfl, if_pos rfl]
              exact x6
            · rw [up_x (by omega)]
              unfold txS
              rw [if_pos rfl, if_neg (by decide), if_pos rfl]
              exact x7
            · refine txc_of x1 ?_ (fun j hj => ?_) (fun j hj => ?_)
              · exact (hNn 0 (by decide)).trans y0
              · have := hNn (1 + j) (by omega)
                rw [show 406 + 609 * t + 1 + j = 406 + 609 * t + (1 + j) by omega]
                exact this.trans (y3 j hj)
              · rw [Nat.zero_add, cd j (by omega)]
                exact x8 j hj
            · refine txc_of x2 ?_ (fun j hj => ?_) (fun j hj => ?_)
              · exact (hNn 203 (by decide)).trans y1
              · have := hNn (204 + j) (by omega)
                rw [show 406 + 609 * t + 203 + 1 + j = 406 + 609 * t + (204 + j) by omega]
                exact this.trans (y4 j hj)
              · rw [cd _ (by omega)]
                exact x9 j hj
            · refine txc_of x3 ?_ (fun j hj => ?_) (fun j hj => ?_)
              · exact (hNn 406 (by decide)).trans y2
              · have := hNn (407 + j) (by omega)
                rw [show 406 + 609 * t + 406 + 1 + j = 406 + 609 * t + (407 + j) by omega]
                exact this.trans (y5 j hj)
              · rw [cd _ (by omega)]
                exact x10 j hj
          refine ⟨np, nf, nx, nl, yr, ?_, ?_, fun u hu => ?_, fun q hq => ?_⟩
          · obtain ⟨i1, i2, i3, i4, i5, i6, i7, i8, i9, i10, i11, i12, i13, i14⟩ := hI
            refine ⟨i1, i2, ?_, ?_, ?_, ?_, ?_, ?_, ?_, fun q hq w hw => ?_, fun q hq w hw => ?_, fun q hq w hw => ?_, fun q hq w hw => ?_, fun q hq => ?_⟩
            · exact (hN 0 (by omega)).trans i3
            · exact (hN 1 (by omega)).trans i4
            · exact (hN 2 (by omega)).trans i5
            · exact (hN 3 (by omega)).trans i6
            · exact (hN 4 (by omega)).trans i7
            · dsimp only
              rw [hN 7 (by omega)]
              exact i8
            · dsimp only
              rw [hN 8 (by omega)]
              exact i9
            · dsimp only
              rw [hN _ (by omega)]
              exact i10 q hq w hw
            · dsimp only
              rw [hN _ (by omega)]
              exact i11 q hq w hw
            · dsimp only
              rw [hN _ (by omega)]
              exact i12 q hq w hw
            · dsimp only
              rw [hN _ (by omega)]
              exact i13 q hq w hw
            · dsimp only
              rw [hN _ (by omega), hN _ (by omega), hN _ (by omega), hN _ (by omega), hN _ (by omega)]
              exact i14 q hq
          · have hE2 := hE.frame hI.1 (fun x g1 g2 => hS1 x (by omega))
            refine hE2.cong (fun a ha => ⟨ha, hN a ?_⟩)
            have := lvA_lt hI.1 ha
            omega
          · by_cases e : u = t
            · subst e
              right
              have : upTT T 14 u (172 + X.2) (9 + 5) u = 172 + X.2 := by
                unfold upTT
                rw [if_pos ⟨rfl, rfl⟩]
              rw [this]
              exact hNew
            · have : upTT T 14 t (172 + X.2) (9 + 5) u = T (9 + 5) u := by
                unfold upTT
                rw [if_neg (fun z => e z.2)]
              rw [this]
              rcases hL.1 u hu with ⟨g1, g2⟩ | g
              · exact Or.inl ⟨g1, (hN _ (by omega)).trans g2⟩
              · exact Or.inr ((g.grow hS2 (by rw [hX1]; omega) hX2).frame (fun _ _ _ => rfl) (fun a g1 g2 => hN a (by omega)))
          · have : upTT T 14 t (172 + X.2) (9 + (50 + q)) 0 = T (9 + (50 + q)) 0 := by
              unfold upTT
              rw [if_neg (by omega)]
            rw [this]
            exact ((hL.2 q hq).grow hS2 (by rw [hX1]; omega) hX2).frame (fun _ _ _ => rfl) (fun a g1 g2 => hN a (by omega))
      rw [r1, r2, Option.bind_some, Option.bind_some, if_pos rfl, text_loop ht]
      rw [if_neg (show ¬ (0 : Int32) ≤ (-1, S').1 by show ¬ (0 : Int32) ≤ -1; decide), if_pos hin, nI_ix (by omega)]
      refine ⟨_, _, rfl, rfl, rfl, ?_⟩
      dsimp only
      rw [e137]
      exact hRel
  · rw [decide_eq_false c0, if_neg (by decide), if_neg (by decide), found_eq, finds_eq]
    exact ⟨_, _, rfl, rfl, rfl, hR.fnd⟩
