/-! ===== the tape cut into tokens, by both ===== -/
def rwk (q : Int32 → Bool) (B : Nat → Int32) : Nat → Nat → Nat
  | 0, p => p
  | d + 1, p => if q (B p) = true then rwk q B d (p + 1) else p
def rnn (q : Int32 → Bool) (B : Nat → Int32) (n p : Nat) : Nat := rwk q B (n - p) p
theorem rnn_s {q : Int32 → Bool} {B : Nat → Int32} {n p : Nat} (h : p < n) : rnn q B n p = if q (B p) = true then rnn q B n (p + 1) else p := by
  unfold rnn
  rw [show n - p = (n - (p + 1)) + 1 by omega]
  rfl
theorem rnn_e {q : Int32 → Bool} {B : Nat → Int32} {n p : Nat} (h : n ≤ p) : rnn q B n p = p := by
  unfold rnn
  rw [show n - p = 0 by omega]
  rfl
theorem rnn_le {q : Int32 → Bool} {B : Nat → Int32} {n : Nat} : ∀ d p, p + d = n → p ≤ rnn q B n p ∧ rnn q B n p ≤ n ∧ ∀ i, p ≤ i → i < rnn q B n p → q (B i) = true := by
  intro d
  induction d with
  | zero =>
    intro p hp
    rw [rnn_e (by omega)]
    exact ⟨Nat.le_refl _, by omega, fun i h1 h2 => by omega⟩
  | succ d ih =>
    intro p hp
    rw [rnn_s (by omega)]
    by_cases c : q (B p) = true
    · rw [if_pos c]
      obtain ⟨h1, h2, h3⟩ := ih (p + 1) (by omega)
      refine ⟨by omega, h2, fun i h4 h5 => ?_⟩
      by_cases e : i = p
      · rw [e]; exact c
      · exact h3 i (by omega) h5
    · rw [if_neg c]
      exact ⟨Nat.le_refl _, by omega, fun i h1 h2 => by omega⟩
def isLt (b : Int32) : Bool := decide (97 ≤ b ∧ b ≤ 122)
def isDg (b : Int32) : Bool := decide (48 ≤ b ∧ b ≤ 57)
def isSp (b : Int32) : Bool := decide (b = 32)
def skn (B : Nat → Int32) (n e : Nat) : Nat := rnn isSp B n e
def eN (B : Nat → Int32) (n p : Nat) : Nat := if isLt (B p) = true then rnn isLt B n (p + 1) else if isDg (B p) = true then rnn isDg B n (p + 1) else p + 1
def bg (w : Nat) : Nat := [0, 4, 7, 11, 15, 19, 22, 27, 31, 39, 44, 48, 53, 57, 61, 63, 66, 69].getD w 0
def pmt (B : Nat → Int32) (p e w : Nat) : Nat → Bool
  | 0 => true
  | k + 1 => pmt B p e w k && (decide (p + k < e) && decide (B (p + k) = wCh (bg w + w + k)))
def mtw (B : Nat → Int32) (p e w : Nat) : Bool := pmt B p e w (bg (w + 1) - bg w) && decide (p + (bg (w + 1) - bg w) = e)
def wdF (B : Nat → Int32) (p e : Nat) : Nat → Nat → Nat
  | 0, _ => 25
  | d + 1, w => if mtw B p e w = true then w else wdF B p e d (w + 1)
def dv (B : Nat → Int32) (p : Nat) : Nat → Nat
  | 0 => 0
  | k + 1 => 10 * dv B p k + (ix (B (p + k)) - 48)
def sg (b : Int32) : Nat := if 0 ≤ sIx b then 17 + ix (sIx b) else 25
def tkv (B : Nat → Int32) (n p : Nat) : Nat := if isLt (B p) = true then wdF B p (eN B n p) 17 0 else if isDg (B p) = true then (if eN B n p - p ≤ 4 then 26 + dv B p (eN B n p - p) else 25) else sg (B p)
def rmp (t : Nat) : Int32 := if t < 17 then nI (t + 1) else match t with
  | 17 => 140
  | 18 => 141
  | 19 => 159
  | 20 => 143
  | 21 => 145
  | 22 => 160
  | 23 => 161
  | 24 => 0
  | 25 => 60
  | _ => 50
theorem bg_all : ∀ w, w < 17 → bg w < bg (w + 1) ∧ bg (w + 1) ≤ 69 ∧ wCh (bg (w + 1) + w) = 32 ∧ S2 162 w = nI (bg w) ∧ ∀ k, k < bg (w + 1) - bg w → ¬ wCh (bg w + w + k) = 32 ∧ S2 161 (bg w + k) = wCh (bg w + w + k) := by decide +kernel
theorem bg_17 : S2 162 17 = nI (bg 17) ∧ bg 17 = 69 := by decide +kernel
theorem sg_all : ∀ q, q < 256 → (((nI q).toUInt32 % 65536).toInt32 = nI q) ∧ ((0 ≤ sIx (nI q) ∧ (17 : Int32) + sIx (nI q) = nI (sg (nI q)) ∧ rM_isSign (nI q) = some true ∧ (100 : Int32) + nI q = rmp (sg (nI q)) ∧ 17 ≤ sg (nI q) ∧ sg (nI q) < 24) ∨ (¬ 0 ≤ sIx (nI q) ∧ sg (nI q) = 25 ∧ rM_isSign (nI q) = some false)) := by decide +kernel
theorem dg_all : ∀ q, q < 256 → isDg (nI q) = true → 48 ≤ q ∧ q < 58 := by decide +kernel
/-- what both know of the tape -/
def LXc (M : SS) (B : Nat → Int32) (n : Nat) : Prop := n ≤ 200 ∧ M 154 8 = nI n ∧ (∀ j, j < n → M 160 j &&& 255 = B j) ∧ (∀ j, j < n → inb (B j) 256) ∧ CN M
def CLc (S : SS) (B : Nat → Int32) (n : Nat) : Prop := n ≤ 200 ∧ S 137 1 = nI n ∧ (∀ j, j < n → S 138 j = B j) ∧ ∀ j, j < n → inb (B j) 256
theorem dv_lt {B : Nat → Int32} {p : Nat} : ∀ k, (∀ j, j < k → ix (B (p + j)) < 58) → dv B p k < 10 ^ k := by
  intro k
  induction k with
  | zero => intro _; exact Nat.lt_succ_self 0
  | succ k ih =>
    intro h
    have h1 := ih (fun j hj => h j (by omega))
    have h2 := h k (by omega)
    show 10 * dv B p k + (ix (B (p + k)) - 48) < 10 ^ (k + 1)
    rw [Nat.pow_succ]
    omega
theorem wdF_lt {B : Nat → Int32} {p e : Nat} : ∀ d w, w + d = 17 → wdF B p e d w < 17 ∨ wdF B p e d w = 25 := by
  intro d
  induction d with
  | zero => intro w _; exact Or.inr rfl
  | succ d ih =>
    intro w hw
    show (if mtw B p e w = true then w else wdF B p e d (w + 1)) < 17 ∨ (if mtw B p e w = true then w else wdF B p e d (w + 1)) = 25
    by_cases c : mtw B p e w = true
    · rw [if_pos c]; exact Or.inl (by omega)
    · rw [if_neg c]; exact ih (w + 1) (by omega)
theorem pmt_f {B : Nat → Int32} {p e w : Nat} : ∀ d k, pmt B p e w k = false → pmt B p e w (k + d) = false := by
  intro d
  induction d with
  | zero => intro k h; exact h
  | succ d ih =>
    intro k h
    show (pmt B p e w (k + d) && _) = false
    rw [ih k h, Bool.false_and]
section LexC
variable {S : SS} {B : Nat → Int32} {n : Nat}
theorem c_let (h : CLc S B n) {p : Nat} (hp : p < n) : cScribe_isLetter S (nI p) = some (isLt (B p)) := by
  have := h.1
  unfold cScribe_isLetter
  rw [if_pos (nI_inb (by omega) (by decide)), nI_ix (by omega), h.2.2.1 p hp, within_eq]
  rfl
theorem c_dig (h : CLc S B n) {p : Nat} (hp : p < n) : cScribe_isDigit S (nI p) = some (isDg (B p)) := by
  have := h.1
  unfold cScribe_isDigit
  rw [if_pos (nI_inb (by omega) (by decide)), nI_ix (by omega), h.2.2.1 p hp, within_eq]
  rfl
theorem c_end12 (h : CLc S B n) : ∀ d p f, p + d = n → d < f → cScribe_endOf_L12 S f (nI p) = some (nI (rnn isLt B n p)) := by
  have h200 := h.1
  intro d
  induction d with
  | zero =>
    intro p f hp hf
    obtain ⟨f', rfl⟩ : ∃ f', f = f' + 1 := ⟨f - 1, by omega⟩
    have e : p = n := by omega
    subst e
    rw [cScribe_endOf_L12, h.2.1, if_pos (Int32.le_refl _), rnn_e (Nat.le_refl _)]
  | succ d ih =>
    intro p f hp hf
    obtain ⟨f', rfl⟩ : ∃ f', f = f' + 1 := ⟨f - 1, by omega⟩
    rw [cScribe_endOf_L12, h.2.1, if_neg (nle (by omega) (by omega)), c_let h (by omega), Option.bind_some, rnn_s (show p < n by omega), nI_1]
    by_cases c : isLt (B p) = true
    · rw [if_pos c, if_pos c]
      exact ih (p + 1) f' (by omega) (by omega)
    · rw [if_neg c, if_neg c]
theorem c_end42 (h : CLc S B n) : ∀ d p f, p + d = n → d < f → cScribe_endOf_L42 S f (nI p) = some (nI (rnn isDg B n p)) := by
  have h200 := h.1
  intro d
  induction d with
  | zero =>
    intro p f hp hf
    obtain ⟨f', rfl⟩ : ∃ f', f = f' + 1 := ⟨f - 1, by omega⟩
    have e : p = n := by omega
    subst e
    rw [cScribe_endOf_L42, h.2.1, if_pos (Int32.le_refl _), rnn_e (Nat.le_refl _)]
  | succ d ih =>
    intro p f hp hf
    obtain ⟨f', rfl⟩ : ∃ f', f = f' + 1 := ⟨f - 1, by omega⟩
    rw [cScribe_endOf_L42, h.2.1, if_neg (nle (by omega) (by omega)), c_dig h (by omega), Option.bind_some, rnn_s (show p < n by omega), nI_1]
    by_cases c : isDg (B p) = true
    · rw [if_pos c, if_pos c]
      exact ih (p + 1) f' (by omega) (by omega)
    · rw [if_neg c, if_neg c]
theorem eN_b {p : Nat} (hp : p < n) : p < eN B n p ∧ eN B n p ≤ n := by
  unfold eN
  have h1 := rnn_le (q := isLt) (B := B) (n := n) (n - (p + 1)) (p + 1) (by omega)
  have h2 := rnn_le (q := isDg) (B := B) (n := n) (n - (p + 1)) (p + 1) (by omega)
  split
  · omega
  · split <;> omega
theorem c_endOf (h : CLc S B n) {p : Nat} (hp : p < n) : cScribe_endOf S (nI p) = some (nI (eN B n p)) := by
  have h200 := h.1
  unfold cScribe_endOf eN
  rw [c_let h hp, Option.bind_some, nI_1, c_dig h hp, Option.bind_some]
  by_cases c : isLt (B p) = true
  · rw [if_pos c, if_pos c]
    exact c_end12 h (n - (p + 1)) (p + 1) FU (by omega) (by unfold FU; omega)
  · rw [if_neg c, if_neg c]
    by_cases c2 : isDg (B p) = true
    · rw [if_pos c2, if_pos c2]
      exact c_end42 h (n - (p + 1)) (p + 1) FU (by omega) (by unfold FU; omega)
    · rw [if_neg c2, if_neg c2]
theorem c_num (h : CLc S B n) {p e : Nat} (he : e ≤ n) (hd : ∀ i, p ≤ i → i < e → isDg (B i) = true) : ∀ d i f, p + i + d = e → d < f → i + d ≤ 4 → cScribe_numberOf_L15 S f (nI e) (nI (dv B p i)) (nI (p + i)) = some (nI (26 + dv B p (i + d))) := by
  have h200 := h.1
  intro d
  induction d with
  | zero =>
    intro i f hi hf _
    obtain ⟨f', rfl⟩ : ∃ f', f = f' + 1 := ⟨f - 1, by omega⟩
    have e1 : p + i = e := by omega
    rw [cScribe_numberOf_L15, e1, if_pos (Int32.le_refl _), show (26 : Int32) = nI 26 from rfl, nI_add]
    rfl
  | succ d ih =>
    intro i f hi hf h4
    obtain ⟨f', rfl⟩ : ∃ f', f = f' + 1 := ⟨f - 1, by omega⟩
    obtain ⟨b, hb, eb⟩ := inb_ex (h.2.2.2 (p + i) (by omega))
    have hg := hd (p + i) (by omega) (by omega)
    rw [eb] at hg
    have hb2 := dg_all b hb hg
    have e2 : (10 : Int32) * nI (dv B p i) + B (p + i) - 48 = nI (dv B p (i + 1)) := by
      show _ = nI (10 * dv B p i + (ix (B (p + i)) - 48))
      rw [eb, show (10 : Int32) = nI 10 from rfl, pk_mul, nI_add, show (48 : Int32) = nI 48 from rfl, pk_sub (by omega), nI_ix (by omega)]
      congr 1
      omega
    have := ih (i + 1) f' (by omega) (by omega) (by omega)
    rw [cScribe_numberOf_L15, if_neg (nle (by omega) (by omega)), if_pos (nI_inb (show p + i < 200 by omega) (by decide)), nI_ix (by omega), h.2.2.1 (p + i) (by omega), e2, nI_1]
    rw [show i + (d + 1) = i + 1 + d by omega]
    exact this
theorem c_word1 (h : CLc S B n) {p e w : Nat} (hw : w < 17) (hpn : p < n) (he : e ≤ n) : ∀ d k f, k + d = bg (w + 1) - bg w → cScribe_wordOf_L11 S (f + d + 1) (nI p) (nI e) (nI w) (nI (p + k)) (pmt B p e w k) (nI (bg w + w + k)) = if mtw B p e w = true then some (nI w) else cScribe_wordOf_L11 S f (nI p) (nI e) (nI (w + 1)) (nI p) true (nI (bg (w + 1) + (w + 1))) := by
  have h200 := h.1
  obtain ⟨b1, b2, b3, b4, b5⟩ := bg_all w hw
  intro d
  induction d with
  | zero =>
    intro k f hk
    have hpos : bg w + w + k = bg (w + 1) + w := by omega
    have hkl : k = bg (w + 1) - bg w := by omega
    rw [cScribe_wordOf_L11, hpos, if_neg (show ¬ (86 : Int32) ≤ nI (bg (w + 1) + w) from nle (n := 86) (by omega) (by decide)), if_pos (nI_inb (by omega) (by decide)), nI_ix (by omega), if_pos b3]
    unfold cScribe_wordOf_J50 cScribe_wordOf_J95
    rw [nI_1, nI_1, show bg (w + 1) + w + 1 = bg (w + 1) + (w + 1) by omega]
    unfold mtw
    rw [← hkl]
    cases pmt B p e w k
    · rw [if_neg (by decide), Bool.false_and, if_neg (by decide)]
    · rw [if_pos rfl, Bool.true_and]
      by_cases c : p + k = e
      · rw [if_pos (by rw [c]), decide_eq_true c, if_pos rfl]
      · rw [if_neg (fun z => c ((nI_eq (by omega) (by omega)).mp z)), decide_eq_false c, if_neg (by decide)]
  | succ d ih =>
    intro k f hk
    have hk2 : k < bg (w + 1) - bg w := by omega
    obtain ⟨b6, b7⟩ := b5 k hk2
    have := ih (k + 1) f (by omega)
    rw [show f + (d + 1) + 1 = (f + d + 1) + 1 by omega, cScribe_wordOf_L11, if_neg (show ¬ (86 : Int32) ≤ nI (bg w + w + k) from nle (n := 86) (by omega) (by decide)), if_pos (nI_inb (by omega) (by decide)), nI_ix (by omega), if_neg b6]
    unfold cScribe_wordOf_J89 cScribe_wordOf_J90 cScribe_wordOf_J95
    rw [nI_1, nI_1]
    have ep : pmt B p e w (k + 1) = (pmt B p e w k && (decide (p + k < e) && decide (B (p + k) = wCh (bg w + w + k)))) := rfl
    rw [ep] at this
    rw [show bg w + w + (k + 1) = bg w + w + k + 1 by omega, show p + (k + 1) = p + k + 1 by omega] at this
    cases hp : pmt B p e w k
    · rw [hp, Bool.false_and] at this
      rw [if_neg (by decide)]
      exact this
    · rw [hp, Bool.true_and] at this
      rw [if_pos rfl]
      by_cases c : p + k < e
      · rw [if_neg (nle c (by omega)), if_pos (nI_inb (show p + k < 200 by omega) (by decide)), nI_ix (by omega), h.2.2.1 _ (by omega)]
        rw [decide_eq_true c, Bool.true_and] at this
        by_cases c2 : B (p + k) = wCh (bg w + w + k)
        · rw [if_pos c2]
          rw [decide_eq_true c2] at this
          exact this
        · rw [if_neg c2]
          rw [decide_eq_false c2] at this
          exact this
      · rw [if_pos (nI_le (show e ≤ p + k by omega) (by omega))]
        rw [decide_eq_false c, Bool.false_and] at this
        exact this
theorem c_words (h : CLc S B n) {p e : Nat} (hpn : p < n) (he : e ≤ n) : ∀ d w f, w + d = 17 → 100 * d < f → cScribe_wordOf_L11 S f (nI p) (nI e) (nI w) (nI p) true (nI (bg w + w)) = some (nI (wdF B p e d w)) := by
  intro d
  induction d with
  | zero =>
    intro w f hw hf
    obtain ⟨f', rfl⟩ : ∃ f', f = f' + 1 := ⟨f - 1, by omega⟩
    have e1 : w = 17 := by omega
    subst e1
    rw [cScribe_wordOf_L11, if_pos (by decide)]
    rfl
  | succ d ih =>
    intro w f hw hf
    obtain ⟨b1, b2, _⟩ := bg_all w (by omega)
    obtain ⟨f', rfl⟩ : ∃ f', f = f' + (bg (w + 1) - bg w) + 1 := ⟨f - (bg (w + 1) - bg w) - 1, by omega⟩
    have := c_word1 h (w := w) (by omega) hpn he (bg (w + 1) - bg w) 0 f' (by omega)
    rw [show cScribe_wordOf_L11 S (f' + (bg (w + 1) - bg w) + 1) (nI p) (nI e) (nI w) (nI p) true (nI (bg w + w)) = _ from this, ih (w + 1) f' (by omega) (by omega)]
    show _ = some (nI (if mtw B p e w = true then w else wdF B p e d (w + 1)))
    by_cases c : mtw B p e w = true
    · rw [if_pos c, if_pos c]
    · rw [if_neg c, if_neg c]
theorem c_tok (h : CLc S B n) {p : Nat} (hp : p < n) : cScribe_tokenOf S (nI p) (nI (eN B n p)) = some (nI (tkv B n p)) := by
  have h200 := h.1
  have he := eN_b (B := B) hp
  obtain ⟨b, hb, eb⟩ := inb_ex (h.2.2.2 p hp)
  unfold cScribe_tokenOf tkv
  rw [c_let h hp, Option.bind_some, c_dig h hp, Option.bind_some]
  by_cases c : isLt (B p) = true
  · rw [if_pos c, if_pos c]
    unfold cScribe_wordOf
    rw [show cScribe_wordOf_L11 S FU (nI p) (nI (eN B n p)) 0 (nI p) true 0 = _ from c_words h hp he.2 17 0 FU (by omega) (by unfold FU; omega)]
    rfl
  · rw [if_neg c, if_neg c]
    by_cases c2 : isDg (B p) = true
    · rw [if_pos c2, if_pos c2]
      unfold cScribe_numberOf
      rw [pk_sub (show p ≤ eN B n p by omega)]
      by_cases c3 : eN B n p - p ≤ 4
      · rw [if_pos (show nI (eN B n p - p) ≤ 4 from nI_le (b := 4) c3 (by decide)), if_pos c3]
        have ee : eN B n p = rnn isDg B n (p + 1) := by
          unfold eN
          rw [if_neg c, if_pos c2]
        have hall := (rnn_le (q := isDg) (B := B) (n := n) (n - (p + 1)) (p + 1) (by omega)).2.2
        rw [← ee] at hall
        have := c_num h (p := p) he.2 (fun i h1 h2 => by
          by_cases e : i = p
          · rw [e]; exact c2
          · exact hall i (by omega) h2) (eN B n p - p) 0 FU (by omega) (by unfold FU; omega) (by omega)
        rw [Nat.zero_add] at this
        rw [show cScribe_numberOf_L15 S FU (nI (eN B n p)) 0 (nI p) = _ from this]
        rfl
      · rw [if_neg (show ¬ nI (eN B n p - p) ≤ 4 from nle (n := eN B n p - p) (i := 4) (by omega) (by omega)), if_neg c3]
        rfl
    · rw [if_neg c2, if_neg c2, if_pos (nI_inb (show p < 200 by omega) (by decide)), nI_ix (by omega), h.2.2.1 p hp, eb]
      obtain ⟨s1, s2⟩ := sg_all b hb
      rw [s1]
      rcases s2 with ⟨s3, s4, _⟩ | ⟨s3, s4, _⟩
      · rw [if_pos s3, s4]
      · rw [if_neg s3, s4]
        rfl
end LexC
/-! the row of tokens -/
def eE (B : Nat → Int32) (n p : Nat) : Nat := if p < n then eN B n p else n
def tkE (B : Nat → Int32) (n p : Nat) : Nat := if p < n then tkv B n p else 24
def eq_ (B : Nat → Int32) (n : Nat) : Nat → Nat
  | 0 => 0
  | j + 1 => eE B n (skn B n (eq_ B n j))
def pq (B : Nat → Int32) (n j : Nat) : Nat := skn B n (eq_ B n j)
def tq (B : Nat → Int32) (n j : Nat) : Nat := tkE B n (pq B n j)
theorem skn_b {B : Nat → Int32} {n e : Nat} (h : e ≤ n) : e ≤ skn B n e ∧ skn B n e ≤ n := by
  have := rnn_le (q := isSp) (B := B) (n := n) (n - e) e (by omega)
  exact ⟨this.1, this.2.1⟩
theorem eq_b {B : Nat → Int32} {n : Nat} : ∀ j, eq_ B n j ≤ n := by
  intro j
  induction j with
  | zero => exact Nat.zero_le _
  | succ j ih =>
    show eE B n (skn B n (eq_ B n j)) ≤ n
    unfold eE
    split
    · rename_i h
      exact (eN_b h).2
    · exact Nat.le_refl _
theorem tkv_b {B : Nat → Int32} {n p : Nat} (hB : ∀ j, j < n → inb (B j) 256) (hp : p < n) : tkv B n p ≠ 24 ∧ tkv B n p < 10026 := by
  have he := eN_b (B := B) hp
  obtain ⟨b, hb, eb⟩ := inb_ex (hB p hp)
  unfold tkv
  by_cases c : isLt (B p) = true
  · rw [if_pos c]
    rcases wdF_lt (B := B) (p := p) (e := eN B n p) 17 0 rfl with h | h <;> omega
  · rw [if_neg c]
    by_cases c2 : isDg (B p) = true
    · rw [if_pos c2]
      by_cases c3 : eN B n p - p ≤ 4
      · rw [if_pos c3]
        have ee : eN B n p = rnn isDg B n (p + 1) := by
          unfold eN
          rw [if_neg c, if_pos c2]
        have hall := (rnn_le (q := isDg) (B := B) (n := n) (n - (p + 1)) (p + 1) (by omega)).2.2
        rw [← ee] at hall
        have := dv_lt (B := B) (p := p) (eN B n p - p) (fun j hj => by
          obtain ⟨b', hb', eb'⟩ := inb_ex (hB (p + j) (by omega))
          have hg : isDg (B (p + j)) = true := by
            by_cases e : j = 0
            · rw [e]; exact c2
            · exact hall (p + j) (by omega) (by omega)
          rw [eb'] at hg ⊢
          rw [nI_ix (by omega)]
          exact (dg_all b' hb' hg).2)
        have h4 : 10 ^ (eN B n p - p) ≤ 10 ^ 4 := Nat.pow_le_pow_right (by decide) c3
        omega
      · rw [if_neg c3]
        omega
    · rw [if_neg c2, eb]
      rcases (sg_all b hb).2 with ⟨_, _, _, _, s1, s2⟩ | ⟨_, s1, _⟩ <;> omega
/-- the class's row of tokens stands -/
def CT (S : SS) (B : Nat → Int32) (n j : Nat) : Prop := S 137 4 = nI j ∧ (∀ i, i < j → S 139 i = nI (tq B n i) ∧ S 140 i = nI (pq B n i) ∧ pq B n i < n)
theorem cut_go {S0 : SS} {B : Nat → Int32} {n : Nat} (hc : CLc S0 B n) : ∀ d a j S f, a + d = n → d < f → j ≤ a → (∀ x, x ≠ 137 → x ≠ 139 → x ≠ 140 → S x = S0 x) → (∀ i, i ≠ 4 → S 137 i = S0 137 i) → CT S B n j → (eq_ B n j ≤ a → skn B n a = pq B n j) → ∃ N S', cScribe_cut_L9 f S (nI (eq_ B n j)) (nI a) = some S' ∧ N ≤ n ∧ (∀ x, x ≠ 137 → x ≠ 139 → x ≠ 140 → S' x = S0 x) ∧ (∀ i, i ≠ 4 → S' 137 i = S0 137 i) ∧ CT S' B n N ∧ S' 139 N = nI (tq B n N) ∧ S' 140 N = nI (pq B n N) ∧ tq B n N = 24 := by
  have h200 := hc.1
  intro d
  induction d with
  | zero =>
    intro a j S f ha hf hj hS h7 hT hsk
    obtain ⟨f', rfl⟩ : ∃ f', f = f' + 1 := ⟨f - 1, by omega⟩
    have e : a = n := by omega
    subst e
    have hb := eq_b (B := B) (n := a) j
    have hp : pq B a j = a := by
      rw [← hsk hb]
      exact rnn_e (Nat.le_refl _)
    have ht : tq B a j = 24 := by
      unfold tq tkE
      rw [hp, if_neg (by omega)]
    have e1 : S 137 1 = nI a := by rw [h7 1 (by decide)]; exact hc.2.1
    have hin : inb (nI j) 201 := nI_inb (by omega) (by decide)
    refine ⟨j, up (up S 139 j 24) 140 j (nI a), ?_, hj, fun x g1 g2 g3 => ?_, fun i hi => ?_, ⟨?_, fun i hi => ⟨?_, ?_, (hT.2 i hi).2.2⟩⟩, ?_, ?_, ht⟩
    · rw [cScribe_cut_L9, e1, if_pos (Int32.le_refl _), hT.1, if_pos hin, nI_ix (by omega), up_x (show (137 : Nat) ≠ 139 by decide), hT.1, if_pos hin, nI_ix (by omega), up_x (show (137 : Nat) ≠ 139 by decide), e1]
    · rw [up_o g3, up_o g2]
      exact hS x g1 g2 g3
    · rw [up_x (by decide), up_x (by decide)]
      exact h7 i hi
    · rw [up_x (by decide), up_x (by decide)]
      exact hT.1
    · rw [up_x (by decide), up_j (by omega)]
      exact (hT.2 i hi).1
    · rw [up_j (by omega), up_x (by decide)]
      exact (hT.2 i hi).2.1
    · rw [up_x (by decide), up_s, ht]
      rfl
    · rw [up_s, hp]
  | succ d ih =>
    intro a j S f ha hf hj hS h7 hT hsk
    obtain ⟨f', rfl⟩ : ∃ f', f = f' + 1 := ⟨f - 1, by omega⟩
    have hb := eq_b (B := B) (n := n) j
    have e1 : S 137 1 = nI n := by rw [h7 1 (by decide)]; exact hc.2.1
    have hcS : CLc S B n := ⟨hc.1, e1, fun i hi => by rw [hS 138 (by decide) (by decide) (by decide)]; exact hc.2.2.1 i hi, hc.2.2.2⟩
    rw [cScribe_cut_L9, e1, if_neg (nle (by omega) (by omega))]
    unfold cScribe_cut_J74
    rw [nI_1]
    by_cases c1 : a < eq_ B n j
    · rw [if_pos (nI_lt c1 (by omega))]
      exact ih (a + 1) j S f' (by omega) (by omega) (by omega) hS h7 hT (fun z => by rw [show a + 1 = eq_ B n j by omega]; rfl)
    · rw [if_neg (nI_nlt (by omega) (by omega)), if_pos (nI_inb (show a < 200 by omega) (by decide)), nI_ix (by omega), hcS.2.2.1 a (by omega)]
      have hs := hsk (by omega)
      have st : skn B n a = if isSp (B a) = true then skn B n (a + 1) else a := rnn_s (by omega)
      by_cases c2 : B a = 32
      · rw [if_pos c2]
        refine ih (a + 1) j S f' (by omega) (by omega) (by omega) hS h7 hT (fun z => ?_)
        rw [← hs, st, if_pos (show isSp (B a) = true from decide_eq_true c2)]
      · rw [if_neg c2]
        have hp : pq B n j = a := by
          rw [← hs, st, if_neg (show ¬ isSp (B a) = true from fun z => c2 (of_decide_eq_true z))]
        have hin : inb (nI j) 201 := nI_inb (by omega) (by decide)
        have hE : eq_ B n (j + 1) = eN B n a := by
          show eE B n (pq B n j) = _
          unfold eE
          rw [hp, if_pos (by omega)]
        have hQ : tq B n j = tkv B n a := by
          unfold tq tkE
          rw [hp, if_pos (by omega)]
        have he := eN_b (B := B) (n := n) (p := a) (by omega)
        rw [c_endOf hcS (by omega), Option.bind_some, c_tok hcS (by omega), Option.bind_some, hT.1, if_pos hin, nI_ix (by omega), up_x (show (137 : Nat) ≠ 139 by decide), hT.1, if_pos hin, nI_ix (by omega), up_x (show (137 : Nat) ≠ 140 by decide), up_x (show (137 : Nat) ≠ 139 by decide), hT.1, nI_1, ← hE]
        refine ih (a + 1) (j + 1) _ f' (by omega) (by omega) (by omega) (fun x g1 g2 g3 => ?_) (fun i hi => ?_) ⟨up_s, fun i hi => ?_⟩ (fun z => by rw [show a + 1 = eq_ B n (j + 1) by omega]; rfl)
        · rw [up_o g1, up_o g3, up_o g2]
          exact hS x g1 g2 g3
        · rw [up_j hi, up_x (by decide), up_x (by decide)]
          exact h7 i hi
        · rw [up_x (show (139 : Nat) ≠ 137 by decide), up_x (show (139 : Nat) ≠ 140 by decide), up_x (show (140 : Nat) ≠ 137 by decide)]
          by_cases e : i = j
          · subst e
            rw [up_s, up_s, hQ, hp]
            exact ⟨rfl, rfl, by omega⟩
          · rw [up_j e, up_j e, up_x (by decide)]
            exact hT.2 i (by omega)
theorem cut_ok {S : SS} {B : Nat → Int32} {n : Nat} (hc : CLc S B n) : ∃ N S', cScribe_cut S = some S' ∧ N ≤ n ∧ (∀ x, x ≠ 137 → x ≠ 139 → x ≠ 140 → S' x = S x) ∧ (∀ i, i ≠ 4 → S' 137 i = S 137 i) ∧ CT S' B n N ∧ S' 139 N = nI (tq B n N) ∧ S' 140 N = nI (pq B n N) ∧ tq B n N = 24 := by
  unfold cScribe_cut
  exact cut_go hc n 0 0 (up S 137 4 0) FU (by omega) (by have := hc.1; unfold FU; omega) (Nat.le_refl _) (fun x g1 _ _ => up_o g1) (fun i hi => up_j hi) ⟨up_s, fun i hi => absurd hi (by omega)⟩ (fun _ => rfl)
