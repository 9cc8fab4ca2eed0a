section
theorem pk_us {f : Nat → Int32} {k : Nat} {x : Int32} : upd f k x k = x := if_pos rfl
theorem pk_un {f : Nat → Int32} {k j : Nat} {x : Int32} (h : j ≠ k) : upd f k x j = f j := if_neg h
theorem pk_sub {a b : Nat} (h : b ≤ a) : nI a - nI b = nI (a - b) := by
  obtain ⟨c, rfl⟩ : ∃ c, a = c + b := ⟨a - b, by omega⟩
  rw [← nI_add, Int32.add_sub_cancel, Nat.add_sub_cancel]
theorem pk_mul (a b : Nat) : nI a * nI b = nI (a * b) := (Int32.ofNat_mul a b).symm
theorem pk_div {a d : Nat} (ha : a < 2 ^ 31) (h0 : 0 < d) (hd : d < 2 ^ 31) : nI a / nI d = nI (a / d) := by
  apply Int32.toInt_inj.mp
  rw [lg_idiv_nonneg (by rw [nI_toInt ha]; omega) (by rw [nI_toInt hd]; omega), nI_toInt ha, nI_toInt hd, nI_toInt (Nat.lt_of_le_of_lt (Nat.div_le_self a d) ha)]
  first | rfl | exact (Int.natCast_ediv _ _).symm
theorem pk_rem {a d : Nat} (ha : a < 2 ^ 31) (h0 : 0 < d) (hd : d < 2 ^ 31) : nI a - nI a / nI d * nI d = nI (a % d) := by
  rw [pk_div ha h0 hd, pk_mul, pk_sub (Nat.div_mul_le_self a d)]
  exact congrArg nI (by have := Nat.div_add_mod' a d; omega)
theorem pk_sub_toInt {a b : Nat} (ha : a < 2 ^ 30) (hb : b < 2 ^ 30) : (nI a - nI b).toInt = (a : Int) - b := by
  rw [Int32.toInt_sub, nI_toInt (by omega), nI_toInt (by omega)]
  exact Int.bmod_eq_of_le (by omega) (by omega)
theorem pk_sneg {a b : Nat} (hb : b < 2 ^ 30) (h : a < b) : nI a - nI b < 0 := by
  rw [Int32.lt_iff_toInt_lt, pk_sub_toInt (by omega) hb, show (0 : Int32).toInt = 0 from by decide]
  omega
theorem pk_ix (x : Int32) {n : Nat} (hn : n < 2 ^ 31) : x < 0 ∨ nI n ≤ x ∨ ∃ j : Nat, j < n ∧ x = nI j := by
  by_cases h : x < 0
  · exact Or.inl h
  · obtain ⟨j, hj, rfl⟩ := nI_of h
    by_cases h2 : j < n
    · exact Or.inr (Or.inr ⟨j, h2, rfl⟩)
    · exact Or.inr (Or.inl (nI_le (by omega) hj))
theorem pk_le {x y : Int32} {A B : Prop} (a b : Nat) (f : a ≤ b → A) (g : b < a → B) (hx : x = nI a := by rfl) (hy : y = nI b := by rfl) (ha : a < 2 ^ 31 := by omega) (hb : b < 2 ^ 31 := by omega) : (x ≤ y → A) ∧ (¬ x ≤ y → B) := by
  subst hx hy
  rw [nI_leI ha hb]
  exact ⟨f, fun z => g (by omega)⟩
theorem pk_lt {x y : Int32} {A B : Prop} (a b : Nat) (f : a < b → A) (g : b ≤ a → B) (hx : x = nI a := by rfl) (hy : y = nI b := by rfl) (ha : a < 2 ^ 31 := by omega) (hb : b < 2 ^ 31 := by omega) : (x < y → A) ∧ (¬ x < y → B) := by
  subst hx hy
  rw [nI_ltI ha hb]
  exact ⟨f, fun z => g (by omega)⟩
theorem pk_eq {x y : Int32} {A B : Prop} (a b : Nat) (f : a = b → A) (g : a ≠ b → B) (hx : x = nI a := by rfl) (hy : y = nI b := by rfl) (ha : a < 2 ^ 31 := by omega) (hb : b < 2 ^ 31 := by omega) : (x = y → A) ∧ (¬ x = y → B) := by
  subst hx hy
  rw [nI_eq ha hb]
  exact ⟨f, g⟩
theorem pk_in {x : Int32} (n N : Nat) (h : n < N) (hx : x = nI n := by rfl) (hN : N < 2 ^ 31 := by omega) : vp_in x N := by
  subst hx
  exact vp_in_nI h hN
theorem pk_cl {x : Int32} (n : Nat) (hx : x = nI n := by rfl) (h : n < 2 ^ 31 := by omega) : x.toNatClampNeg = n := by
  subst hx
  exact nI_clamp h
/-! own rows: numbers -/
theorem sp_mi {C : Int32} (a c i : Nat) (hC : C = nI c) : nI a * C + nI i = nI (a * c + i) := by
  rw [hC, pk_mul, nI_add]
def sp_n (a : Nat → Int32) (i : Nat) : Nat := (a i).toNatClampNeg
def sp_B (a : Nat → Int32) (m : Nat) : Prop := ∀ i, ∃ j, j ≤ m ∧ a i = nI j
theorem sp_Be {a : Nat → Int32} {m : Nat} (h : sp_B a m) (i : Nat) (hm : m < 2 ^ 31 := by omega) : a i = nI (sp_n a i) := by
  obtain ⟨j, hj, e⟩ := h i
  unfold sp_n
  rw [e, nI_clamp (by omega)]
theorem sp_Bl {a : Nat → Int32} {m : Nat} (h : sp_B a m) (i : Nat) (hm : m < 2 ^ 31 := by omega) : sp_n a i ≤ m := by
  obtain ⟨j, hj, e⟩ := h i
  unfold sp_n
  rw [e, nI_clamp (by omega)]
  exact hj
theorem sp_Bu {a : Nat → Int32} {m k v : Nat} (h : sp_B a m) (hv : v ≤ m) : sp_B (upd a k (nI v)) m := by
  intro i
  by_cases e : i = k
  · exact ⟨v, hv, by rw [e, pk_us]⟩
  · rw [pk_un e]; exact h i
theorem sp_nus {a : Nat → Int32} {k v : Nat} (hv : v < 2 ^ 31) : sp_n (upd a k (nI v)) k = v := by
  unfold sp_n
  rw [pk_us, nI_clamp hv]
theorem sp_nun {a : Nat → Int32} {k j : Nat} {x : Int32} (h : j ≠ k) : sp_n (upd a k x) j = sp_n a j := by
  unfold sp_n
  rw [pk_un h]
/-- a with g laid over the cells f .. f + m - 1 -/
def sp_ov (a : Nat → Int32) (f m : Nat) (g : Nat → Int32) : Nat → Int32 := fun j => if f ≤ j ∧ j < f + m then g (j - f) else a j
theorem sp_ov_0 {a : Nat → Int32} {f : Nat} {g : Nat → Int32} : sp_ov a f 0 g = a := by
  funext j
  unfold sp_ov
  rw [if_neg (by omega)]
theorem sp_ov_s {a : Nat → Int32} {f i : Nat} {g : Nat → Int32} : upd (sp_ov a f i g) (f + i) (g i) = sp_ov a f (i + 1) g := by
  funext j
  unfold upd sp_ov
  by_cases e : j = f + i
  · rw [if_pos e, if_pos (by omega), show j - f = i by omega]
  · rw [if_neg e]
    by_cases h : f ≤ j ∧ j < f + i
    · rw [if_pos h, if_pos (by omega)]
    · rw [if_neg h, if_neg (by omega)]
theorem sp_ov_in {a : Nat → Int32} {f m j : Nat} {g : Nat → Int32} (h : j < m) : sp_ov a f m g (f + j) = g j := by
  unfold sp_ov
  rw [if_pos (by omega), show f + j - f = j by omega]
theorem sp_ov_out {a : Nat → Int32} {f m j : Nat} {g : Nat → Int32} (h : j < f ∨ f + m ≤ j) : sp_ov a f m g j = a j := by
  unfold sp_ov
  rw [if_neg (by omega)]
theorem sp_ov_B {a : Nat → Int32} {f m c : Nat} {g : Nat → Int32} (h : sp_B a c) (hg : sp_B g c) : sp_B (sp_ov a f m g) c := by
  intro i
  unfold sp_ov
  split
  · exact hg _
  · exact h _
theorem sp_ov_n {a : Nat → Int32} {f m j : Nat} {g : Nat → Int32} (h : j < m) : sp_n (sp_ov a f m g) (f + j) = sp_n g j := by
  unfold sp_n
  rw [sp_ov_in h]
theorem sp_ov_no {a : Nat → Int32} {f m j : Nat} {g : Nat → Int32} (h : j < f ∨ f + m ≤ j) : sp_n (sp_ov a f m g) j = sp_n a j := by
  unfold sp_n
  rw [sp_ov_out h]
theorem sp_uu {a : Nat → Int32} {k : Nat} {x y : Int32} : upd (upd a k x) k y = upd a k y := by
  funext j
  unfold upd
  by_cases e : j = k
  · rw [if_pos e, if_pos e]
  · rw [if_neg e, if_neg e, if_neg e]
/-! a choice: 0 none, c + 1 rule c -/
def sp_u (c : Nat) : Int32 := nI c - 1
theorem sp_u0 : sp_u 0 = -1 := by decide
theorem sp_us (c : Nat) : sp_u (c + 1) = nI c := nI_pred c
theorem sp_u1 (c : Nat) : sp_u c + 1 = sp_u (c + 1) := by
  rw [sp_us]
  unfold sp_u
  rw [Int32.sub_add_cancel]
theorem sp_u_neg {A B : Prop} (c : Nat) (hc : c < 2 ^ 31) (f : c = 0 → A) (g : ∀ r, c = r + 1 → B) : (sp_u c < 0 → A) ∧ (¬ sp_u c < 0 → B) := by
  cases c with
  | zero => exact br_t (by decide) (f rfl)
  | succ r => exact br_f (by rw [sp_us]; exact nI_pos (by omega)) (g r rfl)
theorem sp_u_le {A B : Prop} (m c : Nat) (hm : m < 2 ^ 31) (hc : c < 2 ^ 31) (f : m < c → A) (g : c ≤ m → B) : (nI m ≤ sp_u c → A) ∧ (¬ nI m ≤ sp_u c → B) := by
  cases c with
  | zero =>
    refine br_f ?_ (g (by omega))
    intro h
    have h2 : (0 : Int32) ≤ nI m := nI_pos' hm
    exact absurd (Int32.le_trans h2 h) (by decide)
  | succ r =>
    rw [sp_us]
    exact pk_le m r (fun h => f (by omega)) (fun h => g (by omega)) rfl rfl hm (by omega)
/-- the rule of a choice, as a call tells it -/
def sp_v (c : Nat) : Int32 := if c = 0 then -6 else nI (c - 1)
theorem sp_v0 : sp_v 0 = -6 := rfl
theorem sp_vs (c : Nat) : sp_v (c + 1) = nI c := by
  unfold sp_v
  rw [if_neg (by omega), Nat.add_sub_cancel]
theorem sp_n6 {n : Nat} (h : n < 2 ^ 31) : ¬ nI n = -6 := by
  intro e
  have := nI_pos (n := n) h
  rw [e] at this
  exact this (by decide)
theorem sp_v_neg {A B : Prop} (c : Nat) (hc : c < 2 ^ 31) (f : c = 0 → A) (g : ∀ r, c = r + 1 → B) : (sp_v c = -6 → A) ∧ (¬ sp_v c = -6 → B) := by
  cases c with
  | zero => exact br_t rfl (f rfl)
  | succ r => exact br_f (by rw [sp_vs]; exact sp_n6 (by omega)) (g r rfl)
/-! counting -/
noncomputable def sp_c (P : Nat → Prop) : Nat → Nat
  | 0 => 0
  | n + 1 => sp_c P n + @ite Nat (P n) (Classical.propDecidable (P n)) 1 0
theorem sp_c_t {P : Nat → Prop} {n : Nat} (h : P n) : sp_c P (n + 1) = sp_c P n + 1 := by
  show sp_c P n + _ = _
  rw [if_pos h]
theorem sp_c_f {P : Nat → Prop} {n : Nat} (h : ¬ P n) : sp_c P (n + 1) = sp_c P n := by
  show sp_c P n + _ = _
  rw [if_neg h]
  rfl
theorem sp_c_1 (P : Nat → Prop) (n : Nat) : sp_c P n ≤ sp_c P (n + 1) ∧ sp_c P (n + 1) ≤ sp_c P n + 1 := by
  by_cases h : P n
  · rw [sp_c_t h]; omega
  · rw [sp_c_f h]; omega
theorem sp_c_le (P : Nat → Prop) (n : Nat) : sp_c P n ≤ n := by
  induction n with
  | zero => exact Nat.le_refl 0
  | succ n ih => have := sp_c_1 P n; omega
theorem sp_c_mono (P : Nat → Prop) {m n : Nat} (h : m ≤ n) : sp_c P m ≤ sp_c P n := by
  induction n with
  | zero => rw [show m = 0 by omega]; exact Nat.le_refl _
  | succ n ih =>
    by_cases e : m = n + 1
    · rw [e]; exact Nat.le_refl _
    · have := sp_c_1 P n
      have := ih (by omega)
      omega
theorem sp_c_skip {P : Nat → Prop} {m n : Nat} (h : m ≤ n) (hn : ∀ k, m ≤ k → k < n → ¬ P k) : sp_c P n = sp_c P m := by
  induction n with
  | zero => rw [show m = 0 by omega]
  | succ n ih =>
    by_cases e : m = n + 1
    · rw [e]
    · rw [sp_c_f (hn n (by omega) (by omega))]
      exact ih (by omega) (fun k h1 h2 => hn k h1 (by omega))
theorem sp_c_lt {P : Nat → Prop} {a n : Nat} (h : P a) (ha : a < n) : sp_c P a < sp_c P n := by
  have h1 := sp_c_t h
  have h2 := sp_c_mono P (m := a + 1) (n := n) ha
  omega
theorem sp_c_uniq {P : Nat → Prop} {a c : Nat} (ha : P a) (hc : P c) (e : sp_c P a = sp_c P c) : a = c := by
  by_cases h : a < c
  · have := sp_c_lt ha h; omega
  · by_cases h2 : c < a
    · have := sp_c_lt hc h2; omega
    · omega
theorem sp_c_ex {P : Nat → Prop} {m n j : Nat} (h1 : sp_c P m ≤ j) (h2 : j < sp_c P n) : ∃ a, m ≤ a ∧ a < n ∧ P a ∧ sp_c P a = j := by
  induction n with
  | zero => exact absurd h2 (Nat.not_lt_zero _)
  | succ n ih =>
    by_cases h : P n
    · rw [sp_c_t h] at h2
      by_cases e : j < sp_c P n
      · obtain ⟨a, q1, q2, q3⟩ := ih e
        exact ⟨a, q1, by omega, q3⟩
      · refine ⟨n, ?_, by omega, h, by omega⟩
        by_cases z : m ≤ n
        · exact z
        · have := sp_c_mono P (m := n + 1) (n := m) (by omega)
          rw [sp_c_t h] at this
          omega
    · rw [sp_c_f h] at h2
      obtain ⟨a, q1, q2, q3⟩ := ih h2
      exact ⟨a, q1, by omega, q3⟩
theorem sp_c_0 {P : Nat → Prop} {n : Nat} (h : ∀ a, a < n → ¬ P a) : sp_c P n = 0 :=
  sp_c_skip (Nat.zero_le n) (fun k _ hk => h k hk)
/-! words -/
def sp_9 (b : Nat) (bu : Nat → Int32) : Prop := ∃ j, j < b ∧ bu j = 9
def sp_M (rl rn w : Nat → Int32) (r p o : Nat) : Prop := ∀ i, i < sp_n rn (r * 3 + p) → rl (r * 9 + p * 3 + i) = 9 ∨ rl (r * 9 + p * 3 + i) = w (o + i)
def sp_okS (rl rn : Nat → Int32) (r n : Nat) (w : Nat → Int32) : Prop := (sp_n rn (r * 3 + 0) ≤ n ∧ sp_M rl rn w r 0 (n - sp_n rn (r * 3 + 0))) ∧ (sp_n rn (r * 3 + 2) ≤ n ∧ sp_M rl rn w r 2 (n - sp_n rn (r * 3 + 2)))
def sp_okP (rl rn : Nat → Int32) (r n : Nat) (w : Nat → Int32) : Prop := (sp_n rn (r * 3 + 0) ≤ n ∧ sp_M rl rn w r 0 0) ∧ (sp_n rn (r * 3 + 2) ≤ n ∧ sp_M rl rn w r 2 0)
def sp_len (rn : Nat → Int32) (r n : Nat) : Nat := n - sp_n rn (r * 3 + 0) + sp_n rn (r * 3 + 1)
def sp_aS (rl rn : Nat → Int32) (r n : Nat) (w : Nat → Int32) : Nat → Int32 := fun i => if i < n - sp_n rn (r * 3 + 0) then w i else rl (r * 9 + 1 * 3 + (i - (n - sp_n rn (r * 3 + 0))))
def sp_aP (rl rn : Nat → Int32) (r : Nat) (w : Nat → Int32) : Nat → Int32 := fun i => if i < sp_n rn (r * 3 + 1) then rl (r * 9 + 1 * 3 + i) else w (i - sp_n rn (r * 3 + 1) + sp_n rn (r * 3 + 0))
/-- the word behind choice c of a suffix rule: its length, its letters, whether it may -/
def sp_nc (rn : Nat → Int32) (c n : Nat) : Nat := if c = 0 then n else sp_len rn (c - 1) n
def sp_wS (rl rn : Nat → Int32) (c n : Nat) (w : Nat → Int32) : Nat → Int32 := if c = 0 then w else sp_aS rl rn (c - 1) n w
def sp_wP (rl rn : Nat → Int32) (c : Nat) (w : Nat → Int32) : Nat → Int32 := if c = 0 then w else sp_aP rl rn (c - 1) w
def sp_oS (rl rn : Nat → Int32) (c n : Nat) (w : Nat → Int32) : Prop := c = 0 ∨ sp_okS rl rn (c - 1) n w
def sp_oP (rl rn : Nat → Int32) (c n : Nat) (w : Nat → Int32) : Prop := c = 0 ∨ sp_okP rl rn (c - 1) n w
def sp_al (cr : Nat) (rs rf sf : Nat → Int32) (s c : Nat) (t : Int32) : Prop := c = 0 ∨ (c ≤ cr ∧ rs (c - 1) = t ∧ ((sf s >>> (rf (c - 1) &&& 31)) &&& 1) = 1)
def sp_to (rx : Nat → Int32) (c d : Nat) : Prop := c = 0 ∨ d = 0 ∨ (¬ rx (c - 1) = 0 ∧ ¬ rx (d - 1) = 0)
def sp_fit (b : Nat) (bu : Nat → Int32) (n : Nat) (w : Nat → Int32) : Prop := n = b ∧ ∀ i, i < b → w i = bu i
/-- the words' part of the triple, from a word of n letters w on -/
def sp_go (b : Nat) (bu rl rn : Nat → Int32) (c d n : Nat) (w : Nat → Int32) : Prop := sp_oS rl rn c n w ∧ sp_oP rl rn d (sp_nc rn c n) (sp_wS rl rn c n w) ∧ sp_fit b bu (sp_nc rn d (sp_nc rn c n)) (sp_wP rl rn d (sp_wS rl rn c n w))
def sp_may (cr : Nat) (rs rf rx sf : Nat → Int32) (s c d : Nat) : Prop := sp_al cr rs rf sf s c 1 ∧ sp_al cr rs rf sf s d 0 ∧ sp_to rx c d
def sp_G (b cr : Nat) (bu rl rn rf rs rx sl sn sf : Nat → Int32) (s c d : Nat) : Prop := sp_may cr rs rf rx sf s c d ∧ sp_go b bu rl rn c d (sp_n sn s) (fun i => sl (s * 12 + i))
/-- of a code -/
def sp_P (b cr : Nat) (bu rl rn rf rs rx sl sn sf : Nat → Int32) (a : Nat) : Prop := sp_G b cr bu rl rn rf rs rx sl sn sf (a / 121) (a / 11 % 11) (a % 11)
theorem sp_M_w {rl rn w w' : Nat → Int32} {r p o n : Nat} (h : ∀ i, i < n → w i = w' i) (ho : o + sp_n rn (r * 3 + p) ≤ n) : sp_M rl rn w r p o ↔ sp_M rl rn w' r p o := by
  unfold sp_M
  constructor
  · intro H i hi
    rw [← h (o + i) (by omega)]
    exact H i hi
  · intro H i hi
    rw [h (o + i) (by omega)]
    exact H i hi
/-! no word ever holds a 9 -/
theorem sp_aS_9 {rl rn w : Nat → Int32} {r n : Nat} (hw : ∀ i, i < n → w i ≠ 9) (hr : ∀ i, i < sp_n rn (r * 3 + 1) → rl (r * 9 + 1 * 3 + i) ≠ 9) : ∀ i, i < sp_len rn r n → sp_aS rl rn r n w i ≠ 9 := by
  intro i hi
  unfold sp_len at hi
  unfold sp_aS
  by_cases h : i < n - sp_n rn (r * 3 + 0)
  · rw [if_pos h]; exact hw i (by omega)
  · rw [if_neg h]; exact hr _ (by omega)
theorem sp_aP_9 {rl rn w : Nat → Int32} {r n : Nat} (h0 : sp_n rn (r * 3 + 0) ≤ n) (hw : ∀ i, i < n → w i ≠ 9) (hr : ∀ i, i < sp_n rn (r * 3 + 1) → rl (r * 9 + 1 * 3 + i) ≠ 9) : ∀ i, i < sp_len rn r n → sp_aP rl rn r w i ≠ 9 := by
  intro i hi
  unfold sp_len at hi
  unfold sp_aP
  by_cases h : i < sp_n rn (r * 3 + 1)
  · rw [if_pos h]; exact hr i h
  · rw [if_neg h]; exact hw _ (by omega)
theorem sp_G_9 {b cr : Nat} {bu rl rn rf rs rx sl sn sf : Nat → Int32} {s c d : Nat} (hs : ∀ i, i < sp_n sn s → sl (s * 12 + i) ≠ 9) (hr : ∀ r, r < cr → ∀ i, i < sp_n rn (r * 3 + 1) → rl (r * 9 + 1 * 3 + i) ≠ 9) (h9 : sp_9 b bu) : ¬ sp_G b cr bu rl rn rf rs rx sl sn sf s c d := by
  rintro ⟨⟨hc, hd, _⟩, _, hoP, hn, hf⟩
  have w1 : ∀ i, i < sp_nc rn c (sp_n sn s) → sp_wS rl rn c (sp_n sn s) (fun i => sl (s * 12 + i)) i ≠ 9 := by
    unfold sp_nc sp_wS
    by_cases e : c = 0
    · rw [if_pos e, if_pos e]; exact hs
    · rw [if_neg e, if_neg e]
      rcases hc with hc | hc
      · exact absurd hc e
      · exact sp_aS_9 hs (hr (c - 1) (by omega))
  generalize sp_wS rl rn c (sp_n sn s) (fun i => sl (s * 12 + i)) = w at *
  generalize sp_nc rn c (sp_n sn s) = n at *
  obtain ⟨j, hj, ej⟩ := h9
  have h2 := hf j hj
  rw [ej] at h2
  revert h2
  unfold sp_wP
  by_cases e : d = 0
  · rw [if_pos e]
    have : n = b := by rw [← hn]; unfold sp_nc; rw [if_pos e]
    exact w1 j (by omega)
  · rw [if_neg e]
    rcases hd with hd | hd
    · exact absurd hd e
    · rcases hoP with z | z
      · exact absurd z e
      · refine sp_aP_9 z.1.1 w1 (hr (d - 1) (by omega)) j ?_
        have : sp_len rn (d - 1) n = b := by rw [← hn]; unfold sp_nc; rw [if_neg e]
        omega
end
section
/-! the component's own methods, each over a general post -/
theorem sp_nineXl {post : Int32 → Prop} {b cr cs : Nat} {fs fe : Int32} {bu kl kn rl rn rf rs rx sl sn sf fm : Nat → Int32} (hb : b ≤ 12) (h1 : sp_9 b bu → post 1) (h0 : ¬ sp_9 b bu → post 0) : ∀ m i : Nat, i ≤ b → b - i < m → (∀ j, j < i → bu j ≠ 9) → wX_bufferHasNine_2 post (nI b) (nI cr) (nI cs) fs fe bu kl kn rl rn rf rs rx sl sn sf fm m (nI i) := by
  intro m
  induction m with
  | zero => intro i _ h; omega
  | succ m ih =>
    intro i hi hm hp
    refine pk_le b i (fun h => ?_) (fun h => ?_)
    · refine h0 ?_
      rintro ⟨j, hj, e⟩
      exact hp j (by omega) e
    · refine ⟨vp_in_nI (by omega) (by omega), ?_⟩
      rw [nI_clamp (by omega)]
      refine br_c (fun e => h1 ⟨i, h, e⟩) (fun e => nm_r (nI_1 i) (ih (i + 1) (by omega) (by omega) (fun j hj => ?_)))
      by_cases z : j = i
      · rw [z]; exact e
      · exact hp j (by omega)
theorem sp_nineX {post : Int32 → Prop} {b cr cs : Nat} {fs fe : Int32} {bu kl kn rl rn rf rs rx sl sn sf fm : Nat → Int32} (hb : b ≤ 12) (h1 : sp_9 b bu → post 1) (h0 : ¬ sp_9 b bu → post 0) : wpX_bufferHasNine post ((nI b), (nI cr), (nI cs), fs, fe, bu, kl, kn, rl, rn, rf, rs, rx, sl, sn, sf, fm) :=
  ⟨b + 1, sp_nineXl hb h1 h0 (b + 1) 0 (by omega) (by omega) (fun j hj => absurd hj (Nat.not_lt_zero j))⟩
theorem sp_plainX {post : Int32 → Prop} {b cr cs : Nat} {fs fe : Int32} {bu kl kn rl rn rf rs rx sl sn sf fm : Nat → Int32} (hb : b ≤ 12) (h1 : (0 < b ∧ ¬ sp_9 b bu) → post 1) (h0 : ¬ (0 < b ∧ ¬ sp_9 b bu) → post 0) : wpX_bufferIsPlainWord post ((nI b), (nI cr), (nI cs), fs, fe, bu, kl, kn, rl, rn, rf, rs, rx, sl, sn, sf, fm) := by
  refine pk_le b 0 (fun h => h0 (by omega)) (fun h => ?_)
  refine sp_nineX hb (fun h9 => br_f (by decide) (h0 (fun z => z.2 h9))) (fun h9 => br_t rfl (h1 ⟨h, h9⟩))
theorem sp_fmXl {post : Int32 → Prop} {b cr cs : Nat} {fs fe : Int32} {bu kl kn rl rn rf rs rx sl sn sf fm : Nat → Int32} {r q f : Nat} (hr : r < 10) (hq : q < 3) (hB : sp_B rn 3) (hf : f + sp_n rn (r * 3 + q) ≤ 18)
    (h1 : (∀ j, j < sp_n rn (r * 3 + q) → rl (r * 9 + q * 3 + j) = 9 ∨ rl (r * 9 + q * 3 + j) = fm (f + j)) → post 1)
    (h0 : ¬ (∀ j, j < sp_n rn (r * 3 + q) → rl (r * 9 + q * 3 + j) = 9 ∨ rl (r * 9 + q * 3 + j) = fm (f + j)) → post 0) :
    ∀ m i : Nat, i ≤ sp_n rn (r * 3 + q) → sp_n rn (r * 3 + q) - i < m → (∀ j, j < i → rl (r * 9 + q * 3 + j) = 9 ∨ rl (r * 9 + q * 3 + j) = fm (f + j)) → wX_formMatches_27 post (nI (r * 3 + q)) (nI f) (nI b) (nI cr) (nI cs) fs fe bu kl kn rl rn rf rs rx sl sn sf fm m (nI i) := by
  have hL : sp_n rn (r * 3 + q) ≤ 3 := sp_Bl hB _
  have eL : rn (r * 3 + q) = nI (sp_n rn (r * 3 + q)) := sp_Be hB _
  intro m
  induction m with
  | zero => intro i _ h; omega
  | succ m ih =>
    intro i hi hm hp
    have ex : nI (r * 3 + q) * 3 + nI i = nI (r * 9 + q * 3 + i) := (sp_mi (r * 3 + q) 3 i rfl).trans (congrArg nI (by omega))
    have next : (rl (r * 9 + q * 3 + i) = 9 ∨ rl (r * 9 + q * 3 + i) = fm (f + i)) → i < sp_n rn (r * 3 + q) → wX_formMatches_27 post (nI (r * 3 + q)) (nI f) (nI b) (nI cr) (nI cs) fs fe bu kl kn rl rn rf rs rx sl sn sf fm m (nI (i + 1)) := by
      intro z hz
      refine ih (i + 1) (by omega) (by omega) (fun j hj => ?_)
      by_cases e : j = i
      · rw [e]; exact z
      · exact hp j (by omega)
    refine And.intro (vp_in_nI (by omega) (by omega)) ?_
    refine pk_le (sp_n rn (r * 3 + q)) i (fun h => h1 (fun j hj => hp j (by omega))) (fun h => ?_) (by rw [nI_clamp (by omega)]; exact eL)
    rw [ex, nI_clamp (by omega), nI_add, nI_clamp (by omega)]
    refine ⟨vp_in_nI (by omega) (by omega), nm_e (br_c (fun e => nm_r (nI_1 i) (next (Or.inl e) h)) (fun e => ⟨vp_in_nI (by omega) (by omega), br_c (fun e2 => nm_r (nI_1 i) (next (Or.inr e2) h)) (fun e2 => h0 (fun H => ?_))⟩))⟩
    rcases H i h with z | z
    · exact e z
    · exact e2 z
theorem sp_fmX {post : Int32 → Prop} {b cr cs : Nat} {bu kl kn rl rn rf rs rx sl sn sf fm : Nat → Int32} {w : Nat → Int32} {r q f p n : Nat} (hr : r < 10) (hq : q < 3) (hB : sp_B rn 3) (hf : f ≤ 18) (hpn : p + n ≤ 18) (hw : ∀ i, i < n → fm (p + i) = w i)
    (h1 : (p ≤ f ∧ f + sp_n rn (r * 3 + q) ≤ p + n ∧ sp_M rl rn w r q (f - p)) → post 1)
    (h0 : ¬ (p ≤ f ∧ f + sp_n rn (r * 3 + q) ≤ p + n ∧ sp_M rl rn w r q (f - p)) → post 0) :
    wpX_formMatches post ((nI b), (nI cr), (nI cs), (nI p), (nI (p + n)), bu, kl, kn, rl, rn, rf, rs, rx, sl, sn, sf, fm) (nI (r * 3 + q)) (nI f) := by
  have hL : sp_n rn (r * 3 + q) ≤ 3 := sp_Bl hB _
  have eL : rn (r * 3 + q) = nI (sp_n rn (r * 3 + q)) := sp_Be hB _
  refine pk_lt f p (fun h => h0 (by omega)) (fun h => And.intro (vp_in_nI (by omega) (by omega)) ?_)
  refine pk_le (f + sp_n rn (r * 3 + q)) (p + n) (fun h2 => ?_) (fun h2 => h0 (by omega)) (by rw [nI_clamp (by omega), eL, nI_add])
  have e : (∀ j, j < sp_n rn (r * 3 + q) → rl (r * 9 + q * 3 + j) = 9 ∨ rl (r * 9 + q * 3 + j) = fm (f + j)) ↔ sp_M rl rn w r q (f - p) := by
    unfold sp_M
    constructor
    · intro H j hj
      rw [← hw (f - p + j) (by omega), show p + (f - p + j) = f + j by omega]
      exact H j hj
    · intro H j hj
      have := H j hj
      rw [← hw (f - p + j) (by omega), show p + (f - p + j) = f + j by omega] at this
      exact this
  exact ⟨_, sp_fmXl hr hq hB (by omega) (fun H => h1 ⟨h, h2, e.mp H⟩) (fun H => h0 (fun z => H (e.mpr z.2.2))) (sp_n rn (r * 3 + q) + 1) 0 (by omega) (by omega) (fun j hj => absurd hj (Nat.not_lt_zero j))⟩
theorem sp_wrXl {post : SX → Prop} {b cr cs : Nat} {fs fe : Int32} {bu kl kn rl rn rf rs rx sl sn sf fm : Nat → Int32} {r q f : Nat} (hr : r < 10) (hq : q < 3) (hB : sp_B rn 3) (hf : f + sp_n rn (r * 3 + q) ≤ 18)
    (h : post ((nI b), (nI cr), (nI cs), fs, fe, bu, kl, kn, rl, rn, rf, rs, rx, sl, sn, sf, (sp_ov fm f (sp_n rn (r * 3 + q)) (fun k => rl (r * 9 + q * 3 + k))))) :
    ∀ m i : Nat, i ≤ sp_n rn (r * 3 + q) → sp_n rn (r * 3 + q) - i < m → wX_writePart_2 post (nI (r * 3 + q)) (nI f) (nI b) (nI cr) (nI cs) fs fe m (nI i) bu kl kn rl rn rf rs rx sl sn sf (sp_ov fm f i (fun k => rl (r * 9 + q * 3 + k))) := by
  have hL : sp_n rn (r * 3 + q) ≤ 3 := sp_Bl hB _
  have eL : rn (r * 3 + q) = nI (sp_n rn (r * 3 + q)) := sp_Be hB _
  intro m
  induction m with
  | zero => intro i _ h; omega
  | succ m ih =>
    intro i hi hm
    have ex : nI (r * 3 + q) * 3 + nI i = nI (r * 9 + q * 3 + i) := (sp_mi (r * 3 + q) 3 i rfl).trans (congrArg nI (by omega))
    refine And.intro (vp_in_nI (by omega) (by omega)) ?_
    refine pk_le (sp_n rn (r * 3 + q)) i (fun h2 => ?_) (fun h2 => ?_) (by rw [nI_clamp (by omega)]; exact eL)
    · rw [show i = sp_n rn (r * 3 + q) by omega]
      exact h
    · rw [ex, nI_clamp (by omega), nI_add, nI_clamp (by omega)]
      exact ⟨vp_in_nI (by omega) (by omega), vp_in_nI (by omega) (by omega), nm_r sp_ov_s (nm_r (nI_1 i) (ih (i + 1) (by omega) (by omega)))⟩
theorem sp_wrX {post : SX → Prop} {b cr cs : Nat} {fs fe : Int32} {bu kl kn rl rn rf rs rx sl sn sf fm : Nat → Int32} {r q f : Nat} (hr : r < 10) (hq : q < 3) (hB : sp_B rn 3) (hf : f + sp_n rn (r * 3 + q) ≤ 18)
    (h : post ((nI b), (nI cr), (nI cs), fs, fe, bu, kl, kn, rl, rn, rf, rs, rx, sl, sn, sf, (sp_ov fm f (sp_n rn (r * 3 + q)) (fun k => rl (r * 9 + q * 3 + k))))) :
    wpX_writePart post ((nI b), (nI cr), (nI cs), fs, fe, bu, kl, kn, rl, rn, rf, rs, rx, sl, sn, sf, fm) (nI (r * 3 + q)) (nI f) := by
  refine ⟨sp_n rn (r * 3 + q) + 1, ?_⟩
  have := sp_wrXl hr hq hB hf h (sp_n rn (r * 3 + q) + 1) 0 (by omega) (by omega)
  rw [sp_ov_0] at this
  exact this
theorem sp_sfXl {post : SX → Prop} {b cr cs : Nat} {fs fe : Int32} {bu kl kn rl rn rf rs rx sl sn sf fm : Nat → Int32} {s : Nat} (hs : s < 12) (hB : sp_B sn 12)
    (h : post ((nI b), (nI cr), (nI cs), fs, fe, bu, kl, kn, rl, rn, rf, rs, rx, sl, sn, sf, (sp_ov fm 3 (sp_n sn s) (fun k => sl (s * 12 + k))))) :
    ∀ m i : Nat, i ≤ sp_n sn s → sp_n sn s - i < m → wX_startForm_19 post (nI s) (nI b) (nI cr) (nI cs) fs fe m (nI i) bu kl kn rl rn rf rs rx sl sn sf (sp_ov fm 3 i (fun k => sl (s * 12 + k))) := by
  have hL : sp_n sn s ≤ 12 := sp_Bl hB _
  have eL : sn s = nI (sp_n sn s) := sp_Be hB _
  intro m
  induction m with
  | zero => intro i _ h; omega
  | succ m ih =>
    intro i hi hm
    have ex : nI s * 12 + nI i = nI (s * 12 + i) := sp_mi s 12 i rfl
    have e3 : (3 : Int32) + nI i = nI (3 + i) := nI_add 3 i
    refine And.intro (vp_in_nI (by omega) (by omega)) ?_
    refine pk_le (sp_n sn s) i (fun h2 => ?_) (fun h2 => ?_) (by rw [nI_clamp (by omega)]; exact eL)
    · rw [show i = sp_n sn s by omega]
      exact h
    · rw [ex, nI_clamp (by omega), e3, nI_clamp (by omega)]
      exact ⟨vp_in_nI (by omega) (by omega), vp_in_nI (by omega) (by omega), nm_r sp_ov_s (nm_r (nI_1 i) (ih (i + 1) (by omega) (by omega)))⟩
theorem sp_sfX {post : SX → Prop} {b cr cs : Nat} {fs fe : Int32} {bu kl kn rl rn rf rs rx sl sn sf fm : Nat → Int32} {s : Nat} (hs : s < 12) (hB : sp_B sn 12)
    (h : post ((nI b), (nI cr), (nI cs), (nI 3), (nI (3 + sp_n sn s)), bu, kl, kn, rl, rn, rf, rs, rx, sl, sn, sf, (sp_ov fm 3 (sp_n sn s) (fun k => sl (s * 12 + k))))) :
    wpX_startForm post ((nI b), (nI cr), (nI cs), fs, fe, bu, kl, kn, rl, rn, rf, rs, rx, sl, sn, sf, fm) (nI s) := by
  have eL : sn s = nI (sp_n sn s) := sp_Be hB _
  refine And.intro (vp_in_nI (by omega) (by omega)) (nm_r (e' := nI (3 + sp_n sn s)) ?_ ⟨sp_n sn s + 1, ?_⟩)
  · rw [nI_clamp (by omega), eL]; exact nI_add 3 _
  · have := sp_sfXl hs hB h (sp_n sn s + 1) 0 (by omega) (by omega)
    rw [sp_ov_0] at this
    exact this
end
section
theorem sp_asX {post : Int32 → SX → Prop} {b cr cs : Nat} {bu kl kn rl rn rf rs rx sl sn sf fm : Nat → Int32} {w : Nat → Int32} {r n : Nat} (hr : r < 10) (hB : sp_B rn 3) (hn : n ≤ 12) (hw : ∀ i, i < n → fm (3 + i) = w i)
    (h1 : sp_okS rl rn r n w → ∀ fm' : Nat → Int32, (∀ i, i < sp_len rn r n → fm' (3 + i) = sp_aS rl rn r n w i) → post 1 ((nI b), (nI cr), (nI cs), (nI 3), (nI (3 + sp_len rn r n)), bu, kl, kn, rl, rn, rf, rs, rx, sl, sn, sf, fm'))
    (h0 : ¬ sp_okS rl rn r n w → post 0 ((nI b), (nI cr), (nI cs), (nI 3), (nI (3 + n)), bu, kl, kn, rl, rn, rf, rs, rx, sl, sn, sf, fm)) :
    wpX_applySuffix post ((nI b), (nI cr), (nI cs), (nI 3), (nI (3 + n)), bu, kl, kn, rl, rn, rf, rs, rx, sl, sn, sf, fm) (nI r) := by
  have l0 : sp_n rn (r * 3 + 0) ≤ 3 := sp_Bl hB _
  have l1 : sp_n rn (r * 3 + 1) ≤ 3 := sp_Bl hB _
  have l2 : sp_n rn (r * 3 + 2) ≤ 3 := sp_Bl hB _
  refine nm_r (e' := nI (r * 3 + 0)) (sp_mi r 3 0 rfl) (nm_r (e' := nI (r * 3 + 1)) (sp_mi r 3 1 rfl) (nm_r (e' := nI (r * 3 + 2)) (sp_mi r 3 2 rfl) ?_))
  refine And.intro (vp_in_nI (by omega) (by omega)) (nm_r (e' := nI (3 + n - sp_n rn (r * 3 + 0))) ?_ (And.intro (vp_in_nI (by omega) (by omega)) (nm_r (e' := nI (3 + n - sp_n rn (r * 3 + 2))) ?_ ?_)))
  · rw [nI_clamp (by omega), sp_Be hB (r * 3 + 0)]; exact pk_sub (by omega)
  · rw [nI_clamp (by omega), sp_Be hB (r * 3 + 2)]; exact pk_sub (by omega)
  refine sp_fmX (w := w) hr (by omega) hB (by omega) (by omega) hw (fun m0 => br_f (by decide) ?_) (fun m0 => br_t rfl (h0 (fun z => m0 ⟨?_, ?_, ?_⟩)))
  · refine sp_fmX (w := w) hr (by omega) hB (by omega) (by omega) hw (fun m2 => br_f (by decide) ?_) (fun m2 => br_t rfl (h0 (fun z => m2 ⟨?_, ?_, ?_⟩)))
    · have q0 := m0.1
      have q2 := m2.1
      have ok : sp_okS rl rn r n w := by
        refine ⟨⟨by omega, ?_⟩, ⟨by omega, ?_⟩⟩
        · have := m0.2.2
          rw [show 3 + n - sp_n rn (r * 3 + 0) - 3 = n - sp_n rn (r * 3 + 0) by omega] at this
          exact this
        · have := m2.2.2
          rw [show 3 + n - sp_n rn (r * 3 + 2) - 3 = n - sp_n rn (r * 3 + 2) by omega] at this
          exact this
      refine sp_wrX hr (by omega) hB (by omega) (And.intro (vp_in_nI (by omega) (by omega)) (nm_r (e' := nI (3 + sp_len rn r n)) ?_ (h1 ok _ ?_)))
      · rw [nI_clamp (by omega), sp_Be hB (r * 3 + 1), nI_add]
        exact congrArg nI (by unfold sp_len; omega)
      · intro i hi
        unfold sp_len at hi
        unfold sp_aS
        by_cases e : i < n - sp_n rn (r * 3 + 0)
        · rw [if_pos e, sp_ov_out (by omega)]
          exact hw i (by omega)
        · rw [if_neg e, show 3 + i = 3 + n - sp_n rn (r * 3 + 0) + (i - (n - sp_n rn (r * 3 + 0))) by omega]
          exact sp_ov_in (by omega)
    · have := z.2.1; omega
    · have := z.2.1; omega
    · have := z.2.2
      rw [show 3 + n - sp_n rn (r * 3 + 2) - 3 = n - sp_n rn (r * 3 + 2) by have := z.2.1; omega]
      exact this
  · have := z.1.1; omega
  · have := z.1.1; omega
  · have := z.1.2
    rw [show 3 + n - sp_n rn (r * 3 + 0) - 3 = n - sp_n rn (r * 3 + 0) by have := z.1.1; omega]
    exact this
theorem sp_apX {post : Int32 → SX → Prop} {b cr cs : Nat} {bu kl kn rl rn rf rs rx sl sn sf fm : Nat → Int32} {w : Nat → Int32} {r n : Nat} (hr : r < 10) (hB : sp_B rn 3) (hn : n ≤ 15) (hw : ∀ i, i < n → fm (3 + i) = w i)
    (h1 : sp_okP rl rn r n w → ∀ (p' : Nat) (fm' : Nat → Int32), p' + sp_len rn r n ≤ 18 → (∀ i, i < sp_len rn r n → fm' (p' + i) = sp_aP rl rn r w i) → post 1 ((nI b), (nI cr), (nI cs), (nI p'), (nI (p' + sp_len rn r n)), bu, kl, kn, rl, rn, rf, rs, rx, sl, sn, sf, fm'))
    (h0 : ¬ sp_okP rl rn r n w → post 0 ((nI b), (nI cr), (nI cs), (nI 3), (nI (3 + n)), bu, kl, kn, rl, rn, rf, rs, rx, sl, sn, sf, fm)) :
    wpX_applyPrefix post ((nI b), (nI cr), (nI cs), (nI 3), (nI (3 + n)), bu, kl, kn, rl, rn, rf, rs, rx, sl, sn, sf, fm) (nI r) := by
  have l0 : sp_n rn (r * 3 + 0) ≤ 3 := sp_Bl hB _
  have l1 : sp_n rn (r * 3 + 1) ≤ 3 := sp_Bl hB _
  have l2 : sp_n rn (r * 3 + 2) ≤ 3 := sp_Bl hB _
  refine nm_r (e' := nI (r * 3 + 0)) (sp_mi r 3 0 rfl) (nm_r (e' := nI (r * 3 + 1)) (sp_mi r 3 1 rfl) (nm_r (e' := nI (r * 3 + 2)) (sp_mi r 3 2 rfl) ?_))
  refine sp_fmX (w := w) hr (by omega) hB (by omega) (by omega) hw (fun m0 => br_f (by decide) ?_) (fun m0 => br_t rfl (h0 (fun z => m0 ⟨by omega, ?_, z.1.2⟩)))
  · refine sp_fmX (w := w) hr (by omega) hB (by omega) (by omega) hw (fun m2 => br_f (by decide) ?_) (fun m2 => br_t rfl (h0 (fun z => m2 ⟨by omega, ?_, z.2.2⟩)))
    · have q0 := m0.2.1
      have q2 := m2.2.1
      have ok : sp_okP rl rn r n w := ⟨⟨by omega, m0.2.2⟩, ⟨by omega, m2.2.2⟩⟩
      have el : 3 + n = 3 + sp_n rn (r * 3 + 0) - sp_n rn (r * 3 + 1) + sp_len rn r n := by unfold sp_len; omega
      refine And.intro (vp_in_nI (by omega) (by omega)) (And.intro (vp_in_nI (by omega) (by omega)) (nm_r (e' := nI (3 + sp_n rn (r * 3 + 0) - sp_n rn (r * 3 + 1))) ?_ ?_))
      · rw [nI_clamp (by omega), nI_clamp (by omega), sp_Be hB (r * 3 + 0), sp_Be hB (r * 3 + 1), nI_add]; exact pk_sub (by omega)
      refine sp_wrX hr (by omega) hB (by omega) ?_
      have H := h1 ok (3 + sp_n rn (r * 3 + 0) - sp_n rn (r * 3 + 1)) (sp_ov fm (3 + sp_n rn (r * 3 + 0) - sp_n rn (r * 3 + 1)) (sp_n rn (r * 3 + 1)) (fun k => rl (r * 9 + 1 * 3 + k))) (by omega) ?_
      · rw [← el] at H
        exact H
      · intro i hi
        unfold sp_len at hi
        unfold sp_aP
        by_cases e : i < sp_n rn (r * 3 + 1)
        · rw [if_pos e]
          exact sp_ov_in e
        · rw [if_neg e, sp_ov_out (by omega), show 3 + sp_n rn (r * 3 + 0) - sp_n rn (r * 3 + 1) + i = 3 + (i - sp_n rn (r * 3 + 1) + sp_n rn (r * 3 + 0)) by omega]
          exact hw _ (by omega)
    · have := z.2.1; omega
  · have := z.1.1; omega
theorem sp_fbXl {post : Int32 → Prop} {b cr cs : Nat} {bu kl kn rl rn rf rs rx sl sn sf fm : Nat → Int32} {fe : Int32} {p l : Nat} (hp : p + l ≤ 18) (hl : l ≤ 12)
    (h1 : (∀ i, i < l → fm (p + i) = bu i) → post 1) (h0 : ¬ (∀ i, i < l → fm (p + i) = bu i) → post 0) :
    ∀ m i : Nat, i ≤ l → l - i < m → (∀ j, j < i → fm (p + j) = bu j) → wX_formIsInBuffer_17 post (nI l) (nI b) (nI cr) (nI cs) (nI p) fe bu kl kn rl rn rf rs rx sl sn sf fm m (nI i) := by
  intro m
  induction m with
  | zero => intro i _ h; omega
  | succ m ih =>
    intro i hi hm hq
    refine pk_le l i (fun h => h1 (fun j hj => hq j (by omega))) (fun h => ?_)
    rw [nI_add, nI_clamp (by omega), nI_clamp (by omega)]
    refine ⟨vp_in_nI (by omega) (by omega), vp_in_nI (by omega) (by omega), br_c (fun e => nm_r (nI_1 i) (ih (i + 1) (by omega) (by omega) (fun j hj => ?_))) (fun e => h0 (fun H => e (H i h)))⟩
    by_cases z : j = i
    · rw [z]; exact e
    · exact hq j (by omega)
theorem sp_fbX {post : Int32 → Prop} {b cr cs : Nat} {bu kl kn rl rn rf rs rx sl sn sf fm : Nat → Int32} {w : Nat → Int32} {p n l : Nat} (hp : p + n ≤ 18) (hl : l ≤ 12) (hw : ∀ i, i < n → fm (p + i) = w i)
    (h1 : sp_fit l bu n w → post 1) (h0 : ¬ sp_fit l bu n w → post 0) :
    wpX_formIsInBuffer post ((nI b), (nI cr), (nI cs), (nI p), (nI (p + n)), bu, kl, kn, rl, rn, rf, rs, rx, sl, sn, sf, fm) (nI l) := by
  refine pk_eq n l (fun e => ?_) (fun e => h0 (fun z => e z.1)) (by rw [pk_sub (by omega)]; exact congrArg nI (by omega))
  subst e
  have e : (∀ i, i < n → fm (p + i) = bu i) ↔ sp_fit n bu n w := by
    constructor
    · intro H
      exact ⟨rfl, fun i hi => by rw [← hw i hi]; exact H i hi⟩
    · intro H i hi
      rw [hw i hi]; exact H.2 i hi
  exact ⟨_, sp_fbXl hp hl (fun H => h1 (e.mp H)) (fun H => h0 (fun z => H (e.mpr z))) (n + 1) 0 (by omega) (by omega) (fun j hj => absurd hj (Nat.not_lt_zero j))⟩
theorem sp_alX {post : Int32 → Prop} {b cr cs : Nat} {fs fe : Int32} {bu kl kn rl rn rf rs rx sl sn sf fm : Nat → Int32} {s c : Nat} {t : Int32} (hs : s < 12) (hcr : cr ≤ 10) (hc : c ≤ 10)
    (h1 : sp_al cr rs rf sf s c t → post 1) (h0 : ¬ sp_al cr rs rf sf s c t → post 0) :
    wpX_isAllowed post ((nI b), (nI cr), (nI cs), fs, fe, bu, kl, kn, rl, rn, rf, rs, rx, sl, sn, sf, fm) (nI s) (sp_v c) t := by
  refine sp_v_neg c (by omega) (fun e => h1 (Or.inl e)) (fun r e => ?_)
  subst e
  rw [sp_vs, nI_clamp (by omega), nI_clamp (by omega)]
  refine pk_le cr r (fun h => h0 ?_) (fun h => ⟨vp_in_nI (by omega) (by omega), br_c (fun e => ⟨vp_in_nI (by omega) (by omega), vp_in_nI (by omega) (by omega), br_c (fun e2 => h1 ?_) (fun e2 => h0 ?_)⟩) (fun e => h0 ?_)⟩)
  · rintro (z | z)
    · omega
    · omega
  · exact Or.inr ⟨by omega, e, e2⟩
  · rintro (z | z)
    · omega
    · exact e2 z.2.2
  · rintro (z | z)
    · omega
    · exact e z.2.1
theorem sp_toX {post : Int32 → Prop} {b cr cs : Nat} {fs fe : Int32} {bu kl kn rl rn rf rs rx sl sn sf fm : Nat → Int32} {c d : Nat} (hc : c ≤ 10) (hd : d ≤ 10)
    (h1 : sp_to rx c d → post 1) (h0 : ¬ sp_to rx c d → post 0) :
    wpX_goTogether post ((nI b), (nI cr), (nI cs), fs, fe, bu, kl, kn, rl, rn, rf, rs, rx, sl, sn, sf, fm) (sp_v c) (sp_v d) := by
  refine sp_v_neg c (by omega) (fun e => h1 (Or.inl e)) (fun r e => ?_)
  refine sp_v_neg d (by omega) (fun e => h1 (Or.inr (Or.inl e))) (fun q e' => ?_)
  subst e
  subst e'
  rw [sp_vs, sp_vs, nI_clamp (by omega), nI_clamp (by omega)]
  refine ⟨vp_in_nI (by omega) (by omega), br_c (fun e => h0 ?_) (fun e => ⟨vp_in_nI (by omega) (by omega), br_c (fun e2 => h0 ?_) (fun e2 => h1 (Or.inr (Or.inr ⟨e, e2⟩)))⟩)⟩
  · rintro (z | z | z)
    · omega
    · omega
    · exact z.1 e
  · rintro (z | z | z)
    · omega
    · omega
    · exact z.2 e2
theorem sp_rcX {post : Int32 → Prop} {c : Nat} (hc : c < 2 ^ 31) (h : post (sp_v c)) : wpX_ruleOfChoice post (nI c) := by
  cases c with
  | zero => exact br_t rfl h
  | succ c =>
    rw [sp_vs] at h
    refine br_f (nI_ne0 (by omega) hc) ?_
    rw [nI_pred]
    exact h
theorem sp_scX {post : Int32 → Prop} {a : Nat} (ha : a < 2 ^ 31) (h : post (nI (a / 121))) : wpX_stemInCode post (nI a) := by
  refine And.intro (by decide) ?_
  rw [show nI a / 121 = nI (a / 121) from pk_div (d := 121) ha (by omega) (by omega)]
  exact h
theorem sp_fcX {post : Int32 → Prop} {a : Nat} (ha : a < 2 ^ 31) (h : post (sp_v (a / 11 % 11))) : wpX_suffixInCode post (nI a) := by
  refine And.intro (by decide) (And.intro (by decide) ?_)
  rw [show nI a / 11 = nI (a / 11) from pk_div (d := 11) ha (by omega) (by omega), show nI (a / 11) - nI (a / 11) / 11 * 11 = nI (a / 11 % 11) from pk_rem (d := 11) (by omega) (by omega) (by omega)]
  exact sp_rcX (by omega) h
theorem sp_pcX {post : Int32 → Prop} {a : Nat} (ha : a < 2 ^ 31) (h : post (sp_v (a % 11))) : wpX_prefixInCode post (nI a) := by
  refine And.intro (by decide) ?_
  rw [show nI a - nI a / 11 * 11 = nI (a % 11) from pk_rem (d := 11) ha (by omega) (by omega)]
  exact sp_rcX (by omega) h
end
section
theorem sp_nb1 : narrow .boolean (.int (1 : Int32)) = .int 1 := lw_bz_n 1
theorem sp_nb0 : narrow .boolean (.int (0 : Int32)) = .int 0 := lw_bz_n 0
theorem sp_d9X {post : Int32 → SX → Prop} {b cr cs : Nat} {bu kl kn rl rn rf rs rx sl sn sf fm : Nat → Int32} {w : Nat → Int32} {p n l : Nat} (hp : p + n ≤ 18) (hl : l ≤ 12) (hw : ∀ i, i < n → fm (p + i) = w i)
    (h1 : sp_fit l bu n w → post 1 ((nI b), (nI cr), (nI cs), (nI p), (nI (p + n)), bu, kl, kn, rl, rn, rf, rs, rx, sl, sn, sf, fm)) (h0 : ¬ sp_fit l bu n w → post 0 ((nI b), (nI cr), (nI cs), (nI p), (nI (p + n)), bu, kl, kn, rl, rn, rf, rs, rx, sl, sn, sf, fm)) :
    wX_derives_95 post (nI l) (nI b) (nI cr) (nI cs) (nI p) (nI (p + n)) bu kl kn rl rn rf rs rx sl sn sf fm := by
  unfold wX_derives_95
  exact sp_fbX (w := w) hp hl hw (fun z => ⟨sp_nb1, h1 z⟩) (fun z => ⟨sp_nb0, h0 z⟩)
theorem sp_d7X {post : Int32 → SX → Prop} {b cr cs : Nat} {bu kl kn rl rn rf rs rx sl sn sf fm : Nat → Int32} {w : Nat → Int32} {d n l : Nat} (hB : sp_B rn 3) (hd : d ≤ 10) (hn : n ≤ 15) (hl : l ≤ 12) (hw : ∀ i, i < n → fm (3 + i) = w i)
    (h1 : (sp_oP rl rn d n w ∧ sp_fit l bu (sp_nc rn d n) (sp_wP rl rn d w)) → ∀ (fs fe : Int32) (fm : Nat → Int32), post 1 ((nI b), (nI cr), (nI cs), fs, fe, bu, kl, kn, rl, rn, rf, rs, rx, sl, sn, sf, fm))
    (h0 : ¬ (sp_oP rl rn d n w ∧ sp_fit l bu (sp_nc rn d n) (sp_wP rl rn d w)) → ∀ (fs fe : Int32) (fm : Nat → Int32), post 0 ((nI b), (nI cr), (nI cs), fs, fe, bu, kl, kn, rl, rn, rf, rs, rx, sl, sn, sf, fm)) :
    wX_derives_77 post (nI l) (sp_v d) (nI b) (nI cr) (nI cs) (nI 3) (nI (3 + n)) bu kl kn rl rn rf rs rx sl sn sf fm := by
  unfold wX_derives_77
  refine sp_v_neg d (by omega) (fun e => ?_) (fun r e => ?_)
  · subst e
    exact sp_d9X (w := w) (by omega) hl hw (fun z => h1 ⟨Or.inl rfl, z⟩ _ _ _) (fun z => h0 (fun y => z y.2) _ _ _)
  · subst e
    rw [sp_vs]
    refine sp_apX (w := w) (by omega) hB hn hw (fun ok p' fm' hp' hw' => ?_) (fun ok => ?_)
    · refine br_f (by decide) ?_
      exact sp_d9X (w := sp_aP rl rn r w) hp' hl hw' (fun z => h1 ⟨Or.inr ok, z⟩ _ _ _) (fun z => h0 (fun y => z y.2) _ _ _)
    · refine br_t rfl (h0 ?_ _ _ _)
      rintro ⟨z | z, _⟩
      · omega
      · exact ok z
theorem sp_dvX {post : Int32 → SX → Prop} {b cr cs : Nat} {fs fe : Int32} {bu kl kn rl rn rf rs rx sl sn sf fm : Nat → Int32} {a l : Nat} (hcr : cr ≤ 10) (hcs : cs ≤ 12) (hB : sp_B rn 3) (hS : sp_B sn 12) (hl : l ≤ 12) (ha : a < cs * 121)
    (h1 : sp_P l cr bu rl rn rf rs rx sl sn sf a → ∀ (fs fe : Int32) (fm : Nat → Int32), post 1 ((nI b), (nI cr), (nI cs), fs, fe, bu, kl, kn, rl, rn, rf, rs, rx, sl, sn, sf, fm))
    (h0 : ¬ sp_P l cr bu rl rn rf rs rx sl sn sf a → ∀ (fs fe : Int32) (fm : Nat → Int32), post 0 ((nI b), (nI cr), (nI cs), fs, fe, bu, kl, kn, rl, rn, rf, rs, rx, sl, sn, sf, fm)) :
    wpX_derives post ((nI b), (nI cr), (nI cs), fs, fe, bu, kl, kn, rl, rn, rf, rs, rx, sl, sn, sf, fm) (nI a) (nI l) := by
  have hs : a / 121 < 12 := by omega
  have hc : a / 11 % 11 ≤ 10 := by omega
  have hd : a % 11 ≤ 10 := by omega
  unfold sp_P at h1 h0
  generalize eS : a / 121 = s at *
  generalize eC : a / 11 % 11 = c at *
  generalize eD : a % 11 = d at *
  have hN : sp_n sn s ≤ 12 := sp_Bl hS _
  unfold wpX_derives
  dsimp only
  refine sp_scX (by omega) ?_
  refine sp_fcX (by omega) ?_
  refine sp_pcX (by omega) ?_
  rw [eS, eC, eD]
  refine sp_alX hs hcr hc (fun a1 => br_f (by decide) ?_) (fun a1 => br_t rfl (h0 (fun z => a1 z.1.1) _ _ _))
  refine sp_alX hs hcr hd (fun a2 => br_f (by decide) ?_) (fun a2 => br_t rfl (h0 (fun z => a2 z.1.2.1) _ _ _))
  refine sp_toX hc hd (fun a3 => br_f (by decide) ?_) (fun a3 => br_t rfl (h0 (fun z => a3 z.1.2.2) _ _ _))
  have hw0 : ∀ i, i < sp_n sn s → sp_ov fm 3 (sp_n sn s) (fun k => sl (s * 12 + k)) (3 + i) = (fun i => sl (s * 12 + i)) i := fun i hi => sp_ov_in (g := fun k => sl (s * 12 + k)) hi
  refine sp_sfX hs hS ?_
  refine sp_v_neg c (by omega) (fun e => ?_) (fun r e => ?_)
  · subst e
    exact sp_d7X (w := fun i => sl (s * 12 + i)) hB hd (by omega) hl hw0 (fun z => h1 ⟨⟨a1, a2, a3⟩, Or.inl rfl, z⟩) (fun z => h0 (fun y => z y.2.2))
  · subst e
    have h15 : sp_len rn r (sp_n sn s) ≤ 15 := by
      have l1 : sp_n rn (r * 3 + 1) ≤ 3 := sp_Bl hB _
      unfold sp_len; omega
    rw [sp_vs]
    refine sp_asX (w := fun i => sl (s * 12 + i)) (by omega) hB hN hw0 (fun ok fm' hw' => ?_) (fun ok => ?_)
    · refine br_f (by decide) ?_
      exact sp_d7X (w := sp_aS rl rn r (sp_n sn s) (fun i => sl (s * 12 + i))) hB hd h15 hl hw' (fun z => h1 ⟨⟨a1, a2, a3⟩, Or.inr ok, z⟩) (fun z => h0 (fun y => z y.2.2))
    · refine br_t rfl (h0 ?_ _ _ _)
      rintro ⟨_, z | z, _⟩
      · omega
      · exact ok z
theorem sp_dnXl {post : Int32 → SX → Prop} {b cr cs : Nat} {bu kl kn rl rn rf rs rx sl sn sf : Nat → Int32} {Q : Nat → Prop} (hb : b ≤ 12) (hcr : cr ≤ 10) (hcs : cs ≤ 12) (hB : sp_B rn 3) (hS : sp_B sn 12)
    (hQ : ∀ a, Q a ↔ sp_P b cr bu rl rn rf rs rx sl sn sf a) (h : ∀ (fs fe : Int32) (fm : Nat → Int32), post (nI (sp_c Q (cs * 121))) ((nI b), (nI cr), (nI cs), fs, fe, bu, kl, kn, rl, rn, rf, rs, rx, sl, sn, sf, fm)) :
    ∀ m a : Nat, a ≤ cs * 121 → cs * 121 - a < m → ∀ (fs fe : Int32) (fm : Nat → Int32), wX_derivations_21 post (nI (cs * 121)) m (nI (sp_c Q a)) (nI a) (nI b) (nI cr) (nI cs) fs fe bu kl kn rl rn rf rs rx sl sn sf fm := by
  intro m
  induction m with
  | zero => intro a _ h; omega
  | succ m ih =>
    intro a ha hm fs fe fm
    refine pk_le (cs * 121) a (fun h2 => ?_) (fun h2 => ?_)
    · rw [show a = cs * 121 by omega]
      exact h _ _ _
    · refine sp_dvX hcr hcs hB hS hb h2 (fun z fs fe fm => ?_) (fun z fs fe fm => ?_)
      · refine br_f (by decide) (nm_r (e' := nI (sp_c Q (a + 1))) ?_ (nm_r (nI_1 a) (ih (a + 1) (by omega) (by omega) _ _ _)))
        rw [sp_c_t ((hQ a).mpr z), nI_1]
      · refine br_t rfl (nm_r (nI_1 a) ?_)
        rw [← sp_c_f (fun y => z ((hQ a).mp y))]
        exact ih (a + 1) (by omega) (by omega) _ _ _
theorem sp_codes (cs : Nat) : nI cs * 121 = nI (cs * 121) := pk_mul cs 121
theorem sp_dnX {post : Int32 → SX → Prop} {b cr cs : Nat} {fs fe : Int32} {bu kl kn rl rn rf rs rx sl sn sf fm : Nat → Int32} {Q : Nat → Prop} (hb : b ≤ 12) (hcr : cr ≤ 10) (hcs : cs ≤ 12) (hB : sp_B rn 3) (hS : sp_B sn 12)
    (hQ : 0 < b → ∀ a, Q a ↔ sp_P b cr bu rl rn rf rs rx sl sn sf a) (hQ0 : ¬ (0 < b ∧ ¬ sp_9 b bu) → ∀ a, a < cs * 121 → ¬ Q a) (h : ∀ (fs fe : Int32) (fm : Nat → Int32), post (nI (sp_c Q (cs * 121))) ((nI b), (nI cr), (nI cs), fs, fe, bu, kl, kn, rl, rn, rf, rs, rx, sl, sn, sf, fm)) :
    wpX_derivations post ((nI b), (nI cr), (nI cs), fs, fe, bu, kl, kn, rl, rn, rf, rs, rx, sl, sn, sf, fm) := by
  unfold wpX_derivations
  dsimp only
  refine sp_plainX hb (fun z => br_f (by decide) (nm_r (sp_codes cs) ⟨cs * 121 + 1, ?_⟩)) (fun z => br_t rfl ?_)
  · exact sp_dnXl hb hcr hcs hB hS (hQ z.1) h (cs * 121 + 1) 0 (by omega) (by omega) _ _ _
  · have := h fs fe fm
    rw [sp_c_0 (hQ0 z)] at this
    exact this
theorem sp_coXl {post : Int32 → SX → Prop} {b cr cs : Nat} {bu kl kn rl rn rf rs rx sl sn sf : Nat → Int32} {Q : Nat → Prop} {v : Int32} (hb : b ≤ 12) (hcr : cr ≤ 10) (hcs : cs ≤ 12) (hB : sp_B rn 3) (hS : sp_B sn 12)
    (hQ : ∀ a, Q a ↔ sp_P b cr bu rl rn rf rs rx sl sn sf a) (h1 : ∀ a, a < cs * 121 → Q a → nI (sp_c Q a) = v → ∀ (fs fe : Int32) (fm : Nat → Int32), post (nI a) ((nI b), (nI cr), (nI cs), fs, fe, bu, kl, kn, rl, rn, rf, rs, rx, sl, sn, sf, fm))
    (h0 : (∀ a, a < cs * 121 → Q a → ¬ nI (sp_c Q a) = v) → ∀ (fs fe : Int32) (fm : Nat → Int32), post (-6) ((nI b), (nI cr), (nI cs), fs, fe, bu, kl, kn, rl, rn, rf, rs, rx, sl, sn, sf, fm)) :
    ∀ m a : Nat, a ≤ cs * 121 → cs * 121 - a < m → (∀ a', a' < a → Q a' → ¬ nI (sp_c Q a') = v) → ∀ (fs fe : Int32) (fm : Nat → Int32), wX_codeOfDerivation_23 post v (nI (cs * 121)) m (nI (sp_c Q a)) (nI a) (nI b) (nI cr) (nI cs) fs fe bu kl kn rl rn rf rs rx sl sn sf fm := by
  intro m
  induction m with
  | zero => intro a _ h; omega
  | succ m ih =>
    intro a ha hm hp fs fe fm
    refine pk_le (cs * 121) a (fun h2 => ?_) (fun h2 => ?_)
    · exact h0 (fun a' ha' => hp a' (by omega)) _ _ _
    · refine sp_dvX hcr hcs hB hS hb h2 (fun z fs fe fm => ?_) (fun z fs fe fm => ?_)
      · refine br_f (by decide) (br_c (fun e => h1 a h2 ((hQ a).mpr z) e _ _ _) (fun e => nm_r (e' := nI (sp_c Q (a + 1))) ?_ (nm_r (nI_1 a) (ih (a + 1) (by omega) (by omega) ?_ _ _ _))))
        · rw [sp_c_t ((hQ a).mpr z), nI_1]
        · intro a' ha' hq
          by_cases y : a' = a
          · rw [y]; exact e
          · exact hp a' (by omega) hq
      · refine br_t rfl (nm_r (nI_1 a) ?_)
        rw [← sp_c_f (fun y => z ((hQ a).mp y))]
        refine ih (a + 1) (by omega) (by omega) ?_ _ _ _
        intro a' ha' hq
        by_cases y : a' = a
        · rw [y] at hq; exact absurd ((hQ a).mp hq) z
        · exact hp a' (by omega) hq
theorem sp_coX {post : Int32 → SX → Prop} {b cr cs : Nat} {fs fe : Int32} {bu kl kn rl rn rf rs rx sl sn sf fm : Nat → Int32} {Q : Nat → Prop} {v : Int32} (hb : b ≤ 12) (hcr : cr ≤ 10) (hcs : cs ≤ 12) (hB : sp_B rn 3) (hS : sp_B sn 12)
    (hQ : 0 < b → ∀ a, Q a ↔ sp_P b cr bu rl rn rf rs rx sl sn sf a) (hQ0 : ¬ (0 < b ∧ ¬ sp_9 b bu) → ∀ a, a < cs * 121 → ¬ Q a)
    (h1 : ∀ a, a < cs * 121 → Q a → nI (sp_c Q a) = v → ∀ (fs fe : Int32) (fm : Nat → Int32), post (nI a) ((nI b), (nI cr), (nI cs), fs, fe, bu, kl, kn, rl, rn, rf, rs, rx, sl, sn, sf, fm))
    (h0 : (∀ a, a < cs * 121 → Q a → ¬ nI (sp_c Q a) = v) → ∀ (fs fe : Int32) (fm : Nat → Int32), post (-6) ((nI b), (nI cr), (nI cs), fs, fe, bu, kl, kn, rl, rn, rf, rs, rx, sl, sn, sf, fm)) :
    wpX_codeOfDerivation post ((nI b), (nI cr), (nI cs), fs, fe, bu, kl, kn, rl, rn, rf, rs, rx, sl, sn, sf, fm) v := by
  unfold wpX_codeOfDerivation
  dsimp only
  refine sp_plainX hb (fun z => br_f (by decide) (nm_r (sp_codes cs) ⟨cs * 121 + 1, ?_⟩)) (fun z => br_t rfl (h0 (fun a ha hq => absurd hq (hQ0 z a ha)) _ _ _))
  exact sp_coXl hb hcr hcs hB hS (hQ z.1) h1 h0 (cs * 121 + 1) 0 (by omega) (by omega) (fun a ha => absurd ha (Nat.not_lt_zero a)) _ _ _
theorem sp_idXl {post : Int32 → SX → Prop} {b cr cs l : Nat} {bu kl kn rl rn rf rs rx sl sn sf : Nat → Int32} (hl : l ≤ 12) (hcr : cr ≤ 10) (hcs : cs ≤ 12) (hB : sp_B rn 3) (hS : sp_B sn 12)
    (h1 : (∃ a, a < cs * 121 ∧ sp_P l cr bu rl rn rf rs rx sl sn sf a) → ∀ (fs fe : Int32) (fm : Nat → Int32), post 1 ((nI b), (nI cr), (nI cs), fs, fe, bu, kl, kn, rl, rn, rf, rs, rx, sl, sn, sf, fm))
    (h0 : ¬ (∃ a, a < cs * 121 ∧ sp_P l cr bu rl rn rf rs rx sl sn sf a) → ∀ (fs fe : Int32) (fm : Nat → Int32), post 0 ((nI b), (nI cr), (nI cs), fs, fe, bu, kl, kn, rl, rn, rf, rs, rx, sl, sn, sf, fm)) :
    ∀ m a : Nat, a ≤ cs * 121 → cs * 121 - a < m → (∀ a', a' < a → ¬ sp_P l cr bu rl rn rf rs rx sl sn sf a') → ∀ (fs fe : Int32) (fm : Nat → Int32), wX_isDerivable_10 post (nI l) (nI (cs * 121)) m (nI a) (nI b) (nI cr) (nI cs) fs fe bu kl kn rl rn rf rs rx sl sn sf fm := by
  intro m
  induction m with
  | zero => intro a _ h; omega
  | succ m ih =>
    intro a ha hm hp fs fe fm
    refine pk_le (cs * 121) a (fun h2 => ?_) (fun h2 => ?_)
    · exact h0 (fun ⟨a', ha', hq⟩ => hp a' (by omega) hq) _ _ _
    · refine sp_dvX hcr hcs hB hS hl h2 (fun z fs fe fm => ?_) (fun z fs fe fm => ?_)
      · exact br_f (by decide) (h1 ⟨a, h2, z⟩ _ _ _)
      · refine br_t rfl (nm_r (nI_1 a) (ih (a + 1) (by omega) (by omega) ?_ _ _ _))
        intro a' ha' hq
        by_cases y : a' = a
        · rw [y] at hq; exact absurd hq z
        · exact hp a' (by omega) hq
theorem sp_idX {post : Int32 → SX → Prop} {b cr cs : Nat} {fs fe : Int32} {bu kl kn rl rn rf rs rx sl sn sf fm : Nat → Int32} {l : Nat} (hl : l ≤ 12) (hcr : cr ≤ 10) (hcs : cs ≤ 12) (hB : sp_B rn 3) (hS : sp_B sn 12)
    (h1 : (∃ a, a < cs * 121 ∧ sp_P l cr bu rl rn rf rs rx sl sn sf a) → ∀ (fs fe : Int32) (fm : Nat → Int32), post 1 ((nI b), (nI cr), (nI cs), fs, fe, bu, kl, kn, rl, rn, rf, rs, rx, sl, sn, sf, fm))
    (h0 : ¬ (∃ a, a < cs * 121 ∧ sp_P l cr bu rl rn rf rs rx sl sn sf a) → ∀ (fs fe : Int32) (fm : Nat → Int32), post 0 ((nI b), (nI cr), (nI cs), fs, fe, bu, kl, kn, rl, rn, rf, rs, rx, sl, sn, sf, fm)) :
    wpX_isDerivable post ((nI b), (nI cr), (nI cs), fs, fe, bu, kl, kn, rl, rn, rf, rs, rx, sl, sn, sf, fm) (nI l) := by
  refine nm_r (sp_codes cs) ⟨cs * 121 + 1, ?_⟩
  exact sp_idXl hl hcr hcs hB hS h1 h0 (cs * 121 + 1) 0 (by omega) (by omega) (fun a ha => absurd ha (Nat.not_lt_zero a)) _ _ _
/-- letter k + 1 behind the buffer's end makes a word that has a derivation -/
def sp_D (b cr cs : Nat) (bu rl rn rf rs rx sl sn sf : Nat → Int32) (k : Nat) : Prop := ∃ a, a < cs * 121 ∧ sp_P (b + 1) cr (upd bu b (nI (k + 1))) rl rn rf rs rx sl sn sf a
theorem sp_ctXl {post : Int32 → SX → Prop} {b cr cs : Nat} {bu kl kn rl rn rf rs rx sl sn sf : Nat → Int32} (hb : b < 12) (hcr : cr ≤ 10) (hcs : cs ≤ 12) (hB : sp_B rn 3) (hS : sp_B sn 12)
    (h : ∀ (fs fe : Int32) (fm : Nat → Int32), post (nI (sp_c (sp_D b cr cs bu rl rn rf rs rx sl sn sf) 8)) ((nI b), (nI cr), (nI cs), fs, fe, (upd bu b (nI 8)), kl, kn, rl, rn, rf, rs, rx, sl, sn, sf, fm)) :
    ∀ m k : Nat, k ≤ 8 → 8 - k < m → ∀ (fs fe : Int32) (fm bq : Nat → Int32), (∀ x, upd bq b x = upd bu b x) → (k = 8 → bq = upd bu b (nI 8)) → wX_continuations_22 post m (nI (sp_c (sp_D b cr cs bu rl rn rf rs rx sl sn sf) k)) (nI (k + 1)) (nI b) (nI cr) (nI cs) fs fe bq kl kn rl rn rf rs rx sl sn sf fm := by
  intro m
  induction m with
  | zero => intro a _ h; omega
  | succ m ih =>
    intro k hk hm fs fe fm bq hq h8
    refine pk_lt 8 (k + 1) (fun h2 => ?_) (fun h2 => ?_)
    · rw [show k = 8 by omega, h8 (by omega)]
      exact h _ _ _
    · rw [nI_clamp (by omega), nI_1 b]
      refine ⟨vp_in_nI hb (by omega), nm_r (hq _) ?_⟩
      refine sp_idX (by omega) hcr hcs hB hS (fun z fs fe fm => ?_) (fun z fs fe fm => ?_)
      · refine br_f (by decide) (nm_r (e' := nI (sp_c (sp_D b cr cs bu rl rn rf rs rx sl sn sf) (k + 1))) ?_ (nm_r (nI_1 (k + 1)) (ih (k + 1) (by omega) (by omega) _ _ _ _ (fun x => sp_uu) ?_)))
        · rw [sp_c_t (show sp_D b cr cs bu rl rn rf rs rx sl sn sf k from z), nI_1]
        · intro e; rw [e]
      · refine br_t rfl (nm_r (nI_1 (k + 1)) ?_)
        rw [← sp_c_f (show ¬ sp_D b cr cs bu rl rn rf rs rx sl sn sf k from z)]
        exact ih (k + 1) (by omega) (by omega) _ _ _ _ (fun x => sp_uu) (fun e => by rw [e])
theorem sp_ctX {post : Int32 → SX → Prop} {b cr cs : Nat} {fs fe : Int32} {bu kl kn rl rn rf rs rx sl sn sf fm : Nat → Int32} (hb : b ≤ 12) (hcr : cr ≤ 10) (hcs : cs ≤ 12) (hB : sp_B rn 3) (hS : sp_B sn 12)
    (h1 : b < 12 → ¬ sp_9 b bu → ∀ (fs fe : Int32) (fm : Nat → Int32), post (nI (sp_c (sp_D b cr cs bu rl rn rf rs rx sl sn sf) 8)) ((nI b), (nI cr), (nI cs), fs, fe, (upd bu b (nI 8)), kl, kn, rl, rn, rf, rs, rx, sl, sn, sf, fm))
    (h0 : ¬ (b < 12 ∧ ¬ sp_9 b bu) → post 0 ((nI b), (nI cr), (nI cs), fs, fe, bu, kl, kn, rl, rn, rf, rs, rx, sl, sn, sf, fm)) :
    wpX_continuations post ((nI b), (nI cr), (nI cs), fs, fe, bu, kl, kn, rl, rn, rf, rs, rx, sl, sn, sf, fm) := by
  refine pk_le 12 b (fun h => h0 (by omega)) (fun h => ?_)
  refine sp_nineX hb (fun z => br_f (by decide) (h0 (fun y => y.2 z))) (fun z => br_t rfl ⟨9, ?_⟩)
  exact sp_ctXl h hcr hcs hB hS (h1 h z) 9 0 (by omega) (by omega) _ _ _ _ (fun x => rfl) (fun e => absurd e (by omega))
end
section
/-! the reference's own methods, each over a general post -/
theorem sp_ov_s0 {a : Nat → Int32} {i : Nat} {g : Nat → Int32} : upd (sp_ov a 0 i g) i (g i) = sp_ov a 0 (i + 1) g := by
  have := sp_ov_s (a := a) (f := 0) (i := i) (g := g)
  rw [Nat.zero_add] at this
  exact this
theorem sp_ov_i0 {a : Nat → Int32} {m j : Nat} {g : Nat → Int32} (h : j < m) : sp_ov a 0 m g j = g j := by
  have := sp_ov_in (a := a) (f := 0) (g := g) h
  rw [Nat.zero_add] at this
  exact this
theorem sp_nineYl {post : Int32 → Prop} {b cr cs : Nat} {ws gu gp : Int32} {bu kl kn rl rn rf rs rx sl sn sf wd ot : Nat → Int32} (hb : b ≤ 12) (h1 : sp_9 b bu → post 1) (h0 : ¬ sp_9 b bu → post 0) : ∀ m i : Nat, i ≤ b → b - i < m → (∀ j, j < i → bu j ≠ 9) → wY_nine_2 post (nI b) (nI cr) (nI cs) ws gu gp bu kl kn rf rs rx rl rn sf sn sl wd ot m (nI i) := by
  intro m
  induction m with
  | zero => intro i _ h; omega
  | succ m ih =>
    intro i hi hm hp
    refine pk_le b i (fun h => ?_) (fun h => ?_)
    · refine h0 ?_
      rintro ⟨j, hj, e⟩
      exact hp j (by omega) e
    · refine ⟨vp_in_nI (by omega) (by omega), ?_⟩
      rw [nI_clamp (by omega)]
      refine br_c (fun e => h1 ⟨i, h, e⟩) (fun e => nm_r (nI_1 i) (ih (i + 1) (by omega) (by omega) (fun j hj => ?_)))
      by_cases z : j = i
      · rw [z]; exact e
      · exact hp j (by omega)
theorem sp_nineY {post : Int32 → Prop} {b cr cs : Nat} {ws gu gp : Int32} {bu kl kn rl rn rf rs rx sl sn sf wd ot : Nat → Int32} (hb : b ≤ 12) (h1 : sp_9 b bu → post 1) (h0 : ¬ sp_9 b bu → post 0) : wpY_nine post ((nI b), (nI cr), (nI cs), ws, gu, gp, bu, kl, kn, rf, rs, rx, rl, rn, sf, sn, sl, wd, ot) :=
  ⟨b + 1, sp_nineYl hb h1 h0 (b + 1) 0 (by omega) (by omega) (fun j hj => absurd hj (Nat.not_lt_zero j))⟩
theorem sp_stYl {post : Int32 → Prop} {b cr cs : Nat} {ws gu gp : Int32} {bu kl kn rl rn rf rs rx sl sn sf wd ot : Nat → Int32} {r q f L : Nat} (hr : r < 10) (hq : q < 3) (hL : L ≤ 3) (hf : f + L ≤ 24)
    (h1 : (∀ j, j < L → rl (r * 9 + q * 3 + j) = 9 ∨ rl (r * 9 + q * 3 + j) = wd (f + j)) → post 1)
    (h0 : ¬ (∀ j, j < L → rl (r * 9 + q * 3 + j) = 9 ∨ rl (r * 9 + q * 3 + j) = wd (f + j)) → post 0) :
    ∀ m i : Nat, i ≤ L → L - i < m → (∀ j, j < i → rl (r * 9 + q * 3 + j) = 9 ∨ rl (r * 9 + q * 3 + j) = wd (f + j)) → wY_stands_43 post (nI r) (nI q) (nI L) (nI f) (nI b) (nI cr) (nI cs) ws gu gp bu kl kn rf rs rx rl rn sf sn sl wd ot m (nI i) := by
  intro m
  induction m with
  | zero => intro i _ h; omega
  | succ m ih =>
    intro i hi hm hp
    have ex : nI r * 9 + nI q * 3 + nI i = nI (r * 9 + q * 3 + i) := by
      rw [show nI r * 9 = nI (r * 9) from pk_mul r 9, show nI q * 3 = nI (q * 3) from pk_mul q 3, nI_add, nI_add]
    have next : (rl (r * 9 + q * 3 + i) = 9 ∨ rl (r * 9 + q * 3 + i) = wd (f + i)) → i < L → wY_stands_43 post (nI r) (nI q) (nI L) (nI f) (nI b) (nI cr) (nI cs) ws gu gp bu kl kn rf rs rx rl rn sf sn sl wd ot m (nI (i + 1)) := by
      intro z hz
      refine ih (i + 1) (by omega) (by omega) (fun j hj => ?_)
      by_cases e : j = i
      · rw [e]; exact z
      · exact hp j (by omega)
    refine pk_le L i (fun h => h1 (fun j hj => hp j (by omega))) (fun h => ?_)
    rw [ex, nI_clamp (by omega), nI_add, nI_clamp (by omega)]
    refine ⟨vp_in_nI (by omega) (by omega), nm_e (br_c (fun e => nm_r (nI_1 i) (next (Or.inl e) h)) (fun e => ⟨vp_in_nI (by omega) (by omega), br_c (fun e2 => nm_r (nI_1 i) (next (Or.inr e2) h)) (fun e2 => h0 (fun H => ?_))⟩))⟩
    rcases H i h with z | z
    · exact e z
    · exact e2 z
theorem sp_stY {post : Int32 → Prop} {b cr cs : Nat} {bu kl kn rl rn rf rs rx sl sn sf wd ot : Nat → Int32} {gu gp : Int32} {w : Nat → Int32} {r q n o : Nat} {t : Int32} (hr : r < 10) (hq : q < 3) (hB : sp_B rn 3) (hn : n ≤ 24) (hw : ∀ i, i < n → wd i = w i)
    (ho : (t = 0 ∧ o = 0) ∨ (¬ t = 0 ∧ o = n - sp_n rn (r * 3 + q)))
    (h1 : (sp_n rn (r * 3 + q) ≤ n ∧ sp_M rl rn w r q o) → post 1)
    (h0 : ¬ (sp_n rn (r * 3 + q) ≤ n ∧ sp_M rl rn w r q o) → post 0) :
    wpY_stands post ((nI b), (nI cr), (nI cs), (nI n), gu, gp, bu, kl, kn, rf, rs, rx, rl, rn, sf, sn, sl, wd, ot) (nI r) (nI q) t := by
  have hL : sp_n rn (r * 3 + q) ≤ 3 := sp_Bl hB _
  have ex : nI r * 3 + nI q = nI (r * 3 + q) := sp_mi r 3 q rfl
  have eL : rn (nI r * 3 + nI q).toNatClampNeg = nI (sp_n rn (r * 3 + q)) := by
    rw [ex, nI_clamp (by omega)]; exact sp_Be hB _
  refine And.intro (pk_in (r * 3 + q) 30 (by omega) ex) (nm_r eL (pk_le (sp_n rn (r * 3 + q)) n (fun h => ?_) (fun h => h0 (by omega))))
  have e : o + sp_n rn (r * 3 + q) ≤ n → ((∀ j, j < sp_n rn (r * 3 + q) → rl (r * 9 + q * 3 + j) = 9 ∨ rl (r * 9 + q * 3 + j) = wd (o + j)) ↔ sp_M rl rn w r q o) := by
    intro hz
    exact sp_M_w (w := wd) (w' := w) (p := q) hw hz
  rcases ho with ⟨ht, ho⟩ | ⟨ht, ho⟩
  · subst ho
    have e := e (by omega)
    exact br_t ht ⟨_, sp_stYl hr hq hL (by omega) (fun H => h1 ⟨h, e.mp H⟩) (fun H => h0 (fun z => H (e.mpr z.2))) (sp_n rn (r * 3 + q) + 1) 0 (by omega) (by omega) (fun j hj => absurd hj (Nat.not_lt_zero j))⟩
  · have e := e (by omega)
    refine br_f ht (nm_r (e' := nI o) (by rw [ho]; exact pk_sub h) ⟨_, sp_stYl hr hq hL (by omega) (fun H => h1 ⟨h, e.mp H⟩) (fun H => h0 (fun z => H (e.mpr z.2))) (sp_n rn (r * 3 + q) + 1) 0 (by omega) (by omega) (fun j hj => absurd hj (Nat.not_lt_zero j))⟩)
theorem sp_ap3 {post : Int32 → SY → Prop} {b cr cs : Nat} {bu kl kn rl rn rf rs rx sl sn sf wd ot : Nat → Int32} {gu gp : Int32} {L : Nat} (hL : L ≤ 24) (h : post 1 ((nI b), (nI cr), (nI cs), (nI L), gu, gp, bu, kl, kn, rf, rs, rx, rl, rn, sf, sn, sl, (sp_ov wd 0 L ot), ot)) :
    ∀ m i : Nat, i ≤ L → L - i < m → wY_apply_169 post (nI b) (nI cr) (nI cs) (nI L) gu gp m (nI i) bu kl kn rf rs rx rl rn sf sn sl (sp_ov wd 0 i ot) ot := by
  intro m
  induction m with
  | zero => intro i _ h; omega
  | succ m ih =>
    intro i hi hm
    refine pk_le L i (fun h2 => ?_) (fun h2 => ?_)
    · rw [show i = L by omega]; exact h
    · rw [nI_clamp (by omega)]
      exact ⟨vp_in_nI (by omega) (by omega), vp_in_nI (by omega) (by omega), nm_r sp_ov_s0 (nm_r (nI_1 i) (ih (i + 1) (by omega) (by omega)))⟩
theorem sp_ap2 {post : Int32 → SY → Prop} {b cr cs : Nat} {ws gu gp : Int32} {bu kl kn rl rn rf rs rx sl sn sf wd ot : Nat → Int32} {t : Int32} {r ad lf f1 : Nat} (hr : r < 10) (had : ad ≤ 3) (hlf : lf ≤ 15) (ht : (t = 0 ∧ f1 = 0) ∨ (¬ t = 0 ∧ f1 = lf))
    (h : ∀ ot' : Nat → Int32, ot' = sp_ov ot f1 ad (fun k => rl (r * 9 + 1 * 3 + k)) → post 1 ((nI b), (nI cr), (nI cs), (nI (lf + ad)), gu, gp, bu, kl, kn, rf, rs, rx, rl, rn, sf, sn, sl, (sp_ov wd 0 (lf + ad) ot'), ot')) :
    ∀ m i : Nat, i ≤ ad → ad - i < m → wY_apply_112 post (nI r) t (nI ad) (nI lf) (nI b) (nI cr) (nI cs) ws gu gp m (nI i) bu kl kn rf rs rx rl rn sf sn sl wd (sp_ov ot f1 i (fun k => rl (r * 9 + 1 * 3 + k))) := by
  intro m
  induction m with
  | zero => intro i _ h; omega
  | succ m ih =>
    intro i hi hm
    have ex : nI r * 9 + 3 + nI i = nI (r * 9 + 1 * 3 + i) := by
      rw [show nI r * 9 = nI (r * 9) from pk_mul r 9, show nI (r * 9) + 3 = nI (r * 9 + 3) from nI_add (r * 9) 3, nI_add]
    refine pk_le ad i (fun h2 => ?_) (fun h2 => ?_)
    · rw [show i = ad by omega]
      refine nm_r (nI_add lf ad) ⟨lf + ad + 1, ?_⟩
      have := sp_ap3 (L := lf + ad) (by omega) (h _ rfl) (lf + ad + 1) 0 (by omega) (by omega)
      rw [sp_ov_0] at this
      exact this
    · have go : ∀ z0 : Int32, z0 = nI f1 → wY_apply_133 post (wY_apply_112 post (nI r) t (nI ad) (nI lf) (nI b) (nI cr) (nI cs) ws gu gp m) (nI r) t (nI ad) (nI lf) (nI i) z0 (nI b) (nI cr) (nI cs) ws gu gp bu kl kn rf rs rx rl rn sf sn sl wd (sp_ov ot f1 i (fun k => rl (r * 9 + 1 * 3 + k))) := by
        intro z0 ez
        subst ez
        unfold wY_apply_133
        rw [ex, nI_add, nI_clamp (by omega), nI_clamp (by omega)]
        exact ⟨vp_in_nI (by omega) (by omega), vp_in_nI (by omega) (by omega), nm_r sp_ov_s (nm_r (nI_1 i) (ih (i + 1) (by omega) (by omega)))⟩
      rcases ht with ⟨ht, e⟩ | ⟨ht, e⟩
      · exact br_t ht (go 0 (by rw [e]; rfl))
      · exact br_f ht (go (nI lf) (by rw [e]))
theorem sp_ap1 {post : Int32 → SY → Prop} {b cr cs : Nat} {ws gu gp : Int32} {bu kl kn rl rn rf rs rx sl sn sf wd ot : Nat → Int32} {t : Int32} {r cu ad lf f0 g0 f1 : Nat} (hr : r < 10) (hcu : cu ≤ 3) (had : ad ≤ 3) (hlf : lf ≤ 15) (ht : (t = 0 ∧ f0 = ad ∧ g0 = cu ∧ f1 = 0) ∨ (¬ t = 0 ∧ f0 = 0 ∧ g0 = 0 ∧ f1 = lf))
    (h : ∀ ot' : Nat → Int32, ot' = sp_ov (sp_ov ot f0 lf (fun k => wd (g0 + k))) f1 ad (fun k => rl (r * 9 + 1 * 3 + k)) → post 1 ((nI b), (nI cr), (nI cs), (nI (lf + ad)), gu, gp, bu, kl, kn, rf, rs, rx, rl, rn, sf, sn, sl, (sp_ov wd 0 (lf + ad) ot'), ot')) :
    ∀ m i : Nat, i ≤ lf → lf - i < m → wY_apply_61 post (nI r) t (nI cu) (nI ad) (nI lf) (nI b) (nI cr) (nI cs) ws gu gp m (nI i) bu kl kn rf rs rx rl rn sf sn sl wd (sp_ov ot f0 i (fun k => wd (g0 + k))) := by
  intro m
  induction m with
  | zero => intro i _ h; omega
  | succ m ih =>
    intro i hi hm
    refine pk_le lf i (fun h2 => ?_) (fun h2 => ?_)
    · rw [show i = lf by omega]
      refine ⟨ad + 1, ?_⟩
      have := sp_ap2 (ws := ws) (t := t) hr had hlf (f1 := f1) (by rcases ht with ⟨a, _, _, c⟩ | ⟨a, _, _, c⟩; exact Or.inl ⟨a, c⟩; exact Or.inr ⟨a, c⟩) h (ad + 1) 0 (by omega) (by omega)
      rw [sp_ov_0] at this
      exact this
    · rcases ht with ⟨ht, e0, eg, e1⟩ | ⟨ht, e0, eg, e1⟩
      · subst e0
        subst eg
        refine br_t ht ?_
        unfold wY_apply_82
        rw [nI_add, nI_add, nI_clamp (by omega), nI_clamp (by omega)]
        exact br_t ht ⟨vp_in_nI (by omega) (by omega), vp_in_nI (by omega) (by omega), nm_r sp_ov_s (nm_r (nI_1 i) (ih (i + 1) (by omega) (by omega)))⟩
      · subst e0
        subst eg
        refine br_f ht ?_
        unfold wY_apply_82
        rw [show (0 : Int32) + nI i = nI (0 + i) from nI_add 0 i, nI_clamp (by omega)]
        exact br_f ht ⟨vp_in_nI (by omega) (by omega), vp_in_nI (by omega) (by omega), nm_r sp_ov_s (nm_r (nI_1 i) (ih (i + 1) (by omega) (by omega)))⟩
theorem sp_apYg {post : Int32 → SY → Prop} {b cr cs : Nat} {bu kl kn rl rn rf rs rx sl sn sf wd ot : Nat → Int32} {gu gp t : Int32} {w : Nat → Int32} {r n f0 g0 f1 o0 o2 : Nat} (hr : r < 10) (hB : sp_B rn 3) (hn : n ≤ 15) (hw : ∀ i, i < n → wd i = w i) (hrs : rs r = t)
    (ht : (t = 0 ∧ f0 = sp_n rn (r * 3 + 1) ∧ g0 = sp_n rn (r * 3 + 0) ∧ f1 = 0 ∧ o0 = 0 ∧ o2 = 0) ∨ (¬ t = 0 ∧ f0 = 0 ∧ g0 = 0 ∧ f1 = n - sp_n rn (r * 3 + 0) ∧ o0 = n - sp_n rn (r * 3 + 0) ∧ o2 = n - sp_n rn (r * 3 + 2)))
    (h1 : ((sp_n rn (r * 3 + 0) ≤ n ∧ sp_M rl rn w r 0 o0) ∧ (sp_n rn (r * 3 + 2) ≤ n ∧ sp_M rl rn w r 2 o2)) → ∀ ot' : Nat → Int32, ot' = sp_ov (sp_ov ot f0 (n - sp_n rn (r * 3 + 0)) (fun k => wd (g0 + k))) f1 (sp_n rn (r * 3 + 1)) (fun k => rl (r * 9 + 1 * 3 + k)) → post 1 ((nI b), (nI cr), (nI cs), (nI (sp_len rn r n)), gu, gp, bu, kl, kn, rf, rs, rx, rl, rn, sf, sn, sl, (sp_ov wd 0 (sp_len rn r n) ot'), ot'))
    (h0 : ¬ ((sp_n rn (r * 3 + 0) ≤ n ∧ sp_M rl rn w r 0 o0) ∧ (sp_n rn (r * 3 + 2) ≤ n ∧ sp_M rl rn w r 2 o2)) → post 0 ((nI b), (nI cr), (nI cs), (nI n), gu, gp, bu, kl, kn, rf, rs, rx, rl, rn, sf, sn, sl, wd, ot)) :
    wpY_apply post ((nI b), (nI cr), (nI cs), (nI n), gu, gp, bu, kl, kn, rf, rs, rx, rl, rn, sf, sn, sl, wd, ot) (nI r) := by
  have l0 : sp_n rn (r * 3 + 0) ≤ 3 := sp_Bl hB _
  have l1 : sp_n rn (r * 3 + 1) ≤ 3 := sp_Bl hB _
  have l2 : sp_n rn (r * 3 + 2) ≤ 3 := sp_Bl hB _
  refine And.intro (vp_in_nI (by omega) (by omega)) (nm_r (e' := t) (by rw [nI_clamp (by omega)]; exact hrs) ?_)
  refine sp_stY (q := 0) (w := w) (o := o0) hr (by omega) hB (by omega) hw ?_ (fun m0 => br_f (by decide) ?_) (fun m0 => br_t rfl (h0 (fun z => m0 z.1)))
  · rcases ht with ⟨a, _, _, _, c, _⟩ | ⟨a, _, _, _, c, _⟩
    · exact Or.inl ⟨a, c⟩
    · exact Or.inr ⟨a, c⟩
  refine sp_stY (q := 2) (w := w) (o := o2) hr (by omega) hB (by omega) hw ?_ (fun m2 => br_f (by decide) ?_) (fun m2 => br_t rfl (h0 (fun z => m2 z.2)))
  · rcases ht with ⟨a, _, _, _, _, c⟩ | ⟨a, _, _, _, _, c⟩
    · exact Or.inl ⟨a, c⟩
    · exact Or.inr ⟨a, c⟩
  have e0 : nI r * 3 = nI (r * 3 + 0) := pk_mul r 3
  have e1 : nI r * 3 + 1 = nI (r * 3 + 1) := sp_mi r 3 1 rfl
  rw [e1, e0, nI_clamp (by omega), nI_clamp (by omega)]
  refine ⟨vp_in_nI (by omega) (by omega), nm_r (sp_Be hB _) ⟨vp_in_nI (by omega) (by omega), nm_r (sp_Be hB _) (nm_r (pk_sub m0.1) ⟨n - sp_n rn (r * 3 + 0) + 1, ?_⟩)⟩⟩
  have := sp_ap1 (ws := nI n) (t := t) (r := r) (cu := sp_n rn (r * 3 + 0)) (ad := sp_n rn (r * 3 + 1)) (lf := n - sp_n rn (r * 3 + 0)) (f0 := f0) (g0 := g0) (f1 := f1) hr l0 l1 (by omega) ?_ (h1 ⟨m0, m2⟩) (n - sp_n rn (r * 3 + 0) + 1) 0 (by omega) (by omega)
  · rw [sp_ov_0] at this
    exact this
  · rcases ht with ⟨a, c1, c2, c3, _⟩ | ⟨a, c1, c2, c3, _⟩
    · exact Or.inl ⟨a, c1, c2, c3⟩
    · exact Or.inr ⟨a, c1, c2, c3⟩
theorem sp_asY {post : Int32 → SY → Prop} {b cr cs : Nat} {bu kl kn rl rn rf rs rx sl sn sf wd ot : Nat → Int32} {gu gp : Int32} {w : Nat → Int32} {r n : Nat} (hr : r < 10) (hB : sp_B rn 3) (hn : n ≤ 15) (hw : ∀ i, i < n → wd i = w i) (hrs : rs r = 1)
    (h1 : sp_okS rl rn r n w → ∀ wd' ot' : Nat → Int32, (∀ i, i < sp_len rn r n → wd' i = sp_aS rl rn r n w i) → post 1 ((nI b), (nI cr), (nI cs), (nI (sp_len rn r n)), gu, gp, bu, kl, kn, rf, rs, rx, rl, rn, sf, sn, sl, wd', ot'))
    (h0 : ¬ sp_okS rl rn r n w → post 0 ((nI b), (nI cr), (nI cs), (nI n), gu, gp, bu, kl, kn, rf, rs, rx, rl, rn, sf, sn, sl, wd, ot)) :
    wpY_apply post ((nI b), (nI cr), (nI cs), (nI n), gu, gp, bu, kl, kn, rf, rs, rx, rl, rn, sf, sn, sl, wd, ot) (nI r) := by
  refine sp_apYg (w := w) (t := 1) (f0 := 0) (g0 := 0) (f1 := n - sp_n rn (r * 3 + 0)) (o0 := n - sp_n rn (r * 3 + 0)) (o2 := n - sp_n rn (r * 3 + 2)) hr hB hn hw hrs (Or.inr ⟨by decide, rfl, rfl, rfl, rfl, rfl⟩) (fun ok ot' eo => h1 ok _ ot' ?_) h0
  intro i hi
  rw [sp_ov_i0 hi, eo]
  unfold sp_len at hi
  unfold sp_aS
  by_cases e : i < n - sp_n rn (r * 3 + 0)
  · rw [if_pos e, sp_ov_out (by omega), sp_ov_i0 e, Nat.zero_add]
    exact hw i (by omega)
  · rw [if_neg e]
    have := sp_ov_in (a := sp_ov ot 0 (n - sp_n rn (r * 3 + 0)) (fun k => wd (0 + k))) (f := n - sp_n rn (r * 3 + 0)) (m := sp_n rn (r * 3 + 1)) (j := i - (n - sp_n rn (r * 3 + 0))) (g := fun k => rl (r * 9 + 1 * 3 + k)) (by omega)
    rw [show n - sp_n rn (r * 3 + 0) + (i - (n - sp_n rn (r * 3 + 0))) = i by omega] at this
    exact this
theorem sp_apY {post : Int32 → SY → Prop} {b cr cs : Nat} {bu kl kn rl rn rf rs rx sl sn sf wd ot : Nat → Int32} {gu gp : Int32} {w : Nat → Int32} {r n : Nat} (hr : r < 10) (hB : sp_B rn 3) (hn : n ≤ 15) (hw : ∀ i, i < n → wd i = w i) (hrs : rs r = 0)
    (h1 : sp_okP rl rn r n w → ∀ wd' ot' : Nat → Int32, (∀ i, i < sp_len rn r n → wd' i = sp_aP rl rn r w i) → post 1 ((nI b), (nI cr), (nI cs), (nI (sp_len rn r n)), gu, gp, bu, kl, kn, rf, rs, rx, rl, rn, sf, sn, sl, wd', ot'))
    (h0 : ¬ sp_okP rl rn r n w → post 0 ((nI b), (nI cr), (nI cs), (nI n), gu, gp, bu, kl, kn, rf, rs, rx, rl, rn, sf, sn, sl, wd, ot)) :
    wpY_apply post ((nI b), (nI cr), (nI cs), (nI n), gu, gp, bu, kl, kn, rf, rs, rx, rl, rn, sf, sn, sl, wd, ot) (nI r) := by
  refine sp_apYg (w := w) (t := 0) (f0 := sp_n rn (r * 3 + 1)) (g0 := sp_n rn (r * 3 + 0)) (f1 := 0) (o0 := 0) (o2 := 0) hr hB hn hw hrs (Or.inl ⟨rfl, rfl, rfl, rfl, rfl, rfl⟩) (fun ok ot' eo => h1 ok _ ot' ?_) h0
  intro i hi
  rw [sp_ov_i0 hi, eo]
  unfold sp_len at hi
  unfold sp_aP
  by_cases e : i < sp_n rn (r * 3 + 1)
  · rw [if_pos e]
    exact sp_ov_i0 e
  · rw [if_neg e, sp_ov_out (by omega)]
    have := sp_ov_in (a := ot) (f := sp_n rn (r * 3 + 1)) (m := n - sp_n rn (r * 3 + 0)) (j := i - sp_n rn (r * 3 + 1)) (g := fun k => wd (sp_n rn (r * 3 + 0) + k)) (by omega)
    rw [show sp_n rn (r * 3 + 1) + (i - sp_n rn (r * 3 + 1)) = i by omega] at this
    rw [this, hw _ (by omega)]
    exact congrArg w (by omega)
end
section
theorem sp_g214Y {post : Int32 → SY → Prop} {b cr cs : Nat} {ws gu gp : Int32} {bu kl kn rl rn rf rs rx sl sn sf wd ot : Nat → Int32} (hb : b ≤ 12)
    (h1 : (∀ i, i < b → wd i = bu i) → post 1 ((nI b), (nI cr), (nI cs), ws, gu, gp, bu, kl, kn, rf, rs, rx, rl, rn, sf, sn, sl, wd, ot)) (h0 : ¬ (∀ i, i < b → wd i = bu i) → post 0 ((nI b), (nI cr), (nI cs), ws, gu, gp, bu, kl, kn, rf, rs, rx, rl, rn, sf, sn, sl, wd, ot)) :
    ∀ m i : Nat, i ≤ b → b - i < m → (∀ j, j < i → wd j = bu j) → wY_gives_214 post (nI b) (nI cr) (nI cs) ws gu gp bu kl kn rf rs rx rl rn sf sn sl wd ot m (nI i) := by
  intro m
  induction m with
  | zero => intro i _ h; omega
  | succ m ih =>
    intro i hi hm hp
    refine pk_le b i (fun h => h1 (fun j hj => hp j (by omega))) (fun h => ?_)
    rw [nI_clamp (by omega)]
    refine ⟨vp_in_nI (by omega) (by omega), vp_in_nI (by omega) (by omega), br_c (fun e => nm_r (nI_1 i) (ih (i + 1) (by omega) (by omega) (fun j hj => ?_))) (fun e => h0 (fun H => e (H i h)))⟩
    by_cases z : j = i
    · rw [z]; exact e
    · exact hp j (by omega)
theorem sp_g191Y {post : Int32 → SY → Prop} {b cr cs : Nat} {bu kl kn rl rn rf rs rx sl sn sf wd ot : Nat → Int32} {gu gp : Int32} {w : Nat → Int32} {n : Nat} (hb : b ≤ 12) (hn : n ≤ 24) (hw : ∀ i, i < n → wd i = w i)
    (h1 : 0 < b → sp_fit b bu n w → post 1 ((nI b), (nI cr), (nI cs), (nI n), gu, gp, bu, kl, kn, rf, rs, rx, rl, rn, sf, sn, sl, wd, ot)) (h0 : ¬ (0 < b ∧ sp_fit b bu n w) → post 0 ((nI b), (nI cr), (nI cs), (nI n), gu, gp, bu, kl, kn, rf, rs, rx, rl, rn, sf, sn, sl, wd, ot)) :
    wY_gives_191 post (nI b) (nI cr) (nI cs) (nI n) gu gp bu kl kn rf rs rx rl rn sf sn sl wd ot := by
  unfold wY_gives_191
  refine pk_eq n b (fun e => ?_) (fun e => h0 (fun z => e z.2.1))
  subst e
  refine pk_eq n 0 (fun e => h0 (by omega)) (fun e => ⟨n + 1, ?_⟩)
  have q : (∀ i, i < n → wd i = bu i) ↔ sp_fit n bu n w := by
    constructor
    · intro H
      exact ⟨rfl, fun i hi => by rw [← hw i hi]; exact H i hi⟩
    · intro H i hi
      rw [hw i hi]; exact H.2 i hi
  exact sp_g214Y hb (fun H => h1 (by omega) (q.mp H)) (fun H => h0 (fun z => H (q.mpr z.2))) (n + 1) 0 (by omega) (by omega) (fun j hj => absurd hj (Nat.not_lt_zero j))
theorem sp_g177Y {post : Int32 → SY → Prop} {b cr cs : Nat} {bu kl kn rl rn rf rs rx sl sn sf wd ot : Nat → Int32} {gu gp : Int32} {w : Nat → Int32} {n d : Nat} (hb : b ≤ 12) (hB : sp_B rn 3) (hn : n ≤ 15) (hd : d ≤ 10) (hw : ∀ i, i < n → wd i = w i) (hrs : d = 0 ∨ rs (d - 1) = 0)
    (h1 : 0 < b → (sp_oP rl rn d n w ∧ sp_fit b bu (sp_nc rn d n) (sp_wP rl rn d w)) → ∀ (ws : Int32) (wd ot : Nat → Int32), post 1 ((nI b), (nI cr), (nI cs), ws, gu, gp, bu, kl, kn, rf, rs, rx, rl, rn, sf, sn, sl, wd, ot))
    (h0 : ¬ (0 < b ∧ (sp_oP rl rn d n w ∧ sp_fit b bu (sp_nc rn d n) (sp_wP rl rn d w))) → ∀ (ws : Int32) (wd ot : Nat → Int32), post 0 ((nI b), (nI cr), (nI cs), ws, gu, gp, bu, kl, kn, rf, rs, rx, rl, rn, sf, sn, sl, wd, ot)) :
    wY_gives_177 post (sp_u d) (nI b) (nI cr) (nI cs) (nI n) gu gp bu kl kn rf rs rx rl rn sf sn sl wd ot := by
  unfold wY_gives_177
  refine sp_u_neg d (by omega) (fun e => ?_) (fun r e => ?_)
  · subst e
    exact sp_g191Y (w := w) hb (by omega) hw (fun hz z => h1 hz ⟨Or.inl rfl, z⟩ _ _ _) (fun z => h0 (fun y => z ⟨y.1, y.2.2⟩) _ _ _)
  · subst e
    have l1 : sp_n rn (r * 3 + 1) ≤ 3 := sp_Bl hB _
    have h18 : sp_len rn r n ≤ 24 := by unfold sp_len; omega
    rw [sp_us]
    refine sp_apY (w := w) (by omega) hB hn hw (by rcases hrs with z | z; omega; exact z) (fun ok wd' ot' hw' => ?_) (fun ok => ?_)
    · refine br_f (by decide) ?_
      exact sp_g191Y (w := sp_aP rl rn r w) hb h18 hw' (fun hz z => h1 hz ⟨Or.inr ok, z⟩ _ _ _) (fun z => h0 (fun y => z ⟨y.1, y.2.2⟩) _ _ _)
    · refine br_t rfl (h0 ?_ _ _ _)
      rintro ⟨_, z | z, _⟩
      · omega
      · exact ok z
theorem sp_g129Y {post : Int32 → SY → Prop} {b cr cs : Nat} {bu kl kn rl rn rf rs rx sl sn sf wd ot : Nat → Int32} {gu gp : Int32} {s c d : Nat} (hb : b ≤ 12) (hB : sp_B rn 3) (hS : sp_B sn 12) (hs : s < 12) (hc : c ≤ 10) (hd : d ≤ 10) (hrc : c = 0 ∨ rs (c - 1) = 1) (hrs : d = 0 ∨ rs (d - 1) = 0)
    (h1 : 0 < b → sp_go b bu rl rn c d (sp_n sn s) (fun i => sl (s * 12 + i)) → ∀ (ws : Int32) (wd ot : Nat → Int32), post 1 ((nI b), (nI cr), (nI cs), ws, gu, gp, bu, kl, kn, rf, rs, rx, rl, rn, sf, sn, sl, wd, ot))
    (h0 : ¬ (0 < b ∧ sp_go b bu rl rn c d (sp_n sn s) (fun i => sl (s * 12 + i))) → ∀ (ws : Int32) (wd ot : Nat → Int32), post 0 ((nI b), (nI cr), (nI cs), ws, gu, gp, bu, kl, kn, rf, rs, rx, rl, rn, sf, sn, sl, wd, ot)) :
    ∀ m i : Nat, i ≤ sp_n sn s → sp_n sn s - i < m → wY_gives_129 post (nI s) (sp_u c) (sp_u d) (nI b) (nI cr) (nI cs) (nI (sp_n sn s)) gu gp m (nI i) bu kl kn rf rs rx rl rn sf sn sl (sp_ov wd 0 i (fun k => sl (s * 12 + k))) ot := by
  have hN : sp_n sn s ≤ 12 := sp_Bl hS _
  have hw0 : ∀ i, i < sp_n sn s → sp_ov wd 0 (sp_n sn s) (fun k => sl (s * 12 + k)) i = (fun i => sl (s * 12 + i)) i := fun i hi => sp_ov_i0 (g := fun k => sl (s * 12 + k)) hi
  intro m
  induction m with
  | zero => intro i _ h; omega
  | succ m ih =>
    intro i hi hm
    refine pk_le (sp_n sn s) i (fun h2 => ?_) (fun h2 => ?_)
    · rw [show i = sp_n sn s by omega]
      refine sp_u_neg c (by omega) (fun e => ?_) (fun r e => ?_)
      · subst e
        exact sp_g177Y (w := fun i => sl (s * 12 + i)) hb hB (by omega) hd hw0 hrs (fun hz z => h1 hz ⟨Or.inl rfl, z⟩) (fun z => h0 (fun y => z ⟨y.1, y.2.2⟩))
      · subst e
        have h15 : sp_len rn r (sp_n sn s) ≤ 15 := by
          have l1 : sp_n rn (r * 3 + 1) ≤ 3 := sp_Bl hB _
          unfold sp_len; omega
        rw [sp_us]
        refine sp_asY (w := fun i => sl (s * 12 + i)) (by omega) hB (by omega) hw0 (by rcases hrc with z | z; omega; exact z) (fun ok wd' ot' hw' => ?_) (fun ok => ?_)
        · refine br_f (by decide) ?_
          exact sp_g177Y (w := sp_aS rl rn r (sp_n sn s) (fun i => sl (s * 12 + i))) hb hB h15 hd hw' hrs (fun hz z => h1 hz ⟨Or.inr ok, z⟩) (fun z => h0 (fun y => z ⟨y.1, y.2.2⟩))
        · refine br_t rfl (h0 ?_ _ _ _)
          rintro ⟨_, z | z, _⟩
          · omega
          · exact ok z
    · rw [show nI s * 12 + nI i = nI (s * 12 + i) from sp_mi s 12 i rfl, nI_clamp (by omega), nI_clamp (by omega)]
      exact ⟨vp_in_nI (by omega) (by omega), vp_in_nI (by omega) (by omega), nm_r sp_ov_s0 (nm_r (nI_1 i) (ih (i + 1) (by omega) (by omega)))⟩
theorem sp_g116Y {post : Int32 → SY → Prop} {b cr cs : Nat} {ws gu gp : Int32} {bu kl kn rl rn rf rs rx sl sn sf wd ot : Nat → Int32} {s c d : Nat} (hb : b ≤ 12) (hB : sp_B rn 3) (hS : sp_B sn 12) (hs : s < 12) (hc : c ≤ 10) (hd : d ≤ 10) (hrc : c = 0 ∨ rs (c - 1) = 1) (hrs : d = 0 ∨ rs (d - 1) = 0)
    (h1 : 0 < b → sp_go b bu rl rn c d (sp_n sn s) (fun i => sl (s * 12 + i)) → ∀ (ws : Int32) (wd ot : Nat → Int32), post 1 ((nI b), (nI cr), (nI cs), ws, gu, gp, bu, kl, kn, rf, rs, rx, rl, rn, sf, sn, sl, wd, ot))
    (h0 : ¬ (0 < b ∧ sp_go b bu rl rn c d (sp_n sn s) (fun i => sl (s * 12 + i))) → ∀ (ws : Int32) (wd ot : Nat → Int32), post 0 ((nI b), (nI cr), (nI cs), ws, gu, gp, bu, kl, kn, rf, rs, rx, rl, rn, sf, sn, sl, wd, ot)) :
    wY_gives_116 post (nI s) (sp_u c) (sp_u d) (nI b) (nI cr) (nI cs) ws gu gp bu kl kn rf rs rx rl rn sf sn sl wd ot := by
  unfold wY_gives_116
  refine ⟨vp_in_nI hs (by omega), nm_r (e' := nI (sp_n sn s)) (by rw [nI_clamp (by omega)]; exact sp_Be hS _) ⟨sp_n sn s + 1, ?_⟩⟩
  have := sp_g129Y (wd := wd) (ot := ot) hb hB hS hs hc hd hrc hrs h1 h0 (sp_n sn s + 1) 0 (by omega) (by omega)
  rw [sp_ov_0] at this
  exact this
theorem sp_g76Y {post : Int32 → SY → Prop} {b cr cs : Nat} {ws gu gp : Int32} {bu kl kn rl rn rf rs rx sl sn sf wd ot : Nat → Int32} {x1 x4 z0 : Int32} {c d : Nat} (hc : c ≤ 10) (hd : d ≤ 10)
    (h1 : ¬ x4 = 0 → ¬ z0 = 0 → sp_to rx c d → wY_gives_116 post x1 (sp_u c) (sp_u d) (nI b) (nI cr) (nI cs) ws gu gp bu kl kn rf rs rx rl rn sf sn sl wd ot)
    (h0 : ¬ (¬ x4 = 0 ∧ ¬ z0 = 0 ∧ sp_to rx c d) → post 0 ((nI b), (nI cr), (nI cs), ws, gu, gp, bu, kl, kn, rf, rs, rx, rl, rn, sf, sn, sl, wd, ot)) :
    wY_gives_76 post x1 (sp_u c) (sp_u d) x4 z0 (nI b) (nI cr) (nI cs) ws gu gp bu kl kn rf rs rx rl rn sf sn sl wd ot := by
  unfold wY_gives_76
  refine br_c (fun e => h0 (fun z => z.1 e)) (fun e4 => br_c (fun e => h0 (fun z => z.2.1 e)) (fun ez => ?_))
  refine sp_u_neg c (by omega) (fun e => h1 e4 ez (Or.inl e)) (fun r e => ?_)
  refine sp_u_neg d (by omega) (fun e' => h1 e4 ez (Or.inr (Or.inl e'))) (fun q e' => ?_)
  subst e
  subst e'
  rw [sp_us] at *
  rw [sp_us] at *
  rw [nI_clamp (by omega), nI_clamp (by omega)]
  refine ⟨vp_in_nI (by omega) (by omega), br_c (fun e => h0 ?_) (fun e => ⟨vp_in_nI (by omega) (by omega), br_c (fun e2 => h0 ?_) (fun e2 => h1 e4 ez (Or.inr (Or.inr ⟨e, e2⟩)))⟩)⟩
  · rintro ⟨_, _, z | z | z⟩
    · omega
    · omega
    · exact z.1 e
  · rintro ⟨_, _, z | z | z⟩
    · omega
    · omega
    · exact z.2 e2
theorem sp_g37Y {post : Int32 → SY → Prop} {b cr cs : Nat} {ws gu gp : Int32} {bu kl kn rl rn rf rs rx sl sn sf wd ot : Nat → Int32} {z0 : Int32} {s c d : Nat} (hs : s < 12) (hcr : cr ≤ 10) (hc : c ≤ cr) (hd : d ≤ cr)
    (h1 : ¬ z0 = 0 → sp_al cr rs rf sf s d 0 → sp_to rx c d → wY_gives_116 post (nI s) (sp_u c) (sp_u d) (nI b) (nI cr) (nI cs) ws gu gp bu kl kn rf rs rx rl rn sf sn sl wd ot)
    (h0 : ¬ (¬ z0 = 0 ∧ sp_al cr rs rf sf s d 0 ∧ sp_to rx c d) → post 0 ((nI b), (nI cr), (nI cs), ws, gu, gp, bu, kl, kn, rf, rs, rx, rl, rn, sf, sn, sl, wd, ot)) :
    wY_gives_37 post (nI s) (sp_u c) (sp_u d) z0 (nI b) (nI cr) (nI cs) ws gu gp bu kl kn rf rs rx rl rn sf sn sl wd ot := by
  have g1 : sp_al cr rs rf sf s d 0 → wY_gives_71 post (nI s) (sp_u c) (sp_u d) z0 (nI b) (nI cr) (nI cs) ws gu gp bu kl kn rf rs rx rl rn sf sn sl wd ot := by
    intro ha
    unfold wY_gives_71
    exact sp_g76Y (by omega) (by omega) (fun e4 _ t => h1 e4 ha t) (fun z => h0 (fun y => z ⟨y.1, by decide, y.2.2⟩))
  have g0 : ¬ sp_al cr rs rf sf s d 0 → wY_gives_75 post (nI s) (sp_u c) (sp_u d) z0 (nI b) (nI cr) (nI cs) ws gu gp bu kl kn rf rs rx rl rn sf sn sl wd ot := by
    intro ha
    unfold wY_gives_75
    exact sp_g76Y (by omega) (by omega) (fun _ e _ => absurd rfl e) (fun z => h0 (fun y => ha y.2.1))
  unfold wY_gives_37
  refine sp_u_neg d (by omega) (fun e => g1 (Or.inl e)) (fun r e => ?_)
  subst e
  rw [sp_us] at *
  rw [nI_clamp (by omega), nI_clamp (by omega)]
  refine ⟨vp_in_nI (by omega) (by omega), br_c (fun e => ⟨vp_in_nI (by omega) (by omega), vp_in_nI (by omega) (by omega), br_c (fun e2 => g1 (Or.inr ⟨hd, e, e2⟩)) (fun e2 => g0 ?_)⟩) (fun e => g0 ?_)⟩
  · rintro (z | z)
    · omega
    · exact e2 z.2.2
  · rintro (z | z)
    · omega
    · exact e z.2.1
theorem sp_gvY {post : Int32 → SY → Prop} {b cr cs : Nat} {ws gu gp : Int32} {bu kl kn rl rn rf rs rx sl sn sf wd ot : Nat → Int32} {s c d : Nat} (hb : b ≤ 12) (hcr : cr ≤ 10) (hB : sp_B rn 3) (hS : sp_B sn 12) (hR : ∀ i, rs i = 0 ∨ rs i = 1) (hs : s < 12) (hc : c ≤ cr) (hd : d ≤ cr)
    (h1 : 0 < b → sp_G b cr bu rl rn rf rs rx sl sn sf s c d → ∀ (ws : Int32) (wd ot : Nat → Int32), post 1 ((nI b), (nI cr), (nI cs), ws, gu, gp, bu, kl, kn, rf, rs, rx, rl, rn, sf, sn, sl, wd, ot))
    (h0 : ¬ (0 < b ∧ sp_G b cr bu rl rn rf rs rx sl sn sf s c d) → ∀ (ws : Int32) (wd ot : Nat → Int32), post 0 ((nI b), (nI cr), (nI cs), ws, gu, gp, bu, kl, kn, rf, rs, rx, rl, rn, sf, sn, sl, wd, ot)) :
    wpY_gives post ((nI b), (nI cr), (nI cs), ws, gu, gp, bu, kl, kn, rf, rs, rx, rl, rn, sf, sn, sl, wd, ot) (nI s) (sp_u c) (sp_u d) := by
  have g1 : sp_al cr rs rf sf s c 1 → wY_gives_32 post (nI s) (sp_u c) (sp_u d) (nI b) (nI cr) (nI cs) ws gu gp bu kl kn rf rs rx rl rn sf sn sl wd ot := by
    intro ha
    unfold wY_gives_32
    refine sp_g37Y hs hcr hc hd (fun _ hb' ht => ?_) (fun z => h0 (fun y => z ⟨by decide, y.2.1.2.1, y.2.1.2.2⟩) _ _ _)
    refine sp_g116Y hb hB hS hs (by omega) (by omega) ?_ ?_ (fun hz g => h1 hz ⟨⟨ha, hb', ht⟩, g⟩) (fun z => h0 (fun y => z ⟨y.1, y.2.2⟩))
    · rcases ha with z | z
      · exact Or.inl z
      · exact Or.inr z.2.1
    · rcases hb' with z | z
      · exact Or.inl z
      · exact Or.inr z.2.1
  have g0 : ¬ sp_al cr rs rf sf s c 1 → wY_gives_36 post (nI s) (sp_u c) (sp_u d) (nI b) (nI cr) (nI cs) ws gu gp bu kl kn rf rs rx rl rn sf sn sl wd ot := by
    intro ha
    unfold wY_gives_36
    exact sp_g37Y hs hcr hc hd (fun e _ _ => absurd rfl e) (fun z => h0 (fun y => ha y.2.1.1) _ _ _)
  refine sp_u_neg c (by omega) (fun e => g1 (Or.inl e)) (fun r e => ?_)
  subst e
  rw [sp_us] at *
  rw [nI_clamp (by omega), nI_clamp (by omega)]
  refine ⟨vp_in_nI (by omega) (by omega), br_c (fun e => g0 ?_) (fun e => ⟨vp_in_nI (by omega) (by omega), vp_in_nI (by omega) (by omega), br_c (fun e2 => g1 (Or.inr ⟨hc, ?_, e2⟩)) (fun e2 => g0 ?_)⟩)⟩
  · rintro (z | z)
    · omega
    · have := z.2.1
      rw [show r + 1 - 1 = r by omega, e] at this
      exact absurd this (by decide)
  · rcases hR r with z | z
    · exact absurd z e
    · exact z
  · rintro (z | z)
    · omega
    · exact e2 z.2.2
end
section
/-- the reference's two finds, over the codes of stem s below m -/
def sp_F (Q : Nat → Prop) (s : Nat) (x : Int32) (m : Nat) (gu gp : Int32) : Prop := ∀ a, s * 121 ≤ a → a < m → Q a → nI (sp_c Q a - sp_c Q (s * 121)) = x → gu = sp_v (a / 11 % 11) ∧ gp = sp_v (a % 11)
theorem sp_P_hi {b cr a : Nat} {bu rl rn rf rs rx sl sn sf : Nat → Int32} (h : sp_P b cr bu rl rn rf rs rx sl sn sf a) : a / 11 % 11 ≤ cr ∧ a % 11 ≤ cr := by
  obtain ⟨⟨h1, h2, _⟩, _⟩ := h
  constructor
  · rcases h1 with z | z
    · omega
    · exact z.1
  · rcases h2 with z | z
    · omega
    · exact z.1
theorem sp_F_skip {Q : Nat → Prop} {s m m' : Nat} {x gu gp : Int32} (h : sp_F Q s x m gu gp) (hn : ∀ k, m ≤ k → k < m' → ¬ Q k) : sp_F Q s x m' gu gp := by
  intro a h1 h2 hq
  by_cases z : a < m
  · exact h a h1 z hq
  · exact absurd hq (hn a (by omega) h2)
theorem sp_F_no {Q : Nat → Prop} {s m : Nat} {x gu gp : Int32} (h : sp_F Q s x m gu gp) (hn : ¬ nI (sp_c Q m - sp_c Q (s * 121)) = x) : sp_F Q s x (m + 1) gu gp := by
  intro a h1 h2 hq e
  by_cases z : a = m
  · rw [z] at e; exact absurd e hn
  · exact h a h1 (by omega) hq e
theorem sp_F_yes {Q : Nat → Prop} {s m : Nat} {x : Int32} (hm : s * 121 ≤ m) (hM : m < 2 ^ 31) (hQ : Q m) (he : nI (sp_c Q m - sp_c Q (s * 121)) = x) : sp_F Q s x (m + 1) (sp_v (m / 11 % 11)) (sp_v (m % 11)) := by
  intro a h1 h2 hq e
  have k1 := sp_c_le Q m
  have k2 := sp_c_le Q a
  have k3 := sp_c_mono Q hm
  have k4 := sp_c_mono Q h1
  rw [← he] at e
  have e := (nI_eq (by omega) (by omega)).mp e
  have : a = m := sp_c_uniq hq hQ (by omega)
  rw [this]
  exact ⟨rfl, rfl⟩
theorem sp_o17Y {post : Int32 → SY → Prop} {J : Int32 → Int32 → Int32 → Int32 → Int32 → Int32 → Int32 → Int32 → (Nat → Int32) → (Nat → Int32) → (Nat → Int32) → (Nat → Int32) → (Nat → Int32) → (Nat → Int32) → (Nat → Int32) → (Nat → Int32) → (Nat → Int32) → (Nat → Int32) → (Nat → Int32) → (Nat → Int32) → (Nat → Int32) → Prop} {b cr cs : Nat} {bu kl kn rl rn rf rs rx sl sn sf : Nat → Int32} {Q : Nat → Prop} {x : Int32} {s c : Nat} (hb : b ≤ 12) (hcr : cr ≤ 10) (hB : sp_B rn 3) (hS : sp_B sn 12) (hR : ∀ i, rs i = 0 ∨ rs i = 1) (hs : s < 12) (hc : c ≤ cr)
    (hQ : ∀ a, Q a ↔ (0 < b ∧ sp_P b cr bu rl rn rf rs rx sl sn sf a))
    (hJ : ∀ (ws gu gp : Int32) (wd ot : Nat → Int32), sp_F Q s x (s * 121 + c * 11 + 11) gu gp → J (nI (sp_c Q (s * 121 + c * 11 + 11) - sp_c Q (s * 121))) (sp_u (c + 1)) (nI b) (nI cr) (nI cs) ws gu gp bu kl kn rf rs rx rl rn sf sn sl wd ot) :
    ∀ m d : Nat, d ≤ cr + 1 → cr + 1 - d < m → ∀ (ws gu gp : Int32) (wd ot : Nat → Int32), sp_F Q s x (s * 121 + c * 11 + d) gu gp → wY_ofStem_17 post J (nI s) x (sp_u c) m (nI (sp_c Q (s * 121 + c * 11 + d) - sp_c Q (s * 121))) (sp_u d) (nI b) (nI cr) (nI cs) ws gu gp bu kl kn rf rs rx rl rn sf sn sl wd ot := by
  intro m
  induction m with
  | zero => intro i _ h; omega
  | succ m ih =>
    intro d hd hm ws gu gp wd ot hF
    refine sp_u_le cr d (by omega) (by omega) (fun h => nm_r (sp_u1 c) ?_) (fun h => ?_)
    · have sk : ∀ k, s * 121 + c * 11 + d ≤ k → k < s * 121 + c * 11 + 11 → ¬ Q k := by
        intro k h1 h2 hq
        have := (sp_P_hi ((hQ k).mp hq).2).2
        omega
      have := hJ ws gu gp wd ot (sp_F_skip hF sk)
      rw [sp_c_skip (m := s * 121 + c * 11 + d) (by omega) sk] at this
      exact this
    · have q1 : (s * 121 + c * 11 + d) / 121 = s := by omega
      have q2 : (s * 121 + c * 11 + d) / 11 % 11 = c := by omega
      have q3 : (s * 121 + c * 11 + d) % 11 = d := by omega
      have hq : Q (s * 121 + c * 11 + d) ↔ (0 < b ∧ sp_G b cr bu rl rn rf rs rx sl sn sf s c d) := by
        rw [hQ]
        unfold sp_P
        rw [q1, q2, q3]
      refine sp_gvY hb hcr hB hS hR hs hc h (fun hz g ws wd ot => ?_) (fun g ws wd ot => ?_)
      · have hy : Q (s * 121 + c * 11 + d) := hq.mpr ⟨hz, g⟩
        have k3 : sp_c Q (s * 121) ≤ sp_c Q (s * 121 + c * 11 + d) := sp_c_mono Q (by omega)
        have ec : nI (sp_c Q (s * 121 + c * 11 + d) - sp_c Q (s * 121)) + 1 = nI (sp_c Q (s * 121 + c * 11 + d + 1) - sp_c Q (s * 121)) := by
          rw [nI_1, sp_c_t hy]
          exact congrArg nI (by omega)
        refine br_f (by decide) (br_c (fun e => ?_) (fun e => nm_r ec (nm_r (sp_u1 d) (ih (d + 1) (by omega) (by omega) _ _ _ _ _ (sp_F_no hF e)))))
        have hF2 := sp_F_yes (by omega) (by omega) hy e
        rw [q2, q3] at hF2
        have fin : ∀ z0 : Int32, z0 = sp_v c → wY_ofStem_56 post J (wY_ofStem_17 post J (nI s) x (sp_u c) m) (nI s) x (nI (sp_c Q (s * 121 + c * 11 + d) - sp_c Q (s * 121))) (sp_u c) (sp_u d) z0 (nI b) (nI cr) (nI cs) ws gu gp bu kl kn rf rs rx rl rn sf sn sl wd ot := by
          intro z0 ez
          subst ez
          unfold wY_ofStem_56
          cases d with
          | zero => exact br_f (by decide) (nm_r ec (nm_r (sp_u1 0) (ih 1 (by omega) (by omega) _ _ _ _ _ hF2)))
          | succ q =>
            refine br_t (by rw [sp_us]; exact nI_pos' (by omega)) (nm_r ec (nm_r (sp_u1 (q + 1)) (ih (q + 2) (by omega) (by omega) _ _ _ _ _ ?_)))
            rw [sp_vs q, ← sp_us q] at hF2
            exact hF2
        by_cases z : c = 0
        · refine br_f (by rw [z]; decide) (fin _ (by rw [z]; rfl))
        · refine br_t ?_ (fin _ ?_)
          · obtain ⟨q, rfl⟩ : ∃ q, c = q + 1 := ⟨c - 1, by omega⟩
            rw [sp_us]; exact nI_pos' (by omega)
          · obtain ⟨q, rfl⟩ : ∃ q, c = q + 1 := ⟨c - 1, by omega⟩
            rw [sp_us, sp_vs]
      · have hy : ¬ Q (s * 121 + c * 11 + d) := fun y => g (hq.mp y)
        refine br_t rfl (nm_r (sp_u1 d) ?_)
        rw [← sp_c_f hy]
        refine ih (d + 1) (by omega) (by omega) _ _ _ _ _ (sp_F_skip hF ?_)
        intro k h1 h2
        rw [show k = s * 121 + c * 11 + d by omega]
        exact hy
theorem sp_o5Y {post : Int32 → SY → Prop} {b cr cs : Nat} {bu kl kn rl rn rf rs rx sl sn sf : Nat → Int32} {Q : Nat → Prop} {x : Int32} {s : Nat} (hb : b ≤ 12) (hcr : cr ≤ 10) (hB : sp_B rn 3) (hS : sp_B sn 12) (hR : ∀ i, rs i = 0 ∨ rs i = 1) (hs : s < 12)
    (hQ : ∀ a, Q a ↔ (0 < b ∧ sp_P b cr bu rl rn rf rs rx sl sn sf a))
    (h : ∀ (ws gu gp : Int32) (wd ot : Nat → Int32), sp_F Q s x (s * 121 + 121) gu gp → post (nI (sp_c Q (s * 121 + 121) - sp_c Q (s * 121))) ((nI b), (nI cr), (nI cs), ws, gu, gp, bu, kl, kn, rf, rs, rx, rl, rn, sf, sn, sl, wd, ot)) :
    ∀ m c : Nat, c ≤ cr + 1 → cr + 1 - c < m → ∀ (ws gu gp : Int32) (wd ot : Nat → Int32), sp_F Q s x (s * 121 + c * 11) gu gp → wY_ofStem_5 post (nI s) x m (nI (sp_c Q (s * 121 + c * 11) - sp_c Q (s * 121))) (sp_u c) (nI b) (nI cr) (nI cs) ws gu gp bu kl kn rf rs rx rl rn sf sn sl wd ot := by
  intro m
  induction m with
  | zero => intro i _ h; omega
  | succ m ih =>
    intro c hc hm ws gu gp wd ot hF
    refine sp_u_le cr c (by omega) (by omega) (fun h2 => ?_) (fun h2 => ⟨cr + 2, ?_⟩)
    · have sk : ∀ k, s * 121 + c * 11 ≤ k → k < s * 121 + 121 → ¬ Q k := by
        intro k h1 h2 hq
        have := (sp_P_hi ((hQ k).mp hq).2).1
        omega
      have := h ws gu gp wd ot (sp_F_skip hF sk)
      rw [sp_c_skip (m := s * 121 + c * 11) (by omega) sk] at this
      exact this
    · refine sp_o17Y hb hcr hB hS hR hs h2 hQ (fun ws gu gp wd ot hF => ?_) (cr + 2) 0 (by omega) (by omega) _ _ _ _ _ hF
      rw [show s * 121 + c * 11 + 11 = s * 121 + (c + 1) * 11 by omega] at *
      exact ih (c + 1) (by omega) (by omega) _ _ _ _ _ hF
theorem sp_ofY {post : Int32 → SY → Prop} {b cr cs : Nat} {ws gu gp : Int32} {bu kl kn rl rn rf rs rx sl sn sf wd ot : Nat → Int32} {Q : Nat → Prop} {x : Int32} {s : Nat} (hb : b ≤ 12) (hcr : cr ≤ 10) (hB : sp_B rn 3) (hS : sp_B sn 12) (hR : ∀ i, rs i = 0 ∨ rs i = 1) (hs : s < 12)
    (hQ : ∀ a, Q a ↔ (0 < b ∧ sp_P b cr bu rl rn rf rs rx sl sn sf a))
    (h : ∀ (ws gu gp : Int32) (wd ot : Nat → Int32), sp_F Q s x (s * 121 + 121) gu gp → post (nI (sp_c Q (s * 121 + 121) - sp_c Q (s * 121))) ((nI b), (nI cr), (nI cs), ws, gu, gp, bu, kl, kn, rf, rs, rx, rl, rn, sf, sn, sl, wd, ot)) :
    wpY_ofStem post ((nI b), (nI cr), (nI cs), ws, gu, gp, bu, kl, kn, rf, rs, rx, rl, rn, sf, sn, sl, wd, ot) (nI s) x := by
  refine ⟨cr + 2, ?_⟩
  have := sp_o5Y hb hcr hB hS hR hs hQ h (cr + 2) 0 (by omega) (by omega) ws gu gp wd ot (fun a h1 h2 => by omega)
  rw [show s * 121 + 0 * 11 = s * 121 by omega, Nat.sub_self, sp_u0] at this
  exact this
theorem sp_fiYl {post : Int32 → SY → Prop} {b cr cs : Nat} {bu kl kn rl rn rf rs rx sl sn sf : Nat → Int32} {Q : Nat → Prop} {j : Nat} (hj : j < 2 ^ 31) (hb : b ≤ 12) (hcr : cr ≤ 10) (hcs : cs ≤ 12) (hB : sp_B rn 3) (hS : sp_B sn 12) (hR : ∀ i, rs i = 0 ∨ rs i = 1)
    (hQ : ∀ a, Q a ↔ (0 < b ∧ sp_P b cr bu rl rn rf rs rx sl sn sf a))
    (h1 : ∀ a, a < cs * 121 → Q a → sp_c Q a = j → ∀ (ws : Int32) (wd ot : Nat → Int32), post (nI (a / 121)) ((nI b), (nI cr), (nI cs), ws, (sp_v (a / 11 % 11)), (sp_v (a % 11)), bu, kl, kn, rf, rs, rx, rl, rn, sf, sn, sl, wd, ot))
    (h0 : (∀ a, a < cs * 121 → Q a → ¬ sp_c Q a = j) → ∀ (ws gu gp : Int32) (wd ot : Nat → Int32), post (-6) ((nI b), (nI cr), (nI cs), ws, gu, gp, bu, kl, kn, rf, rs, rx, rl, rn, sf, sn, sl, wd, ot)) :
    ∀ m s : Nat, s ≤ cs → cs - s < m → sp_c Q (s * 121) ≤ j → ∀ (ws gu gp : Int32) (wd ot : Nat → Int32), wY_find_16 post (nI j) m (nI (sp_c Q (s * 121))) (nI s) (nI b) (nI cr) (nI cs) ws gu gp bu kl kn rf rs rx rl rn sf sn sl wd ot := by
  intro m
  induction m with
  | zero => intro i _ h; omega
  | succ m ih =>
    intro s hs hm hle ws gu gp wd ot
    have k0 := sp_c_le Q (s * 121)
    refine pk_le cs s (fun h => h0 (fun a ha hq e => ?_) _ _ _ _ _) (fun h => pk_le (sp_c Q (s * 121)) j (fun h2 => ?_) (fun h2 => by omega))
    · have := sp_c_lt hq ha
      rw [show s = cs by omega] at hle
      omega
    · rw [pk_sub hle]
      refine sp_ofY hb hcr hB hS hR (by omega) hQ (fun ws gu gp wd ot hF => ?_)
      have k1 := sp_c_le Q (s * 121 + 121)
      have k2 : sp_c Q (s * 121) ≤ sp_c Q (s * 121 + 121) := sp_c_mono Q (by omega)
      have es : nI (sp_c Q (s * 121)) + nI (sp_c Q (s * 121 + 121) - sp_c Q (s * 121)) = nI (sp_c Q (s * 121 + 121)) := by
        rw [nI_add]; exact congrArg nI (by omega)
      show wY_find_41 _ _ _ _ _ _ (nI b) (nI cr) (nI cs) ws gu gp bu kl kn rf rs rx rl rn sf sn sl wd ot
      unfold wY_find_41
      rw [es]
      refine br_f (nI_nlt hle hj) (pk_le (sp_c Q (s * 121 + 121)) j (fun h3 => nm_e (nm_r (nI_1 s) ?_)) (fun h3 => ?_))
      · rw [show s * 121 + 121 = (s + 1) * 121 by omega] at *
        exact ih (s + 1) (by omega) (by omega) h3 _ _ _ _ _
      · obtain ⟨a, a1, a2, a3, a4⟩ := sp_c_ex hle h3
        obtain ⟨e1, e2⟩ := hF a a1 a2 a3 (by rw [a4])
        have := h1 a (by omega) a3 a4 ws wd ot
        rw [← e1, ← e2, show a / 121 = s by omega] at this
        exact this
theorem sp_fiYn {post : Int32 → SY → Prop} {b cr cs : Nat} {ws gu gp : Int32} {bu kl kn rl rn rf rs rx sl sn sf wd ot : Nat → Int32} {v : Int32} (hv : v < 0) (hcs : cs ≤ 12) (h : post (-6) ((nI b), (nI cr), (nI cs), ws, gu, gp, bu, kl, kn, rf, rs, rx, rl, rn, sf, sn, sl, wd, ot)) : ∀ m s : Nat, s ≤ cs → cs - s < m → wY_find_16 post v m 0 (nI s) (nI b) (nI cr) (nI cs) ws gu gp bu kl kn rf rs rx rl rn sf sn sl wd ot := by
  intro m
  induction m with
  | zero => intro i _ h; omega
  | succ m ih =>
    intro s hs hm
    refine pk_le cs s (fun _ => h) (fun h2 => br_f (Int32.not_le.mpr hv) ?_)
    unfold wY_find_41
    exact br_t hv (nm_r (show (0 : Int32) + 0 = 0 from rfl) (nm_r (nI_1 s) (ih (s + 1) (by omega) (by omega))))
theorem sp_fiY {post : Int32 → SY → Prop} {b cr cs : Nat} {ws gu gp : Int32} {bu kl kn rl rn rf rs rx sl sn sf wd ot : Nat → Int32} {Q : Nat → Prop} {v : Int32} (hb : b ≤ 12) (hcr : cr ≤ 10) (hcs : cs ≤ 12) (hB : sp_B rn 3) (hS : sp_B sn 12) (hR : ∀ i, rs i = 0 ∨ rs i = 1)
    (hQ : ∀ a, Q a ↔ (0 < b ∧ sp_P b cr bu rl rn rf rs rx sl sn sf a))
    (h1 : ∀ a, a < cs * 121 → Q a → nI (sp_c Q a) = v → ∀ (ws : Int32) (wd ot : Nat → Int32), post (nI (a / 121)) ((nI b), (nI cr), (nI cs), ws, (sp_v (a / 11 % 11)), (sp_v (a % 11)), bu, kl, kn, rf, rs, rx, rl, rn, sf, sn, sl, wd, ot))
    (h0 : (∀ a, a < cs * 121 → Q a → ¬ nI (sp_c Q a) = v) → ∀ (ws gu gp : Int32) (wd ot : Nat → Int32), post (-6) ((nI b), (nI cr), (nI cs), ws, gu, gp, bu, kl, kn, rf, rs, rx, rl, rn, sf, sn, sl, wd, ot)) :
    wpY_find post ((nI b), (nI cr), (nI cs), ws, gu, gp, bu, kl, kn, rf, rs, rx, rl, rn, sf, sn, sl, wd, ot) v := by
  refine ⟨cs + 1, ?_⟩
  by_cases hv : v < 0
  · refine sp_fiYn hv hcs (h0 (fun a ha hq e => ?_) _ _ _ _ _) (cs + 1) 0 (by omega) (by omega)
    have k := sp_c_le Q a
    rw [← e] at hv
    exact absurd hv (nI_pos (by omega))
  · obtain ⟨j, hj, rfl⟩ := nI_of hv
    refine sp_fiYl hj hb hcr hcs hB hS hR hQ (fun a ha hq e => h1 a ha hq (by rw [e])) (fun H => h0 (fun a ha hq e => H a ha hq ?_)) (cs + 1) 0 (by omega) (by omega) (Nat.zero_le _) _ _ _ _ _
    have k := sp_c_le Q a
    exact (nI_eq (by omega) hj).mp e
theorem sp_dnYl {post : Int32 → SY → Prop} {b cr cs : Nat} {bu kl kn rl rn rf rs rx sl sn sf : Nat → Int32} {Q : Nat → Prop} (hb : b ≤ 12) (hcr : cr ≤ 10) (hcs : cs ≤ 12) (hB : sp_B rn 3) (hS : sp_B sn 12) (hR : ∀ i, rs i = 0 ∨ rs i = 1)
    (hQ : ∀ a, Q a ↔ (0 < b ∧ sp_P b cr bu rl rn rf rs rx sl sn sf a))
    (h : ∀ (ws gu gp : Int32) (wd ot : Nat → Int32), post (nI (sp_c Q (cs * 121))) ((nI b), (nI cr), (nI cs), ws, gu, gp, bu, kl, kn, rf, rs, rx, rl, rn, sf, sn, sl, wd, ot)) :
    ∀ m s : Nat, s ≤ cs → cs - s < m → ∀ (ws gu gp : Int32) (wd ot : Nat → Int32), wY_derivations_4 post m (nI (sp_c Q (s * 121))) (nI s) (nI b) (nI cr) (nI cs) ws gu gp bu kl kn rf rs rx rl rn sf sn sl wd ot := by
  intro m
  induction m with
  | zero => intro i _ h; omega
  | succ m ih =>
    intro s hs hm ws gu gp wd ot
    refine pk_le cs s (fun h2 => ?_) (fun h2 => ?_)
    · rw [show s = cs by omega]; exact h _ _ _ _ _
    · refine sp_ofY hb hcr hB hS hR (by omega) hQ (fun ws gu gp wd ot hF => ?_)
      have k2 : sp_c Q (s * 121) ≤ sp_c Q (s * 121 + 121) := sp_c_mono Q (by omega)
      have es : nI (sp_c Q (s * 121)) + nI (sp_c Q (s * 121 + 121) - sp_c Q (s * 121)) = nI (sp_c Q ((s + 1) * 121)) := by
        rw [nI_add, show (s + 1) * 121 = s * 121 + 121 by omega]; exact congrArg nI (by omega)
      exact nm_r es (nm_r (nI_1 s) (ih (s + 1) (by omega) (by omega) _ _ _ _ _))
theorem sp_dnY {post : Int32 → SY → Prop} {b cr cs : Nat} {ws gu gp : Int32} {bu kl kn rl rn rf rs rx sl sn sf wd ot : Nat → Int32} {Q : Nat → Prop} (hb : b ≤ 12) (hcr : cr ≤ 10) (hcs : cs ≤ 12) (hB : sp_B rn 3) (hS : sp_B sn 12) (hR : ∀ i, rs i = 0 ∨ rs i = 1)
    (hQ : ∀ a, Q a ↔ (0 < b ∧ sp_P b cr bu rl rn rf rs rx sl sn sf a))
    (h : ∀ (ws gu gp : Int32) (wd ot : Nat → Int32), post (nI (sp_c Q (cs * 121))) ((nI b), (nI cr), (nI cs), ws, gu, gp, bu, kl, kn, rf, rs, rx, rl, rn, sf, sn, sl, wd, ot)) :
    wpY_derivations post ((nI b), (nI cr), (nI cs), ws, gu, gp, bu, kl, kn, rf, rs, rx, rl, rn, sf, sn, sl, wd, ot) :=
  ⟨cs + 1, sp_dnYl hb hcr hcs hB hS hR hQ h (cs + 1) 0 (by omega) (by omega) _ _ _ _ _⟩
theorem sp_ctYl {post : Int32 → SY → Prop} {b cr cs : Nat} {bu kl kn rl rn rf rs rx sl sn sf : Nat → Int32} (hb : b < 12) (hcr : cr ≤ 10) (hcs : cs ≤ 12) (hB : sp_B rn 3) (hS : sp_B sn 12) (hR : ∀ i, rs i = 0 ∨ rs i = 1)
    (h : ∀ (ws gu gp : Int32) (wd ot : Nat → Int32), post (nI (sp_c (sp_D b cr cs bu rl rn rf rs rx sl sn sf) 8)) ((nI b), (nI cr), (nI cs), ws, gu, gp, (upd bu b (nI 8)), kl, kn, rf, rs, rx, rl, rn, sf, sn, sl, wd, ot)) :
    ∀ m k : Nat, k ≤ 8 → 8 - k < m → ∀ (ws gu gp : Int32) (wd ot bq : Nat → Int32), (∀ x, upd bq b x = upd bu b x) → (k = 8 → bq = upd bu b (nI 8)) → wY_continuations_32 post m (nI (sp_c (sp_D b cr cs bu rl rn rf rs rx sl sn sf) k)) (nI (k + 1)) (nI (b + 1)) (nI cr) (nI cs) ws gu gp bq kl kn rf rs rx rl rn sf sn sl wd ot := by
  intro m
  induction m with
  | zero => intro a _ h; omega
  | succ m ih =>
    intro k hk hm ws gu gp wd ot bq hq h8
    refine pk_le 9 (k + 1) (fun h2 => nm_r (nI_pred b) ?_) (fun h2 => ?_)
    · rw [show k = 8 by omega, h8 (by omega)]
      exact h _ _ _ _ _
    · rw [nI_pred, nI_clamp (by omega)]
      refine ⟨vp_in_nI hb (by omega), nm_r (hq _) ?_⟩
      refine sp_dnY (Q := fun a => 0 < b + 1 ∧ sp_P (b + 1) cr (upd bu b (nI (k + 1))) rl rn rf rs rx sl sn sf a) (by omega) hcr hcs hB hS hR (fun a => Iff.rfl) (fun ws gu gp wd ot => ?_)
      have kl := sp_c_le (fun a => 0 < b + 1 ∧ sp_P (b + 1) cr (upd bu b (nI (k + 1))) rl rn rf rs rx sl sn sf a) (cs * 121)
      refine pk_le (sp_c (fun a => 0 < b + 1 ∧ sp_P (b + 1) cr (upd bu b (nI (k + 1))) rl rn rf rs rx sl sn sf a) (cs * 121)) 0 (fun h3 => ?_) (fun h3 => ?_)
      · have z : ¬ sp_D b cr cs bu rl rn rf rs rx sl sn sf k := by
          rintro ⟨a, ha, hp⟩
          have := sp_c_lt (P := fun a => 0 < b + 1 ∧ sp_P (b + 1) cr (upd bu b (nI (k + 1))) rl rn rf rs rx sl sn sf a) (a := a) ⟨by omega, hp⟩ ha
          omega
        refine nm_r (nI_1 (k + 1)) ?_
        rw [← sp_c_f z]
        exact ih (k + 1) (by omega) (by omega) _ _ _ _ _ _ (fun x => sp_uu) (fun e => by rw [e])
      · have z : sp_D b cr cs bu rl rn rf rs rx sl sn sf k := by
          obtain ⟨a, _, a2, a3, _⟩ := sp_c_ex (m := 0) (j := 0) (Nat.zero_le 0) h3
          exact ⟨a, a2, a3.2⟩
        refine nm_r (e' := nI (sp_c (sp_D b cr cs bu rl rn rf rs rx sl sn sf) (k + 1))) ?_ (nm_r (nI_1 (k + 1)) (ih (k + 1) (by omega) (by omega) _ _ _ _ _ _ (fun x => sp_uu) (fun e => by rw [e])))
        rw [sp_c_t z, nI_1]
theorem sp_ctY {post : Int32 → SY → Prop} {b cr cs : Nat} {ws gu gp : Int32} {bu kl kn rl rn rf rs rx sl sn sf wd ot : Nat → Int32} (hb : b ≤ 12) (hcr : cr ≤ 10) (hcs : cs ≤ 12) (hB : sp_B rn 3) (hS : sp_B sn 12) (hR : ∀ i, rs i = 0 ∨ rs i = 1)
    (h1 : b < 12 → ¬ sp_9 b bu → ∀ (ws gu gp : Int32) (wd ot : Nat → Int32), post (nI (sp_c (sp_D b cr cs bu rl rn rf rs rx sl sn sf) 8)) ((nI b), (nI cr), (nI cs), ws, gu, gp, (upd bu b (nI 8)), kl, kn, rf, rs, rx, rl, rn, sf, sn, sl, wd, ot))
    (h0 : ¬ (b < 12 ∧ ¬ sp_9 b bu) → post 0 ((nI b), (nI cr), (nI cs), ws, gu, gp, bu, kl, kn, rf, rs, rx, rl, rn, sf, sn, sl, wd, ot)) :
    wpY_continuations post ((nI b), (nI cr), (nI cs), ws, gu, gp, bu, kl, kn, rf, rs, rx, rl, rn, sf, sn, sl, wd, ot) := by
  refine pk_eq b 12 (fun h => h0 (by omega)) (fun h => ?_)
  refine sp_nineY hb (fun z => br_f (by decide) (h0 (fun y => y.2 z))) (fun z => br_t rfl (nm_r (nI_1 b) ⟨9, ?_⟩))
  exact sp_ctYl (by omega) hcr hcs hB hS hR (h1 (by omega) z) 9 0 (by omega) (by omega) _ _ _ _ _ _ (fun x => rfl) (fun e => absurd e (by omega))
end
section
/-! the changing calls -/
theorem sp_kpXl {post : Int32 → SX → Prop} {b cr cs : Nat} {fs fe : Int32} {bu kl kn rl rn rf rs rx sl sn sf fm : Nat → Int32} {p : Nat} (hp : p < 3) (hb : b ≤ 3) (h : post (nI b) (0, (nI cr), (nI cs), fs, fe, bu, (sp_ov kl (p * 3) b bu), (upd kn p (nI b)), rl, rn, rf, rs, rx, sl, sn, sf, fm)) :
    ∀ m i : Nat, i ≤ b → b - i < m → wX_keep_45 post (nI p) (nI b) (nI b) (nI cr) (nI cs) fs fe m (nI i) bu (sp_ov kl (p * 3) i bu) kn rl rn rf rs rx sl sn sf fm := by
  intro m
  induction m with
  | zero => intro i _ h; omega
  | succ m ih =>
    intro i hi hm
    refine pk_le b i (fun h2 => And.intro (vp_in_nI (by omega) (by omega)) ?_) (fun h2 => ?_)
    · rw [show i = b by omega, nI_clamp (by omega)]
      exact nm_e h
    · rw [show nI p * 3 + nI i = nI (p * 3 + i) from sp_mi p 3 i rfl, nI_clamp (by omega), nI_clamp (by omega)]
      exact ⟨vp_in_nI (by omega) (by omega), vp_in_nI (by omega) (by omega), nm_r sp_ov_s (nm_r (nI_1 i) (ih (i + 1) (by omega) (by omega)))⟩
theorem sp_kpYl {post : Int32 → SY → Prop} {b cr cs : Nat} {ws gu gp : Int32} {bu kl kn rl rn rf rs rx sl sn sf wd ot : Nat → Int32} {p : Nat} (hp : p < 3) (hb : b ≤ 3) (h : post (nI b) (0, (nI cr), (nI cs), ws, gu, gp, bu, (sp_ov kl (p * 3) b bu), (upd kn p (nI b)), rf, rs, rx, rl, rn, sf, sn, sl, wd, ot)) :
    ∀ m i : Nat, i ≤ b → b - i < m → wY_keep_37 post (nI p) (nI b) (nI cr) (nI cs) ws gu gp m (nI i) bu (sp_ov kl (p * 3) i bu) kn rf rs rx rl rn sf sn sl wd ot := by
  intro m
  induction m with
  | zero => intro i _ h; omega
  | succ m ih =>
    intro i hi hm
    refine pk_le b i (fun h2 => And.intro (vp_in_nI (by omega) (by omega)) ?_) (fun h2 => ?_)
    · rw [show i = b by omega, nI_clamp (by omega)]
      refine nm_e ⟨vp_in_nI (by omega) (by omega), ?_⟩
      rw [pk_us]
      exact h
    · rw [show nI p * 3 + nI i = nI (p * 3 + i) from sp_mi p 3 i rfl, nI_clamp (by omega), nI_clamp (by omega)]
      exact ⟨vp_in_nI (by omega) (by omega), vp_in_nI (by omega) (by omega), nm_r sp_ov_s (nm_r (nI_1 i) (ih (i + 1) (by omega) (by omega)))⟩
theorem sp_kpX {post : Int32 → SX → Prop} {b cr cs : Nat} {fs fe : Int32} {bu kl kn rl rn rf rs rx sl sn sf fm : Nat → Int32} {p : Nat} (hp : p < 3) (hb : b ≤ 12)
    (h1 : b ≤ 3 → (p = 2 ∨ ¬ sp_9 b bu) → post (nI b) (0, (nI cr), (nI cs), fs, fe, bu, (sp_ov kl (p * 3) b bu), (upd kn p (nI b)), rl, rn, rf, rs, rx, sl, sn, sf, fm))
    (h0 : ¬ (b ≤ 3 ∧ (p = 2 ∨ ¬ sp_9 b bu)) → post (-3) ((nI b), (nI cr), (nI cs), fs, fe, bu, kl, kn, rl, rn, rf, rs, rx, sl, sn, sf, fm)) : wpX_keep post ((nI b), (nI cr), (nI cs), fs, fe, bu, kl, kn, rl, rn, rf, rs, rx, sl, sn, sf, fm) (nI p) := by
  have go : b ≤ 3 → (p = 2 ∨ ¬ sp_9 b bu) → ∃ n45 : Nat, wX_keep_45 post (nI p) (nI b) (nI b) (nI cr) (nI cs) fs fe n45 0 bu kl kn rl rn rf rs rx sl sn sf fm := by
    intro h3 h
    refine ⟨b + 1, ?_⟩
    have := sp_kpXl hp h3 (h1 h3 h) (b + 1) 0 (by omega) (by omega)
    rw [sp_ov_0] at this
    exact this
  refine br_f (nI_pos (by omega)) (pk_lt p 3 (fun _ => ?_) (fun z => by omega))
  refine pk_le b 3 (fun h3 => ?_) (fun h3 => h0 (by omega))
  refine pk_eq p 2 (fun e => go h3 (Or.inl e)) (fun e => ?_)
  exact sp_nineX hb (fun z => br_f (by decide) (h0 (fun y => y.2.elim e (fun q => q z)))) (fun z => br_t rfl (go h3 (Or.inr z)))
theorem sp_kpY {post : Int32 → SY → Prop} {b cr cs : Nat} {ws gu gp : Int32} {bu kl kn rl rn rf rs rx sl sn sf wd ot : Nat → Int32} {p : Nat} (hp : p < 3) (hb : b ≤ 12)
    (h1 : b ≤ 3 → (p = 2 ∨ ¬ sp_9 b bu) → post (nI b) (0, (nI cr), (nI cs), ws, gu, gp, bu, (sp_ov kl (p * 3) b bu), (upd kn p (nI b)), rf, rs, rx, rl, rn, sf, sn, sl, wd, ot))
    (h0 : ¬ (b ≤ 3 ∧ (p = 2 ∨ ¬ sp_9 b bu)) → post (-3) ((nI b), (nI cr), (nI cs), ws, gu, gp, bu, kl, kn, rf, rs, rx, rl, rn, sf, sn, sl, wd, ot)) : wpY_keep post ((nI b), (nI cr), (nI cs), ws, gu, gp, bu, kl, kn, rf, rs, rx, rl, rn, sf, sn, sl, wd, ot) (nI p) := by
  have go : b ≤ 3 → (p = 2 ∨ ¬ sp_9 b bu) → ∃ n37 : Nat, wY_keep_37 post (nI p) (nI b) (nI cr) (nI cs) ws gu gp n37 0 bu kl kn rf rs rx rl rn sf sn sl wd ot := by
    intro h3 h
    refine ⟨b + 1, ?_⟩
    have := sp_kpYl hp h3 (h1 h3 h) (b + 1) 0 (by omega) (by omega)
    rw [sp_ov_0] at this
    exact this
  refine br_f (nI_pos (by omega)) (pk_le p 2 (fun _ => ?_) (fun z => by omega))
  refine pk_lt 3 b (fun h3 => h0 (by omega)) (fun h3 => ?_)
  refine pk_eq p 2 (fun e => go h3 (Or.inl e)) (fun e => ?_)
  exact sp_nineY hb (fun z => br_f (by decide) (h0 (fun y => y.2.elim e (fun q => q z)))) (fun z => br_t rfl (go h3 (Or.inr z)))
theorem sp_cp2X {post : SX → Prop} {b cr cs : Nat} {fs fe : Int32} {bu kl kn rl rn rf rs rx sl sn sf fm : Nat → Int32} {r : Nat} (hr : r < 10) (h : post ((nI b), (nI cr), (nI cs), fs, fe, bu, kl, kn, rl, (sp_ov rn (r * 3) 3 kn), rf, rs, rx, sl, sn, sf, fm)) :
    ∀ m i : Nat, i ≤ 3 → 3 - i < m → wX_copyKeptParts_33 post (nI r) (nI b) (nI cr) (nI cs) fs fe m (nI i) bu kl kn rl (sp_ov rn (r * 3) i kn) rf rs rx sl sn sf fm := by
  intro m
  induction m with
  | zero => intro i _ h; omega
  | succ m ih =>
    intro i hi hm
    refine pk_le 3 i (fun h2 => ?_) (fun h2 => ?_)
    · rw [show i = 3 by omega]; exact h
    · rw [show nI r * 3 + nI i = nI (r * 3 + i) from sp_mi r 3 i rfl, nI_clamp (by omega), nI_clamp (by omega)]
      exact ⟨vp_in_nI (by omega) (by omega), vp_in_nI (by omega) (by omega), nm_r sp_ov_s (nm_r (nI_1 i) (ih (i + 1) (by omega) (by omega)))⟩
theorem sp_cp1X {post : SX → Prop} {b cr cs : Nat} {fs fe : Int32} {bu kl kn rl rn rf rs rx sl sn sf fm : Nat → Int32} {r : Nat} (hr : r < 10) (h : post ((nI b), (nI cr), (nI cs), fs, fe, bu, kl, kn, (sp_ov rl (r * 9) 9 kl), (sp_ov rn (r * 3) 3 kn), rf, rs, rx, sl, sn, sf, fm)) :
    ∀ m i : Nat, i ≤ 9 → 9 - i < m → wX_copyKeptParts_2 post (nI r) (nI b) (nI cr) (nI cs) fs fe m (nI i) bu kl kn (sp_ov rl (r * 9) i kl) rn rf rs rx sl sn sf fm := by
  intro m
  induction m with
  | zero => intro i _ h; omega
  | succ m ih =>
    intro i hi hm
    refine pk_le 9 i (fun h2 => ?_) (fun h2 => ?_)
    · rw [show i = 9 by omega]
      refine ⟨4, ?_⟩
      have := sp_cp2X hr h 4 0 (by omega) (by omega)
      rw [sp_ov_0] at this
      exact this
    · rw [show nI r * 9 + nI i = nI (r * 9 + i) from sp_mi r 9 i rfl, nI_clamp (by omega), nI_clamp (by omega)]
      exact ⟨vp_in_nI (by omega) (by omega), vp_in_nI (by omega) (by omega), nm_r sp_ov_s (nm_r (nI_1 i) (ih (i + 1) (by omega) (by omega)))⟩
theorem sp_cpX {post : SX → Prop} {b cr cs : Nat} {fs fe : Int32} {bu kl kn rl rn rf rs rx sl sn sf fm : Nat → Int32} {r : Nat} (hr : r < 10) (h : post ((nI b), (nI cr), (nI cs), fs, fe, bu, kl, kn, (sp_ov rl (r * 9) 9 kl), (sp_ov rn (r * 3) 3 kn), rf, rs, rx, sl, sn, sf, fm)) : wpX_copyKeptParts post ((nI b), (nI cr), (nI cs), fs, fe, bu, kl, kn, rl, rn, rf, rs, rx, sl, sn, sf, fm) (nI r) := by
  refine ⟨10, ?_⟩
  have := sp_cp1X hr h 10 0 (by omega) (by omega)
  rw [sp_ov_0] at this
  exact this
theorem sp_ru2Y {post : Int32 → SY → Prop} {b cr cs : Nat} {ws gu gp : Int32} {bu kl kn rl rn rf rs rx sl sn sf wd ot : Nat → Int32} (hr : cr < 10) (h : post (nI cr) ((nI b), (nI (cr + 1)), (nI cs), ws, gu, gp, bu, kl, kn, rf, rs, rx, rl, (sp_ov rn (cr * 3) 3 kn), sf, sn, sl, wd, ot)) :
    ∀ m i : Nat, i ≤ 3 → 3 - i < m → wY_rule_96 post (nI b) (nI cr) (nI cs) ws gu gp m (nI i) bu kl kn rf rs rx rl (sp_ov rn (cr * 3) i kn) sf sn sl wd ot := by
  intro m
  induction m with
  | zero => intro i _ h; omega
  | succ m ih =>
    intro i hi hm
    refine pk_le 3 i (fun h2 => nm_r (nI_1 cr) ?_) (fun h2 => ?_)
    · rw [show i = 3 by omega, nI_pred]; exact h
    · rw [show nI cr * 3 + nI i = nI (cr * 3 + i) from sp_mi cr 3 i rfl, nI_clamp (by omega), nI_clamp (by omega)]
      exact ⟨vp_in_nI (by omega) (by omega), vp_in_nI (by omega) (by omega), nm_r sp_ov_s (nm_r (nI_1 i) (ih (i + 1) (by omega) (by omega)))⟩
theorem sp_ru1Y {post : Int32 → SY → Prop} {b cr cs : Nat} {ws gu gp : Int32} {bu kl kn rl rn rf rs rx sl sn sf wd ot : Nat → Int32} (hr : cr < 10) (h : post (nI cr) ((nI b), (nI (cr + 1)), (nI cs), ws, gu, gp, bu, kl, kn, rf, rs, rx, (sp_ov rl (cr * 9) 9 kl), (sp_ov rn (cr * 3) 3 kn), sf, sn, sl, wd, ot)) :
    ∀ m i : Nat, i ≤ 9 → 9 - i < m → wY_rule_58 post (nI b) (nI cr) (nI cs) ws gu gp m (nI i) bu kl kn rf rs rx (sp_ov rl (cr * 9) i kl) rn sf sn sl wd ot := by
  intro m
  induction m with
  | zero => intro i _ h; omega
  | succ m ih =>
    intro i hi hm
    refine pk_le 9 i (fun h2 => ?_) (fun h2 => ?_)
    · rw [show i = 9 by omega]
      refine ⟨4, ?_⟩
      have := sp_ru2Y hr h 4 0 (by omega) (by omega)
      rw [sp_ov_0] at this
      exact this
    · rw [show nI cr * 9 + nI i = nI (cr * 9 + i) from sp_mi cr 9 i rfl, nI_clamp (by omega), nI_clamp (by omega)]
      exact ⟨vp_in_nI (by omega) (by omega), vp_in_nI (by omega) (by omega), nm_r sp_ov_s (nm_r (nI_1 i) (ih (i + 1) (by omega) (by omega)))⟩
theorem sp_smXl {post : Int32 → SX → Prop} {b cr cs : Nat} {fs fe : Int32} {bu kl kn rl rn rf rs rx sl sn sf fm : Nat → Int32} {v : Int32} (hs : cs < 12) (hb : b ≤ 12) (h : post (nI cs) (0, (nI cr), (nI (cs + 1)), fs, fe, bu, kl, kn, rl, rn, rf, rs, rx, (sp_ov sl (cs * 12) b bu), (upd sn cs (nI b)), (upd sf cs (v &&& 255)), fm)) :
    ∀ m i : Nat, i ≤ b → b - i < m → wX_stem_29 post v (nI cs) (nI b) (nI cr) (nI cs) fs fe m (nI i) bu kl kn rl rn rf rs rx (sp_ov sl (cs * 12) i bu) sn sf fm := by
  intro m
  induction m with
  | zero => intro i _ h; omega
  | succ m ih =>
    intro i hi hm
    refine pk_le b i (fun h2 => ?_) (fun h2 => ?_)
    · rw [show i = b by omega, nI_clamp (by omega)]
      exact ⟨vp_in_nI (by omega) (by omega), nm_e ⟨vp_in_nI (by omega) (by omega), nm_e (nm_r (nI_1 cs) h)⟩⟩
    · rw [show nI cs * 12 + nI i = nI (cs * 12 + i) from sp_mi cs 12 i rfl, nI_clamp (by omega), nI_clamp (by omega)]
      exact ⟨vp_in_nI (by omega) (by omega), vp_in_nI (by omega) (by omega), nm_r sp_ov_s (nm_r (nI_1 i) (ih (i + 1) (by omega) (by omega)))⟩
theorem sp_smYl {post : Int32 → SY → Prop} {b cr cs : Nat} {ws gu gp : Int32} {bu kl kn rl rn rf rs rx sl sn sf wd ot : Nat → Int32} {v : Int32} (hs : cs < 12) (hb : b ≤ 12) (h : post (nI cs) (0, (nI cr), (nI (cs + 1)), ws, gu, gp, bu, kl, kn, rf, rs, rx, rl, rn, (upd sf cs (v &&& 255)), (upd sn cs (nI b)), (sp_ov sl (cs * 12) b bu), wd, ot)) :
    ∀ m i : Nat, i ≤ b → b - i < m → wY_stem_31 post v (nI b) (nI cr) (nI cs) ws gu gp m (nI i) bu kl kn rf rs rx rl rn sf sn (sp_ov sl (cs * 12) i bu) wd ot := by
  intro m
  induction m with
  | zero => intro i _ h; omega
  | succ m ih =>
    intro i hi hm
    refine pk_le b i (fun h2 => ?_) (fun h2 => ?_)
    · rw [show i = b by omega, nI_clamp (by omega)]
      refine ⟨vp_in_nI (by omega) (by omega), nm_e ⟨vp_in_nI (by omega) (by omega), nm_e (nm_r (nI_1 cs) ?_)⟩⟩
      rw [nI_pred]
      exact h
    · rw [show nI cs * 12 + nI i = nI (cs * 12 + i) from sp_mi cs 12 i rfl, nI_clamp (by omega), nI_clamp (by omega)]
      exact ⟨vp_in_nI (by omega) (by omega), vp_in_nI (by omega) (by omega), nm_r sp_ov_s (nm_r (nI_1 i) (ih (i + 1) (by omega) (by omega)))⟩
/-! what both states keep -/
def sp_Inv (b cr cs : Nat) (kl kn rl rn rs sl sn : Nat → Int32) : Prop :=
  b ≤ 12 ∧ cr ≤ 10 ∧ cs ≤ 12 ∧ sp_B kn 3 ∧ sp_B rn 3 ∧ sp_B sn 12 ∧ (∀ i, rs i = 0 ∨ rs i = 1) ∧ (∀ i, i < sp_n kn 1 → kl (1 * 3 + i) ≠ 9) ∧ (∀ r, r < cr → ∀ i, i < sp_n rn (r * 3 + 1) → rl (r * 9 + 1 * 3 + i) ≠ 9) ∧ (∀ s, s < cs → ∀ i, i < sp_n sn s → sl (s * 12 + i) ≠ 9)
theorem sp_Inv_keep {b cr cs p : Nat} {bu kl kn rl rn rs sl sn : Nat → Int32} (h : sp_Inv b cr cs kl kn rl rn rs sl sn) (hp : p < 3) (hb : b ≤ 3) (h9 : p = 2 ∨ ¬ sp_9 b bu) : sp_Inv 0 cr cs (sp_ov kl (p * 3) b bu) (upd kn p (nI b)) rl rn rs sl sn := by
  obtain ⟨_, i2, i3, i4, i5, i6, i7, i8, i9, i10⟩ := h
  refine ⟨by omega, i2, i3, sp_Bu i4 hb, i5, i6, i7, ?_, i9, i10⟩
  intro i hi
  by_cases e : p = 1
  · subst e
    rw [sp_nus (by omega)] at hi
    rw [sp_ov_in hi]
    rcases h9 with z | z
    · omega
    · exact fun y => z ⟨i, hi, y⟩
  · rw [sp_nun (by omega)] at hi
    have := sp_Bl i4 1
    rw [sp_ov_out (by omega)]
    exact i8 i hi
theorem sp_Inv_rule {b cr cs : Nat} {kl kn rl rn rs sl sn : Nat → Int32} {t : Int32} (h : sp_Inv b cr cs kl kn rl rn rs sl sn) (hr : cr < 10) (ht : t = 0 ∨ t = 1) : sp_Inv b (cr + 1) cs kl kn (sp_ov rl (cr * 9) 9 kl) (sp_ov rn (cr * 3) 3 kn) (upd rs cr t) sl sn := by
  obtain ⟨i1, i2, i3, i4, i5, i6, i7, i8, i9, i10⟩ := h
  refine ⟨i1, by omega, i3, i4, sp_ov_B i5 i4, i6, ?_, i8, ?_, i10⟩
  · intro i
    by_cases e : i = cr
    · rw [e, pk_us]; exact ht
    · rw [pk_un e]; exact i7 i
  · intro r hr2 i hi
    have l1 := sp_Bl (sp_ov_B (f := cr * 3) (m := 3) i5 i4) (r * 3 + 1)
    by_cases e : r = cr
    · subst e
      have k1 := sp_Bl i4 1
      rw [sp_ov_n (by omega)] at hi
      rw [show r * 9 + 1 * 3 + i = r * 9 + (1 * 3 + i) by omega, sp_ov_in (by omega)]
      exact i8 i hi
    · rw [sp_ov_no (by omega)] at hi
      have l2 := sp_Bl i5 (r * 3 + 1)
      rw [sp_ov_out (by omega)]
      exact i9 r (by omega) i hi
theorem sp_Inv_stem {b cr cs : Nat} {bu kl kn rl rn rs sl sn : Nat → Int32} (h : sp_Inv b cr cs kl kn rl rn rs sl sn) (hs : cs < 12) (h9 : ¬ sp_9 b bu) : sp_Inv 0 cr (cs + 1) kl kn rl rn rs (sp_ov sl (cs * 12) b bu) (upd sn cs (nI b)) := by
  obtain ⟨i1, i2, i3, i4, i5, i6, i7, i8, i9, i10⟩ := h
  refine ⟨by omega, i2, by omega, i4, i5, sp_Bu i6 i1, i7, i8, i9, ?_⟩
  intro s hs2 i hi
  by_cases e : s = cs
  · subst e
    rw [sp_nus (by omega)] at hi
    rw [sp_ov_in hi]
    exact fun y => h9 ⟨i, hi, y⟩
  · rw [sp_nun e] at hi
    have := sp_Bl i6 s
    rw [sp_ov_out (by omega)]
    exact i10 s (by omega) i hi
end
section
theorem sp_nar (v : Int32) : vp_nar .boolean (lw_bz v) = lw_bz v := by
  unfold vp_nar
  rw [lw_bz_n]
/-- both hold the same buffer, parts, rules and stems; working space is free -/
def i_Rel (_ : Nat) (u : SX) (v : SY) : Prop := ∃ (b cr cs : Nat) (fs fe ws gu gp : Int32) (bu kl kn rl rn rf rs rx sl sn sf fm wd ot : Nat → Int32), u = ((nI b), (nI cr), (nI cs), fs, fe, bu, kl, kn, rl, rn, rf, rs, rx, sl, sn, sf, fm) ∧ v = ((nI b), (nI cr), (nI cs), ws, gu, gp, bu, kl, kn, rf, rs, rx, rl, rn, sf, sn, sl, wd, ot) ∧ sp_Inv b cr cs kl kn rl rn rs sl sn
theorem sp_rel {k b cr cs : Nat} {fs fe ws gu gp : Int32} {bu kl kn rl rn rf rs rx sl sn sf fm wd ot : Nat → Int32} (h : sp_Inv b cr cs kl kn rl rn rs sl sn) : i_Rel k ((nI b), (nI cr), (nI cs), fs, fe, bu, kl, kn, rl, rn, rf, rs, rx, sl, sn, sf, fm) ((nI b), (nI cr), (nI cs), ws, gu, gp, bu, kl, kn, rf, rs, rx, rl, rn, sf, sn, sl, wd, ot) :=
  ⟨b, cr, cs, fs, fe, ws, gu, gp, bu, kl, kn, rl, rn, rf, rs, rx, sl, sn, sf, fm, wd, ot, rfl, rfl, h⟩
theorem i_up {k : Nat} {u : SX} {v : SY} (h : i_Rel k u v) : i_Rel (k + 4) u v := h
theorem sp_B0 (m : Nat) : sp_B (fun _ => 0) m := fun _ => ⟨0, Nat.zero_le m, rfl⟩
theorem sp_n0 (i : Nat) : sp_n (fun _ => 0) i = 0 := by
  show (0 : Int32).toNatClampNeg = 0
  decide
theorem i_vc0 : wpX_init (fun u => wpY_init (fun v => i_Rel 0 u v)) := by
  refine sp_rel (k := 0) (b := 0) (cr := 0) (cs := 0) ⟨by omega, by omega, by omega, sp_B0 3, sp_B0 3, sp_B0 12, fun _ => Or.inl rfl, ?_, ?_, ?_⟩
  · intro i hi
    rw [sp_n0] at hi
    omega
  · intro r hr
    omega
  · intro s hs
    omega
theorem sp_hQ0 {b cr cs : Nat} {bu kl kn rl rn rf rs rx sl sn sf : Nat → Int32} (h : sp_Inv b cr cs kl kn rl rn rs sl sn) : ¬ (0 < b ∧ ¬ sp_9 b bu) → ∀ a, a < cs * 121 → ¬ (0 < b ∧ sp_P b cr bu rl rn rf rs rx sl sn sf a) := by
  intro hn a ha hq
  have h9 : sp_9 b bu := Classical.byContradiction (fun z => hn ⟨hq.1, z⟩)
  obtain ⟨i1, i2, i3, i4, i5, i6, i7, i8, i9, i10⟩ := h
  exact sp_G_9 (i10 (a / 121) (by omega)) i9 h9 hq.2
theorem i_vc_type {k : Nat} {u : SX} {v : SY} (I : i_Rel k u v) (hk : k + 4 ≤ 2048) (v1 : Int32) : wpX_type (fun r u' => wpY_type (fun r' v' => r' = r ∧ i_Rel (k + 4) u' v') v v1) u v1 := by
  obtain ⟨b, cr, cs, fs, fe, ws, gu, gp, bu, kl, kn, rl, rn, rf, rs, rx, sl, sn, sf, fm, wd, ot, rfl, rfl, h⟩ := I
  have i1 := h.1
  by_cases h1 : v1 < 1
  · exact br_t h1 (br_t h1 ⟨rfl, sp_rel h⟩)
  by_cases h9 : v1 ≤ 9
  · refine br_f h1 (br_t h9 (pk_lt b 12 (fun hb => And.intro (vp_in_nI hb (by omega)) (nm_e (nm_r (nI_1 b) ?_))) (fun hb => ?_)))
    · refine br_f h1 (br_t h9 (pk_eq b 12 (fun z => by omega) (fun z => And.intro (vp_in_nI hb (by omega)) (nm_e (nm_r (nI_1 b) ⟨rfl, sp_rel ⟨by omega, h.2⟩⟩)))))
    · exact br_f h1 (br_t h9 (pk_eq b 12 (fun z => ⟨rfl, sp_rel h⟩) (fun z => by omega)))
  · exact br_f h1 (br_f h9 (br_f h1 (br_f h9 ⟨rfl, sp_rel h⟩)))
theorem i_vc_erase {k : Nat} {u : SX} {v : SY} (I : i_Rel k u v) (hk : k + 4 ≤ 2048) : wpX_erase (fun u' => wpY_erase (fun v' => i_Rel (k + 4) u' v') v) u := by
  obtain ⟨b, cr, cs, fs, fe, ws, gu, gp, bu, kl, kn, rl, rn, rf, rs, rx, sl, sn, sf, fm, wd, ot, rfl, rfl, h⟩ := I
  exact sp_rel (k := k + 4) (b := 0) ⟨by omega, h.2⟩
theorem i_vc_keep {k : Nat} {u : SX} {v : SY} (I : i_Rel k u v) (hk : k + 4 ≤ 2048) (v1 : Int32) : wpX_keep (fun r u' => wpY_keep (fun r' v' => r' = r ∧ i_Rel (k + 4) u' v') v v1) u v1 := by
  obtain ⟨b, cr, cs, fs, fe, ws, gu, gp, bu, kl, kn, rl, rn, rf, rs, rx, sl, sn, sf, fm, wd, ot, rfl, rfl, h⟩ := I
  have i1 := h.1
  by_cases h0 : v1 < 0
  · exact br_t h0 (br_t h0 ⟨rfl, sp_rel h⟩)
  obtain ⟨p, hp, rfl⟩ := nI_of h0
  by_cases h3 : p < 3
  · refine sp_kpX h3 i1 (fun hb h9 => ?_) (fun hn => ?_)
    · exact sp_kpY h3 i1 (fun _ _ => ⟨rfl, sp_rel (b := 0) (sp_Inv_keep h h3 hb h9)⟩) (fun z => absurd ⟨hb, h9⟩ z)
    · exact sp_kpY h3 i1 (fun hb h9 => absurd ⟨hb, h9⟩ hn) (fun _ => ⟨rfl, sp_rel h⟩)
  · refine br_f h0 (pk_lt p 3 (fun z => absurd z h3) (fun _ => ?_))
    exact br_f h0 (pk_le p 2 (fun z => by omega) (fun _ => ⟨rfl, sp_rel h⟩))
theorem i_vc_rule {k : Nat} {u : SX} {v : SY} (I : i_Rel k u v) (hk : k + 4 ≤ 2048) (v1 : Int32) (v2 : Int32) (v3 : Int32) : wpX_rule (fun r u' => wpY_rule (fun r' v' => r' = r ∧ i_Rel (k + 4) u' v') v v1 (lw_bz v2) (lw_bz v3)) u v1 (lw_bz v2) (lw_bz v3) := by
  obtain ⟨b, cr, cs, fs, fe, ws, gu, gp, bu, kl, kn, rl, rn, rf, rs, rx, sl, sn, sf, fm, wd, ot, rfl, rfl, h⟩ := I
  have i2 := h.2.1
  by_cases h0 : v1 < 0
  · exact br_t h0 (br_t h0 ⟨rfl, sp_rel h⟩)
  by_cases h7 : v1 ≤ 7
  · refine br_f h0 (br_t h7 (pk_lt cr 10 (fun hr => ?_) (fun hr => ?_)))
    · refine sp_cpX hr ?_
      have hi : vp_in (nI cr) 10 := vp_in_nI hr (by omega)
      refine And.intro hi (nm_e (And.intro hi (nm_e (And.intro hi (nm_e (nm_r (nI_1 cr) ?_))))))
      refine br_f h0 (br_t h7 (pk_eq cr 10 (fun z => by omega) (fun _ => And.intro hi (nm_e (And.intro hi (nm_e (And.intro hi (nm_e ⟨10, ?_⟩))))))))
      rw [sp_nar, sp_nar, nI_clamp (by omega)]
      have := sp_ru1Y (post := fun r' v' => r' = nI cr ∧ i_Rel (k + 4) ((nI b), (nI (cr + 1)), (nI cs), fs, fe, bu, kl, kn, (sp_ov rl (cr * 9) 9 kl), (sp_ov rn (cr * 3) 3 kn), (upd rf cr v1), (upd rs cr (lw_bz v2)), (upd rx cr (lw_bz v3)), sl, sn, sf, fm) v') (b := b) (cs := cs) (ws := ws) (gu := gu) (gp := gp) (bu := bu) (kl := kl) (kn := kn) (rf := upd rf cr v1) (rs := upd rs cr (lw_bz v2)) (rx := upd rx cr (lw_bz v3)) (rl := rl) (rn := rn) (sf := sf) (sn := sn) (sl := sl) (wd := wd) (ot := ot) hr ⟨rfl, sp_rel (sp_Inv_rule h hr (lw_bz_01 v2))⟩ 10 0 (by omega) (by omega)
      rw [sp_ov_0] at this
      exact this
    · exact br_f h0 (br_t h7 (pk_eq cr 10 (fun _ => ⟨rfl, sp_rel h⟩) (fun z => by omega)))
  · exact br_f h0 (br_f h7 (br_f h0 (br_f h7 ⟨rfl, sp_rel h⟩)))
theorem i_vc_stem {k : Nat} {u : SX} {v : SY} (I : i_Rel k u v) (hk : k + 4 ≤ 2048) (v1 : Int32) : wpX_stem (fun r u' => wpY_stem (fun r' v' => r' = r ∧ i_Rel (k + 4) u' v') v v1) u v1 := by
  obtain ⟨b, cr, cs, fs, fe, ws, gu, gp, bu, kl, kn, rl, rn, rf, rs, rx, sl, sn, sf, fm, wd, ot, rfl, rfl, h⟩ := I
  have i1 := h.1
  have i3 := h.2.2.1
  unfold wpX_stem
  dsimp only
  refine sp_plainX i1 (fun z => br_f (by decide) ?_) (fun z => br_t rfl ?_)
  · have yes : ∀ post : Int32 → SY → Prop, ((nI cs = 12 → post (-2) ((nI b), (nI cr), (nI cs), ws, gu, gp, bu, kl, kn, rf, rs, rx, rl, rn, sf, sn, sl, wd, ot)) ∧ (¬ nI cs = 12 → ∃ n31 : Nat, wY_stem_31 post v1 (nI b) (nI cr) (nI cs) ws gu gp n31 0 bu kl kn rf rs rx rl rn sf sn sl wd ot)) → wpY_stem post ((nI b), (nI cr), (nI cs), ws, gu, gp, bu, kl, kn, rf, rs, rx, rl, rn, sf, sn, sl, wd, ot) v1 := by
      intro post H
      exact pk_eq b 0 (fun y => by omega) (fun _ => sp_nineY i1 (fun y => absurd y z.2) (fun _ => br_t rfl H))
    refine pk_lt cs 12 (fun hs => ⟨b + 1, ?_⟩) (fun hs => yes _ (pk_eq cs 12 (fun _ => ⟨rfl, sp_rel h⟩) (fun y => by omega)))
    have hx := sp_smXl (post := fun r u' => wpY_stem (fun r' v' => r' = r ∧ i_Rel (k + 4) u' v') ((nI b), (nI cr), (nI cs), ws, gu, gp, bu, kl, kn, rf, rs, rx, rl, rn, sf, sn, sl, wd, ot) v1) (fs := fs) (fe := fe) (bu := bu) (kl := kl) (kn := kn) (rl := rl) (rn := rn) (rf := rf) (rs := rs) (rx := rx) (sl := sl) (sn := sn) (sf := sf) (fm := fm) (cr := cr) (v := v1) hs i1 ?_ (b + 1) 0 (by omega) (by omega)
    · rw [sp_ov_0] at hx
      exact hx
    · refine yes _ (pk_eq cs 12 (fun y => by omega) (fun _ => ⟨b + 1, ?_⟩))
      have hy := sp_smYl (post := fun r' v' => r' = nI cs ∧ i_Rel (k + 4) (0, (nI cr), (nI (cs + 1)), fs, fe, bu, kl, kn, rl, rn, rf, rs, rx, (sp_ov sl (cs * 12) b bu), (upd sn cs (nI b)), (upd sf cs (v1 &&& 255)), fm) v') (ws := ws) (gu := gu) (gp := gp) (bu := bu) (kl := kl) (kn := kn) (rl := rl) (rn := rn) (rf := rf) (rs := rs) (rx := rx) (sl := sl) (sn := sn) (sf := sf) (wd := wd) (ot := ot) (cr := cr) (v := v1) hs i1 ⟨rfl, sp_rel (b := 0) (sp_Inv_stem h hs z.2)⟩ (b + 1) 0 (by omega) (by omega)
      rw [sp_ov_0] at hy
      exact hy
  · refine pk_eq b 0 (fun _ => ⟨rfl, sp_rel h⟩) (fun y => ?_)
    exact sp_nineY i1 (fun _ => br_f (by decide) ⟨rfl, sp_rel h⟩) (fun q => absurd ⟨by omega, q⟩ z)
theorem i_vc_reflag {k : Nat} {u : SX} {v : SY} (I : i_Rel k u v) (hk : k + 4 ≤ 2048) (v1 : Int32) (v2 : Int32) : wpX_reflag (fun r u' => wpY_reflag (fun r' v' => r' = r ∧ i_Rel (k + 4) u' v') v v1 v2) u v1 v2 := by
  obtain ⟨b, cr, cs, fs, fe, ws, gu, gp, bu, kl, kn, rl, rn, rf, rs, rx, sl, sn, sf, fm, wd, ot, rfl, rfl, h⟩ := I
  have i3 := h.2.2.1
  by_cases h0 : v1 < 0
  · exact br_t h0 (br_t h0 ⟨rfl, sp_rel h⟩)
  by_cases hs : v1 < nI cs
  · have hi : vp_in v1 12 := by
      obtain ⟨j, hj, rfl⟩ := nI_of h0
      rw [nI_ltI hj (by omega)] at hs
      exact vp_in_nI (by omega) (by omega)
    exact br_f h0 (br_t hs (And.intro hi (nm_e (And.intro hi (nm_e (br_f h0 (br_t hs (And.intro hi (nm_e (And.intro hi (nm_e ⟨rfl, sp_rel h⟩)))))))))))
  · exact br_f h0 (br_f hs (br_f h0 (br_f hs ⟨rfl, sp_rel h⟩)))
theorem i_vc_length {k : Nat} {u : SX} {v : SY} (I : i_Rel k u v) (hk : k + 4 ≤ 2048) : wpX_length (fun r => wpY_length (fun r' => r' = r ∧ i_Rel (k + 4) u v) v) u := by
  obtain ⟨b, cr, cs, fs, fe, ws, gu, gp, bu, kl, kn, rl, rn, rf, rs, rx, sl, sn, sf, fm, wd, ot, rfl, rfl, h⟩ := I
  exact ⟨rfl, sp_rel h⟩
theorem i_vc_derivations {k : Nat} {u : SX} {v : SY} (I : i_Rel k u v) (hk : k + 4 ≤ 2048) : wpX_derivations (fun r u' => wpY_derivations (fun r' v' => r' = r ∧ i_Rel (k + 4) u' v') v) u := by
  obtain ⟨b, cr, cs, fs, fe, ws, gu, gp, bu, kl, kn, rl, rn, rf, rs, rx, sl, sn, sf, fm, wd, ot, rfl, rfl, h⟩ := I
  obtain ⟨i1, i2, i3, i4, i5, i6, i7, _⟩ := id h
  refine sp_dnX (Q := fun a => 0 < b ∧ sp_P b cr bu rl rn rf rs rx sl sn sf a) i1 i2 i3 i5 i6 (fun hz a => ⟨fun q => q.2, fun q => ⟨hz, q⟩⟩) (sp_hQ0 h) (fun fs fe fm => ?_)
  exact sp_dnY (Q := fun a => 0 < b ∧ sp_P b cr bu rl rn rf rs rx sl sn sf a) i1 i2 i3 i5 i6 i7 (fun a => Iff.rfl) (fun ws gu gp wd ot => ⟨rfl, sp_rel h⟩)
theorem sp_same {Q : Nat → Prop} {a a' cs : Nat} {v : Int32} (hcs : cs ≤ 12) (ha : a < cs * 121) (hq : Q a) (e : nI (sp_c Q a) = v) (ha' : a' < cs * 121) (hq' : Q a') (e' : nI (sp_c Q a') = v) : a' = a := by
  have k1 := sp_c_le Q a
  have k2 := sp_c_le Q a'
  rw [← e, nI_eq (by omega) (by omega)] at e'
  exact sp_c_uniq hq' hq e'
theorem i_vc_stemOf {k : Nat} {u : SX} {v : SY} (I : i_Rel k u v) (hk : k + 4 ≤ 2048) (v1 : Int32) : wpX_stemOf (fun r u' => wpY_stemOf (fun r' v' => r' = r ∧ i_Rel (k + 4) u' v') v v1) u v1 := by
  obtain ⟨b, cr, cs, fs, fe, ws, gu, gp, bu, kl, kn, rl, rn, rf, rs, rx, sl, sn, sf, fm, wd, ot, rfl, rfl, h⟩ := I
  obtain ⟨i1, i2, i3, i4, i5, i6, i7, _⟩ := id h
  unfold wpX_stemOf
  dsimp only
  refine sp_coX (Q := fun a => 0 < b ∧ sp_P b cr bu rl rn rf rs rx sl sn sf a) i1 i2 i3 i5 i6 (fun hz a => ⟨fun q => q.2, fun q => ⟨hz, q⟩⟩) (sp_hQ0 h) (fun a ha hq e fs fe fm => br_f (sp_n6 (by omega)) (sp_scX (by omega) ?_)) (fun H fs fe fm => br_t rfl ?_)
  · unfold wpY_stemOf
    refine sp_fiY (Q := fun a => 0 < b ∧ sp_P b cr bu rl rn rf rs rx sl sn sf a) i1 i2 i3 i5 i6 i7 (fun a => Iff.rfl) (fun a' ha' hq' e' ws wd ot => ?_) (fun H => absurd e (H a ha hq))
    rw [sp_same i3 ha hq e ha' hq' e']
    exact ⟨rfl, sp_rel h⟩
  · unfold wpY_stemOf
    exact sp_fiY (Q := fun a => 0 < b ∧ sp_P b cr bu rl rn rf rs rx sl sn sf a) i1 i2 i3 i5 i6 i7 (fun a => Iff.rfl) (fun a' ha' hq' e' => absurd e' (H a' ha' hq')) (fun _ ws gu gp wd ot => ⟨rfl, sp_rel h⟩)
theorem i_vc_suffixOf {k : Nat} {u : SX} {v : SY} (I : i_Rel k u v) (hk : k + 4 ≤ 2048) (v1 : Int32) : wpX_suffixOf (fun r u' => wpY_suffixOf (fun r' v' => r' = r ∧ i_Rel (k + 4) u' v') v v1) u v1 := by
  obtain ⟨b, cr, cs, fs, fe, ws, gu, gp, bu, kl, kn, rl, rn, rf, rs, rx, sl, sn, sf, fm, wd, ot, rfl, rfl, h⟩ := I
  obtain ⟨i1, i2, i3, i4, i5, i6, i7, _⟩ := id h
  unfold wpX_suffixOf
  dsimp only
  refine sp_coX (Q := fun a => 0 < b ∧ sp_P b cr bu rl rn rf rs rx sl sn sf a) i1 i2 i3 i5 i6 (fun hz a => ⟨fun q => q.2, fun q => ⟨hz, q⟩⟩) (sp_hQ0 h) (fun a ha hq e fs fe fm => br_f (sp_n6 (by omega)) (sp_fcX (by omega) ?_)) (fun H fs fe fm => br_t rfl ?_)
  · unfold wpY_suffixOf
    refine sp_fiY (Q := fun a => 0 < b ∧ sp_P b cr bu rl rn rf rs rx sl sn sf a) i1 i2 i3 i5 i6 i7 (fun a => Iff.rfl) (fun a' ha' hq' e' ws wd ot => br_f (sp_n6 (by omega)) ?_) (fun H => absurd e (H a ha hq))
    rw [sp_same i3 ha hq e ha' hq' e']
    exact ⟨rfl, sp_rel h⟩
  · unfold wpY_suffixOf
    exact sp_fiY (Q := fun a => 0 < b ∧ sp_P b cr bu rl rn rf rs rx sl sn sf a) i1 i2 i3 i5 i6 i7 (fun a => Iff.rfl) (fun a' ha' hq' e' => absurd e' (H a' ha' hq')) (fun _ ws gu gp wd ot => br_t rfl ⟨rfl, sp_rel h⟩)
theorem i_vc_prefixOf {k : Nat} {u : SX} {v : SY} (I : i_Rel k u v) (hk : k + 4 ≤ 2048) (v1 : Int32) : wpX_prefixOf (fun r u' => wpY_prefixOf (fun r' v' => r' = r ∧ i_Rel (k + 4) u' v') v v1) u v1 := by
  obtain ⟨b, cr, cs, fs, fe, ws, gu, gp, bu, kl, kn, rl, rn, rf, rs, rx, sl, sn, sf, fm, wd, ot, rfl, rfl, h⟩ := I
  obtain ⟨i1, i2, i3, i4, i5, i6, i7, _⟩ := id h
  unfold wpX_prefixOf
  dsimp only
  refine sp_coX (Q := fun a => 0 < b ∧ sp_P b cr bu rl rn rf rs rx sl sn sf a) i1 i2 i3 i5 i6 (fun hz a => ⟨fun q => q.2, fun q => ⟨hz, q⟩⟩) (sp_hQ0 h) (fun a ha hq e fs fe fm => br_f (sp_n6 (by omega)) (sp_pcX (by omega) ?_)) (fun H fs fe fm => br_t rfl ?_)
  · unfold wpY_prefixOf
    refine sp_fiY (Q := fun a => 0 < b ∧ sp_P b cr bu rl rn rf rs rx sl sn sf a) i1 i2 i3 i5 i6 i7 (fun a => Iff.rfl) (fun a' ha' hq' e' ws wd ot => br_f (sp_n6 (by omega)) ?_) (fun H => absurd e (H a ha hq))
    rw [sp_same i3 ha hq e ha' hq' e']
    exact ⟨rfl, sp_rel h⟩
  · unfold wpY_prefixOf
    exact sp_fiY (Q := fun a => 0 < b ∧ sp_P b cr bu rl rn rf rs rx sl sn sf a) i1 i2 i3 i5 i6 i7 (fun a => Iff.rfl) (fun a' ha' hq' e' => absurd e' (H a' ha' hq')) (fun _ ws gu gp wd ot => br_t rfl ⟨rfl, sp_rel h⟩)
theorem i_vc_continuations {k : Nat} {u : SX} {v : SY} (I : i_Rel k u v) (hk : k + 4 ≤ 2048) : wpX_continuations (fun r u' => wpY_continuations (fun r' v' => r' = r ∧ i_Rel (k + 4) u' v') v) u := by
  obtain ⟨b, cr, cs, fs, fe, ws, gu, gp, bu, kl, kn, rl, rn, rf, rs, rx, sl, sn, sf, fm, wd, ot, rfl, rfl, h⟩ := I
  obtain ⟨i1, i2, i3, i4, i5, i6, i7, _⟩ := id h
  refine sp_ctX i1 i2 i3 i5 i6 (fun hb h9 fs fe fm => ?_) (fun hn => ?_)
  · exact sp_ctY i1 i2 i3 i5 i6 i7 (fun _ _ ws gu gp wd ot => ⟨rfl, sp_rel h⟩) (fun z => absurd ⟨hb, h9⟩ z)
  · exact sp_ctY i1 i2 i3 i5 i6 i7 (fun hb h9 => absurd ⟨hb, h9⟩ hn) (fun _ => ⟨rfl, sp_rel h⟩)
end
