/-! the component's own methods, each over a general post -/
theorem sp_nineXl {post : Int32 → Prop} {b cr cs : Nat} {fs fe : Int32} {bu kl kn rl rn rf rs rx sl sn sf fm : Nat → Int32} (hb : b ≤ 12) (h1 : sp_9 b bu → post 1) (h0 : ¬ sp_9 b bu → post 0) : ∀ m i : Nat, i ≤ b → b - i < m → (∀ j, j < i → bu j ≠ 9) → wX_bufferHasNine_2 post (nI b) (nI cr) (nI cs) fs fe bu kl kn rl rn rf rs rx sl sn sf fm m (nI i) := by
  intro m
  induction m with
  | zero => intro i _ h; omega
  | succ m ih =>
    intro i hi hm hp
    refine pk_le b i (fun h => ?_) (fun h => ?_)
    · refine h0 ?_
      rintro ⟨j, hj, e⟩
      exact hp j (by omega) e
    · refine ⟨vp_in_nI (by omega) (by omega), ?_⟩
      rw [nI_clamp (by omega)]
      refine br_c (fun e => h1 ⟨i, h, e⟩) (fun e => nm_r (nI_1 i) (ih (i + 1) (by omega) (by omega) (fun j hj => ?_)))
      by_cases z : j = i
      · rw [z]; exact e
      · exact hp j (by omega)
theorem sp_nineX {post : Int32 → Prop} {b cr cs : Nat} {fs fe : Int32} {bu kl kn rl rn rf rs rx sl sn sf fm : Nat → Int32} (hb : b ≤ 12) (h1 : sp_9 b bu → post 1) (h0 : ¬ sp_9 b bu → post 0) : wpX_bufferHasNine post ((nI b), (nI cr), (nI cs), fs, fe, bu, kl, kn, rl, rn, rf, rs, rx, sl, sn, sf, fm) :=
  ⟨b + 1, sp_nineXl hb h1 h0 (b + 1) 0 (by omega) (by omega) (fun j hj => absurd hj (Nat.not_lt_zero j))⟩
theorem sp_plainX {post : Int32 → Prop} {b cr cs : Nat} {fs fe : Int32} {bu kl kn rl rn rf rs rx sl sn sf fm : Nat → Int32} (hb : b ≤ 12) (h1 : (0 < b ∧ ¬ sp_9 b bu) → post 1) (h0 : ¬ (0 < b ∧ ¬ sp_9 b bu) → post 0) : wpX_bufferIsPlainWord post ((nI b), (nI cr), (nI cs), fs, fe, bu, kl, kn, rl, rn, rf, rs, rx, sl, sn, sf, fm) := by
  refine pk_le b 0 (fun h => h0 (by omega)) (fun h => ?_)
  refine sp_nineX hb (fun h9 => br_f (by decide) (h0 (fun z => z.2 h9))) (fun h9 => br_t rfl (h1 ⟨h, h9⟩))
theorem sp_fmXl {post : Int32 → Prop} {b cr cs : Nat} {fs fe : Int32} {bu kl kn rl rn rf rs rx sl sn sf fm : Nat → Int32} {r q f : Nat} (hr : r < 10) (hq : q < 3) (hB : sp_B rn 3) (hf : f + sp_n rn (r * 3 + q) ≤ 18)
    (h1 : (∀ j, j < sp_n rn (r * 3 + q) → rl (r * 9 + q * 3 + j) = 9 ∨ rl (r * 9 + q * 3 + j) = fm (f + j)) → post 1)
    (h0 : ¬ (∀ j, j < sp_n rn (r * 3 + q) → rl (r * 9 + q * 3 + j) = 9 ∨ rl (r * 9 + q * 3 + j) = fm (f + j)) → post 0) :
    ∀ m i : Nat, i ≤ sp_n rn (r * 3 + q) → sp_n rn (r * 3 + q) - i < m → (∀ j, j < i → rl (r * 9 + q * 3 + j) = 9 ∨ rl (r * 9 + q * 3 + j) = fm (f + j)) → wX_formMatches_27 post (nI (r * 3 + q)) (nI f) (nI b) (nI cr) (nI cs) fs fe bu kl kn rl rn rf rs rx sl sn sf fm m (nI i) := by
  have hL : sp_n rn (r * 3 + q) ≤ 3 := sp_Bl hB _
  have eL : rn (r * 3 + q) = nI (sp_n rn (r * 3 + q)) := sp_Be hB _
  intro m
  induction m with
  | zero => intro i _ h; omega
  | succ m ih =>
    intro i hi hm hp
    have ex : nI (r * 3 + q) * 3 + nI i = nI (r * 9 + q * 3 + i) := (sp_mi (r * 3 + q) 3 i rfl).trans (congrArg nI (by omega))
    have next : (rl (r * 9 + q * 3 + i) = 9 ∨ rl (r * 9 + q * 3 + i) = fm (f + i)) → i < sp_n rn (r * 3 + q) → wX_formMatches_27 post (nI (r * 3 + q)) (nI f) (nI b) (nI cr) (nI cs) fs fe bu kl kn rl rn rf rs rx sl sn sf fm m (nI (i + 1)) := by
      intro z hz
      refine ih (i + 1) (by omega) (by omega) (fun j hj => ?_)
      by_cases e : j = i
      · rw [e]; exact z
      · exact hp j (by omega)
    refine And.intro (vp_in_nI (by omega) (by omega)) ?_
    refine pk_le (sp_n rn (r * 3 + q)) i (fun h => h1 (fun j hj => hp j (by omega))) (fun h => ?_) (by rw [nI_clamp (by omega)]; exact eL)
    rw [ex, nI_clamp (by omega), nI_add, nI_clamp (by omega)]
    refine ⟨vp_in_nI (by omega) (by omega), nm_e (br_c (fun e => nm_r (nI_1 i) (next (Or.inl e) h)) (fun e => ⟨vp_in_nI (by omega) (by omega), br_c (fun e2 => nm_r (nI_1 i) (next (Or.inr e2) h)) (fun e2 => h0 (fun H => ?_))⟩))⟩
    rcases H i h with z | z
    · exact e z
    · exact e2 z
theorem sp_fmX {post : Int32 → Prop} {b cr cs : Nat} {bu kl kn rl rn rf rs rx sl sn sf fm : Nat → Int32} {w : Nat → Int32} {r q f p n : Nat} (hr : r < 10) (hq : q < 3) (hB : sp_B rn 3) (hf : f ≤ 18) (hpn : p + n ≤ 18) (hw : ∀ i, i < n → fm (p + i) = w i)
    (h1 : (p ≤ f ∧ f + sp_n rn (r * 3 + q) ≤ p + n ∧ sp_M rl rn w r q (f - p)) → post 1)
    (h0 : ¬ (p ≤ f ∧ f + sp_n rn (r * 3 + q) ≤ p + n ∧ sp_M rl rn w r q (f - p)) → post 0) :
    wpX_formMatches post ((nI b), (nI cr), (nI cs), (nI p), (nI (p + n)), bu, kl, kn, rl, rn, rf, rs, rx, sl, sn, sf, fm) (nI (r * 3 + q)) (nI f) := by
  have hL : sp_n rn (r * 3 + q) ≤ 3 := sp_Bl hB _
  have eL : rn (r * 3 + q) = nI (sp_n rn (r * 3 + q)) := sp_Be hB _
  refine pk_lt f p (fun h => h0 (by omega)) (fun h => And.intro (vp_in_nI (by omega) (by omega)) ?_)
  refine pk_le (f + sp_n rn (r * 3 + q)) (p + n) (fun h2 => ?_) (fun h2 => h0 (by omega)) (by rw [nI_clamp (by omega), eL, nI_add])
  have e : (∀ j, j < sp_n rn (r * 3 + q) → rl (r * 9 + q * 3 + j) = 9 ∨ rl (r * 9 + q * 3 + j) = fm (f + j)) ↔ sp_M rl rn w r q (f - p) := by
    unfold sp_M
    constructor
    · intro H j hj
      rw [← hw (f - p + j) (by omega), show p + (f - p + j) = f + j by omega]
      exact H j hj
    · intro H j hj
      have := H j hj
      rw [← hw (f - p + j) (by omega), show p + (f - p + j) = f + j by omega] at this
      exact this
  exact ⟨_, sp_fmXl hr hq hB (by omega) (fun H => h1 ⟨h, h2, e.mp H⟩) (fun H => h0 (fun z => H (e.mpr z.2.2))) (sp_n rn (r * 3 + q) + 1) 0 (by omega) (by omega) (fun j hj => absurd hj (Nat.not_lt_zero j))⟩
theorem sp_wrXl {post : SX → Prop} {b cr cs : Nat} {fs fe : Int32} {bu kl kn rl rn rf rs rx sl sn sf fm : Nat → Int32} {r q f : Nat} (hr : r < 10) (hq : q < 3) (hB : sp_B rn 3) (hf : f + sp_n rn (r * 3 + q) ≤ 18)
    (h : post ((nI b), (nI cr), (nI cs), fs, fe, bu, kl, kn, rl, rn, rf, rs, rx, sl, sn, sf, (sp_ov fm f (sp_n rn (r * 3 + q)) (fun k => rl (r * 9 + q * 3 + k))))) :
    ∀ m i : Nat, i ≤ sp_n rn (r * 3 + q) → sp_n rn (r * 3 + q) - i < m → wX_writePart_2 post (nI (r * 3 + q)) (nI f) (nI b) (nI cr) (nI cs) fs fe m (nI i) bu kl kn rl rn rf rs rx sl sn sf (sp_ov fm f i (fun k => rl (r * 9 + q * 3 + k))) := by
  have hL : sp_n rn (r * 3 + q) ≤ 3 := sp_Bl hB _
  have eL : rn (r * 3 + q) = nI (sp_n rn (r * 3 + q)) := sp_Be hB _
  intro m
  induction m with
  | zero => intro i _ h; omega
  | succ m ih =>
    intro i hi hm
    have ex : nI (r * 3 + q) * 3 + nI i = nI (r * 9 + q * 3 + i) := (sp_mi (r * 3 + q) 3 i rfl).trans (congrArg nI (by omega))
    refine And.intro (vp_in_nI (by omega) (by omega)) ?_
    refine pk_le (sp_n rn (r * 3 + q)) i (fun h2 => ?_) (fun h2 => ?_) (by rw [nI_clamp (by omega)]; exact eL)
    · rw [show i = sp_n rn (r * 3 + q) by omega]
      exact h
    · rw [ex, nI_clamp (by omega), nI_add, nI_clamp (by omega)]
      exact ⟨vp_in_nI (by omega) (by omega), vp_in_nI (by omega) (by omega), nm_r sp_ov_s (nm_r (nI_1 i) (ih (i + 1) (by omega) (by omega)))⟩
theorem sp_wrX {post : SX → Prop} {b cr cs : Nat} {fs fe : Int32} {bu kl kn rl rn rf rs rx sl sn sf fm : Nat → Int32} {r q f : Nat} (hr : r < 10) (hq : q < 3) (hB : sp_B rn 3) (hf : f + sp_n rn (r * 3 + q) ≤ 18)
    (h : post ((nI b), (nI cr), (nI cs), fs, fe, bu, kl, kn, rl, rn, rf, rs, rx, sl, sn, sf, (sp_ov fm f (sp_n rn (r * 3 + q)) (fun k => rl (r * 9 + q * 3 + k))))) :
    wpX_writePart post ((nI b), (nI cr), (nI cs), fs, fe, bu, kl, kn, rl, rn, rf, rs, rx, sl, sn, sf, fm) (nI (r * 3 + q)) (nI f) := by
  refine ⟨sp_n rn (r * 3 + q) + 1, ?_⟩
  have := sp_wrXl hr hq hB hf h (sp_n rn (r * 3 + q) + 1) 0 (by omega) (by omega)
  rw [sp_ov_0] at this
  exact this
theorem sp_sfXl {post : SX → Prop} {b cr cs : Nat} {fs fe : Int32} {bu kl kn rl rn rf rs rx sl sn sf fm : Nat → Int32} {s : Nat} (hs : s < 12) (hB : sp_B sn 12)
    (h : post ((nI b), (nI cr), (nI cs), fs, fe, bu, kl, kn, rl, rn, rf, rs, rx, sl, sn, sf, (sp_ov fm 3 (sp_n sn s) (fun k => sl (s * 12 + k))))) :
    ∀ m i : Nat, i ≤ sp_n sn s → sp_n sn s - i < m → wX_startForm_19 post (nI s) (nI b) (nI cr) (nI cs) fs fe m (nI i) bu kl kn rl rn rf rs rx sl sn sf (sp_ov fm 3 i (fun k => sl (s * 12 + k))) := by
  have hL : sp_n sn s ≤ 12 := sp_Bl hB _
  have eL : sn s = nI (sp_n sn s) := sp_Be hB _
  intro m
  induction m with
  | zero => intro i _ h; omega
  | succ m ih =>
    intro i hi hm
    have ex : nI s * 12 + nI i = nI (s * 12 + i) := sp_mi s 12 i rfl
    have e3 : (3 : Int32) + nI i = nI (3 + i) := nI_add 3 i
    refine And.intro (vp_in_nI (by omega) (by omega)) ?_
    refine pk_le (sp_n sn s) i (fun h2 => ?_) (fun h2 => ?_) (by rw [nI_clamp (by omega)]; exact eL)
    · rw [show i = sp_n sn s by omega]
      exact h
    · rw [ex, nI_clamp (by omega), e3, nI_clamp (by omega)]
      exact ⟨vp_in_nI (by omega) (by omega), vp_in_nI (by omega) (by omega), nm_r sp_ov_s (nm_r (nI_1 i) (ih (i + 1) (by omega) (by omega)))⟩
theorem sp_sfX {post : SX → Prop} {b cr cs : Nat} {fs fe : Int32} {bu kl kn rl rn rf rs rx sl sn sf fm : Nat → Int32} {s : Nat} (hs : s < 12) (hB : sp_B sn 12)
    (h : post ((nI b), (nI cr), (nI cs), (nI 3), (nI (3 + sp_n sn s)), bu, kl, kn, rl, rn, rf, rs, rx, sl, sn, sf, (sp_ov fm 3 (sp_n sn s) (fun k => sl (s * 12 + k))))) :
    wpX_startForm post ((nI b), (nI cr), (nI cs), fs, fe, bu, kl, kn, rl, rn, rf, rs, rx, sl, sn, sf, fm) (nI s) := by
  have eL : sn s = nI (sp_n sn s) := sp_Be hB _
  refine And.intro (vp_in_nI (by omega) (by omega)) (nm_r (e' := nI (3 + sp_n sn s)) ?_ ⟨sp_n sn s + 1, ?_⟩)
  · rw [nI_clamp (by omega), eL]; exact nI_add 3 _
  · have := sp_sfXl hs hB h (sp_n sn s + 1) 0 (by omega) (by omega)
    rw [sp_ov_0] at this
    exact this
