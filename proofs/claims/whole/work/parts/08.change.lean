/-! the changing calls -/
theorem sp_kpXl {post : Int32 → SX → Prop} {b cr cs : Nat} {fs fe : Int32} {bu kl kn rl rn rf rs rx sl sn sf fm : Nat → Int32} {p : Nat} (hp : p < 3) (hb : b ≤ 3) (h : post (nI b) (0, (nI cr), (nI cs), fs, fe, bu, (sp_ov kl (p * 3) b bu), (upd kn p (nI b)), rl, rn, rf, rs, rx, sl, sn, sf, fm)) :
    ∀ m i : Nat, i ≤ b → b - i < m → wX_keep_45 post (nI p) (nI b) (nI b) (nI cr) (nI cs) fs fe m (nI i) bu (sp_ov kl (p * 3) i bu) kn rl rn rf rs rx sl sn sf fm := by
  intro m
  induction m with
  | zero => intro i _ h; omega
  | succ m ih =>
    intro i hi hm
    refine pk_le b i (fun h2 => And.intro (vp_in_nI (by omega) (by omega)) ?_) (fun h2 => ?_)
    · rw [show i = b by omega, nI_clamp (by omega)]
      exact nm_e h
    · rw [show nI p * 3 + nI i = nI (p * 3 + i) from sp_mi p 3 i rfl, nI_clamp (by omega), nI_clamp (by omega)]
      exact ⟨vp_in_nI (by omega) (by omega), vp_in_nI (by omega) (by omega), nm_r sp_ov_s (nm_r (nI_1 i) (ih (i + 1) (by omega) (by omega)))⟩
theorem sp_kpYl {post : Int32 → SY → Prop} {b cr cs : Nat} {ws gu gp : Int32} {bu kl kn rl rn rf rs rx sl sn sf wd ot : Nat → Int32} {p : Nat} (hp : p < 3) (hb : b ≤ 3) (h : post (nI b) (0, (nI cr), (nI cs), ws, gu, gp, bu, (sp_ov kl (p * 3) b bu), (upd kn p (nI b)), rf, rs, rx, rl, rn, sf, sn, sl, wd, ot)) :
    ∀ m i : Nat, i ≤ b → b - i < m → wY_keep_37 post (nI p) (nI b) (nI cr) (nI cs) ws gu gp m (nI i) bu (sp_ov kl (p * 3) i bu) kn rf rs rx rl rn sf sn sl wd ot := by
  intro m
  induction m with
  | zero => intro i _ h; omega
  | succ m ih =>
    intro i hi hm
    refine pk_le b i (fun h2 => And.intro (vp_in_nI (by omega) (by omega)) ?_) (fun h2 => ?_)
    · rw [show i = b by omega, nI_clamp (by omega)]
      refine nm_e ⟨vp_in_nI (by omega) (by omega), ?_⟩
      rw [pk_us]
      exact h
    · rw [show nI p * 3 + nI i = nI (p * 3 + i) from sp_mi p 3 i rfl, nI_clamp (by omega), nI_clamp (by omega)]
      exact ⟨vp_in_nI (by omega) (by omega), vp_in_nI (by omega) (by omega), nm_r sp_ov_s (nm_r (nI_1 i) (ih (i + 1) (by omega) (by omega)))⟩
theorem sp_kpX {post : Int32 → SX → Prop} {b cr cs : Nat} {fs fe : Int32} {bu kl kn rl rn rf rs rx sl sn sf fm : Nat → Int32} {p : Nat} (hp : p < 3) (hb : b ≤ 12)
    (h1 : b ≤ 3 → (p = 2 ∨ ¬ sp_9 b bu) → post (nI b) (0, (nI cr), (nI cs), fs, fe, bu, (sp_ov kl (p * 3) b bu), (upd kn p (nI b)), rl, rn, rf, rs, rx, sl, sn, sf, fm))
    (h0 : ¬ (b ≤ 3 ∧ (p = 2 ∨ ¬ sp_9 b bu)) → post (-3) ((nI b), (nI cr), (nI cs), fs, fe, bu, kl, kn, rl, rn, rf, rs, rx, sl, sn, sf, fm)) : wpX_keep post ((nI b), (nI cr), (nI cs), fs, fe, bu, kl, kn, rl, rn, rf, rs, rx, sl, sn, sf, fm) (nI p) := by
  have go : b ≤ 3 → (p = 2 ∨ ¬ sp_9 b bu) → ∃ n45 : Nat, wX_keep_45 post (nI p) (nI b) (nI b) (nI cr) (nI cs) fs fe n45 0 bu kl kn rl rn rf rs rx sl sn sf fm := by
    intro h3 h
    refine ⟨b + 1, ?_⟩
    have := sp_kpXl hp h3 (h1 h3 h) (b + 1) 0 (by omega) (by omega)
    rw [sp_ov_0] at this
    exact this
  refine br_f (nI_pos (by omega)) (pk_lt p 3 (fun _ => ?_) (fun z => by omega))
  refine pk_le b 3 (fun h3 => ?_) (fun h3 => h0 (by omega))
  refine pk_eq p 2 (fun e => go h3 (Or.inl e)) (fun e => ?_)
  exact sp_nineX hb (fun z => br_f (by decide) (h0 (fun y => y.2.elim e (fun q => q z)))) (fun z => br_t rfl (go h3 (Or.inr z)))
theorem sp_kpY {post : Int32 → SY → Prop} {b cr cs : Nat} {ws gu gp : Int32} {bu kl kn rl rn rf rs rx sl sn sf wd ot : Nat → Int32} {p : Nat} (hp : p < 3) (hb : b ≤ 12)
    (h1 : b ≤ 3 → (p = 2 ∨ ¬ sp_9 b bu) → post (nI b) (0, (nI cr), (nI cs), ws, gu, gp, bu, (sp_ov kl (p * 3) b bu), (upd kn p (nI b)), rf, rs, rx, rl, rn, sf, sn, sl, wd, ot))
    (h0 : ¬ (b ≤ 3 ∧ (p = 2 ∨ ¬ sp_9 b bu)) → post (-3) ((nI b), (nI cr), (nI cs), ws, gu, gp, bu, kl, kn, rf, rs, rx, rl, rn, sf, sn, sl, wd, ot)) : wpY_keep post ((nI b), (nI cr), (nI cs), ws, gu, gp, bu, kl, kn, rf, rs, rx, rl, rn, sf, sn, sl, wd, ot) (nI p) := by
  have go : b ≤ 3 → (p = 2 ∨ ¬ sp_9 b bu) → ∃ n37 : Nat, wY_keep_37 post (nI p) (nI b) (nI cr) (nI cs) ws gu gp n37 0 bu kl kn rf rs rx rl rn sf sn sl wd ot := by
    intro h3 h
    refine ⟨b + 1, ?_⟩
    have := sp_kpYl hp h3 (h1 h3 h) (b + 1) 0 (by omega) (by omega)
    rw [sp_ov_0] at this
    exact this
  refine br_f (nI_pos (by omega)) (pk_le p 2 (fun _ => ?_) (fun z => by omega))
  refine pk_lt 3 b (fun h3 => h0 (by omega)) (fun h3 => ?_)
  refine pk_eq p 2 (fun e => go h3 (Or.inl e)) (fun e => ?_)
  exact sp_nineY hb (fun z => br_f (by decide) (h0 (fun y => y.2.elim e (fun q => q z)))) (fun z => br_t rfl (go h3 (Or.inr z)))
theorem sp_cp2X {post : SX → Prop} {b cr cs : Nat} {fs fe : Int32} {bu kl kn rl rn rf rs rx sl sn sf fm : Nat → Int32} {r : Nat} (hr : r < 10) (h : post ((nI b), (nI cr), (nI cs), fs, fe, bu, kl, kn, rl, (sp_ov rn (r * 3) 3 kn), rf, rs, rx, sl, sn, sf, fm)) :
    ∀ m i : Nat, i ≤ 3 → 3 - i < m → wX_copyKeptParts_33 post (nI r) (nI b) (nI cr) (nI cs) fs fe m (nI i) bu kl kn rl (sp_ov rn (r * 3) i kn) rf rs rx sl sn sf fm := by
  intro m
  induction m with
  | zero => intro i _ h; omega
  | succ m ih =>
    intro i hi hm
    refine pk_le 3 i (fun h2 => ?_) (fun h2 => ?_)
    · rw [show i = 3 by omega]; exact h
    · rw [show nI r * 3 + nI i = nI (r * 3 + i) from sp_mi r 3 i rfl, nI_clamp (by omega), nI_clamp (by omega)]
      exact ⟨vp_in_nI (by omega) (by omega), vp_in_nI (by omega) (by omega), nm_r sp_ov_s (nm_r (nI_1 i) (ih (i + 1) (by omega) (by omega)))⟩
theorem sp_cp1X {post : SX → Prop} {b cr cs : Nat} {fs fe : Int32} {bu kl kn rl rn rf rs rx sl sn sf fm : Nat → Int32} {r : Nat} (hr : r < 10) (h : post ((nI b), (nI cr), (nI cs), fs, fe, bu, kl, kn, (sp_ov rl (r * 9) 9 kl), (sp_ov rn (r * 3) 3 kn), rf, rs, rx, sl, sn, sf, fm)) :
    ∀ m i : Nat, i ≤ 9 → 9 - i < m → wX_copyKeptParts_2 post (nI r) (nI b) (nI cr) (nI cs) fs fe m (nI i) bu kl kn (sp_ov rl (r * 9) i kl) rn rf rs rx sl sn sf fm := by
  intro m
  induction m with
  | zero => intro i _ h; omega
  | succ m ih =>
    intro i hi hm
    refine pk_le 9 i (fun h2 => ?_) (fun h2 => ?_)
    · rw [show i = 9 by omega]
      refine ⟨4, ?_⟩
      have := sp_cp2X hr h 4 0 (by omega) (by omega)
      rw [sp_ov_0] at this
      exact this
    · rw [show nI r * 9 + nI i = nI (r * 9 + i) from sp_mi r 9 i rfl, nI_clamp (by omega), nI_clamp (by omega)]
      exact ⟨vp_in_nI (by omega) (by omega), vp_in_nI (by omega) (by omega), nm_r sp_ov_s (nm_r (nI_1 i) (ih (i + 1) (by omega) (by omega)))⟩
theorem sp_cpX {post : SX → Prop} {b cr cs : Nat} {fs fe : Int32} {bu kl kn rl rn rf rs rx sl sn sf fm : Nat → Int32} {r : Nat} (hr : r < 10) (h : post ((nI b), (nI cr), (nI cs), fs, fe, bu, kl, kn, (sp_ov rl (r * 9) 9 kl), (sp_ov rn (r * 3) 3 kn), rf, rs, rx, sl, sn, sf, fm)) : wpX_copyKeptParts post ((nI b), (nI cr), (nI cs), fs, fe, bu, kl, kn, rl, rn, rf, rs, rx, sl, sn, sf, fm) (nI r) := by
  refine ⟨10, ?_⟩
  have := sp_cp1X hr h 10 0 (by omega) (by omega)
  rw [sp_ov_0] at this
  exact this
theorem sp_ru2Y {post : Int32 → SY → Prop} {b cr cs : Nat} {ws gu gp : Int32} {bu kl kn rl rn rf rs rx sl sn sf wd ot : Nat → Int32} (hr : cr < 10) (h : post (nI cr) ((nI b), (nI (cr + 1)), (nI cs), ws, gu, gp, bu, kl, kn, rf, rs, rx, rl, (sp_ov rn (cr * 3) 3 kn), sf, sn, sl, wd, ot)) :
    ∀ m i : Nat, i ≤ 3 → 3 - i < m → wY_rule_96 post (nI b) (nI cr) (nI cs) ws gu gp m (nI i) bu kl kn rf rs rx rl (sp_ov rn (cr * 3) i kn) sf sn sl wd ot := by
  intro m
  induction m with
  | zero => intro i _ h; omega
  | succ m ih =>
    intro i hi hm
    refine pk_le 3 i (fun h2 => nm_r (nI_1 cr) ?_) (fun h2 => ?_)
    · rw [show i = 3 by omega, nI_pred]; exact h
    · rw [show nI cr * 3 + nI i = nI (cr * 3 + i) from sp_mi cr 3 i rfl, nI_clamp (by omega), nI_clamp (by omega)]
      exact ⟨vp_in_nI (by omega) (by omega), vp_in_nI (by omega) (by omega), nm_r sp_ov_s (nm_r (nI_1 i) (ih (i + 1) (by omega) (by omega)))⟩
theorem sp_ru1Y {post : Int32 → SY → Prop} {b cr cs : Nat} {ws gu gp : Int32} {bu kl kn rl rn rf rs rx sl sn sf wd ot : Nat → Int32} (hr : cr < 10) (h : post (nI cr) ((nI b), (nI (cr + 1)), (nI cs), ws, gu, gp, bu, kl, kn, rf, rs, rx, (sp_ov rl (cr * 9) 9 kl), (sp_ov rn (cr * 3) 3 kn), sf, sn, sl, wd, ot)) :
    ∀ m i : Nat, i ≤ 9 → 9 - i < m → wY_rule_58 post (nI b) (nI cr) (nI cs) ws gu gp m (nI i) bu kl kn rf rs rx (sp_ov rl (cr * 9) i kl) rn sf sn sl wd ot := by
  intro m
  induction m with
  | zero => intro i _ h; omega
  | succ m ih =>
    intro i hi hm
    refine pk_le 9 i (fun h2 => ?_) (fun h2 => ?_)
    · rw [show i = 9 by omega]
      refine ⟨4, ?_⟩
      have := sp_ru2Y hr h 4 0 (by omega) (by omega)
      rw [sp_ov_0] at this
      exact this
    · rw [show nI cr * 9 + nI i = nI (cr * 9 + i) from sp_mi cr 9 i rfl, nI_clamp (by omega), nI_clamp (by omega)]
      exact ⟨vp_in_nI (by omega) (by omega), vp_in_nI (by omega) (by omega), nm_r sp_ov_s (nm_r (nI_1 i) (ih (i + 1) (by omega) (by omega)))⟩
theorem sp_smXl {post : Int32 → SX → Prop} {b cr cs : Nat} {fs fe : Int32} {bu kl kn rl rn rf rs rx sl sn sf fm : Nat → Int32} {v : Int32} (hs : cs < 12) (hb : b ≤ 12) (h : post (nI cs) (0, (nI cr), (nI (cs + 1)), fs, fe, bu, kl, kn, rl, rn, rf, rs, rx, (sp_ov sl (cs * 12) b bu), (upd sn cs (nI b)), (upd sf cs (v &&& 255)), fm)) :
    ∀ m i : Nat, i ≤ b → b - i < m → wX_stem_29 post v (nI cs) (nI b) (nI cr) (nI cs) fs fe m (nI i) bu kl kn rl rn rf rs rx (sp_ov sl (cs * 12) i bu) sn sf fm := by
  intro m
  induction m with
  | zero => intro i _ h; omega
  | succ m ih =>
    intro i hi hm
    refine pk_le b i (fun h2 => ?_) (fun h2 => ?_)
    · rw [show i = b by omega, nI_clamp (by omega)]
      exact ⟨vp_in_nI (by omega) (by omega), nm_e ⟨vp_in_nI (by omega) (by omega), nm_e (nm_r (nI_1 cs) h)⟩⟩
    · rw [show nI cs * 12 + nI i = nI (cs * 12 + i) from sp_mi cs 12 i rfl, nI_clamp (by omega), nI_clamp (by omega)]
      exact ⟨vp_in_nI (by omega) (by omega), vp_in_nI (by omega) (by omega), nm_r sp_ov_s (nm_r (nI_1 i) (ih (i + 1) (by omega) (by omega)))⟩
theorem sp_smYl {post : Int32 → SY → Prop} {b cr cs : Nat} {ws gu gp : Int32} {bu kl kn rl rn rf rs rx sl sn sf wd ot : Nat → Int32} {v : Int32} (hs : cs < 12) (hb : b ≤ 12) (h : post (nI cs) (0, (nI cr), (nI (cs + 1)), ws, gu, gp, bu, kl, kn, rf, rs, rx, rl, rn, (upd sf cs (v &&& 255)), (upd sn cs (nI b)), (sp_ov sl (cs * 12) b bu), wd, ot)) :
    ∀ m i : Nat, i ≤ b → b - i < m → wY_stem_31 post v (nI b) (nI cr) (nI cs) ws gu gp m (nI i) bu kl kn rf rs rx rl rn sf sn (sp_ov sl (cs * 12) i bu) wd ot := by
  intro m
  induction m with
  | zero => intro i _ h; omega
  | succ m ih =>
    intro i hi hm
    refine pk_le b i (fun h2 => ?_) (fun h2 => ?_)
    · rw [show i = b by omega, nI_clamp (by omega)]
      refine ⟨vp_in_nI (by omega) (by omega), nm_e ⟨vp_in_nI (by omega) (by omega), nm_e (nm_r (nI_1 cs) ?_)⟩⟩
      rw [nI_pred]
      exact h
    · rw [show nI cs * 12 + nI i = nI (cs * 12 + i) from sp_mi cs 12 i rfl, nI_clamp (by omega), nI_clamp (by omega)]
      exact ⟨vp_in_nI (by omega) (by omega), vp_in_nI (by omega) (by omega), nm_r sp_ov_s (nm_r (nI_1 i) (ih (i + 1) (by omega) (by omega)))⟩
/-! what both states keep -/
def sp_Inv (b cr cs : Nat) (kl kn rl rn rs sl sn : Nat → Int32) : Prop :=
  b ≤ 12 ∧ cr ≤ 10 ∧ cs ≤ 12 ∧ sp_B kn 3 ∧ sp_B rn 3 ∧ sp_B sn 12 ∧ (∀ i, rs i = 0 ∨ rs i = 1) ∧ (∀ i, i < sp_n kn 1 → kl (1 * 3 + i) ≠ 9) ∧ (∀ r, r < cr → ∀ i, i < sp_n rn (r * 3 + 1) → rl (r * 9 + 1 * 3 + i) ≠ 9) ∧ (∀ s, s < cs → ∀ i, i < sp_n sn s → sl (s * 12 + i) ≠ 9)
theorem sp_Inv_keep {b cr cs p : Nat} {bu kl kn rl rn rs sl sn : Nat → Int32} (h : sp_Inv b cr cs kl kn rl rn rs sl sn) (hp : p < 3) (hb : b ≤ 3) (h9 : p = 2 ∨ ¬ sp_9 b bu) : sp_Inv 0 cr cs (sp_ov kl (p * 3) b bu) (upd kn p (nI b)) rl rn rs sl sn := by
  obtain ⟨_, i2, i3, i4, i5, i6, i7, i8, i9, i10⟩ := h
  refine ⟨by omega, i2, i3, sp_Bu i4 hb, i5, i6, i7, ?_, i9, i10⟩
  intro i hi
  by_cases e : p = 1
  · subst e
    rw [sp_nus (by omega)] at hi
    rw [sp_ov_in hi]
    rcases h9 with z | z
    · omega
    · exact fun y => z ⟨i, hi, y⟩
  · rw [sp_nun (by omega)] at hi
    have := sp_Bl i4 1
    rw [sp_ov_out (by omega)]
    exact i8 i hi
theorem sp_Inv_rule {b cr cs : Nat} {kl kn rl rn rs sl sn : Nat → Int32} {t : Int32} (h : sp_Inv b cr cs kl kn rl rn rs sl sn) (hr : cr < 10) (ht : t = 0 ∨ t = 1) : sp_Inv b (cr + 1) cs kl kn (sp_ov rl (cr * 9) 9 kl) (sp_ov rn (cr * 3) 3 kn) (upd rs cr t) sl sn := by
  obtain ⟨i1, i2, i3, i4, i5, i6, i7, i8, i9, i10⟩ := h
  refine ⟨i1, by omega, i3, i4, sp_ov_B i5 i4, i6, ?_, i8, ?_, i10⟩
  · intro i
    by_cases e : i = cr
    · rw [e, pk_us]; exact ht
    · rw [pk_un e]; exact i7 i
  · intro r hr2 i hi
    have l1 := sp_Bl (sp_ov_B (f := cr * 3) (m := 3) i5 i4) (r * 3 + 1)
    by_cases e : r = cr
    · subst e
      have k1 := sp_Bl i4 1
      rw [sp_ov_n (by omega)] at hi
      rw [show r * 9 + 1 * 3 + i = r * 9 + (1 * 3 + i) by omega, sp_ov_in (by omega)]
      exact i8 i hi
    · rw [sp_ov_no (by omega)] at hi
      have l2 := sp_Bl i5 (r * 3 + 1)
      rw [sp_ov_out (by omega)]
      exact i9 r (by omega) i hi
theorem sp_Inv_stem {b cr cs : Nat} {bu kl kn rl rn rs sl sn : Nat → Int32} (h : sp_Inv b cr cs kl kn rl rn rs sl sn) (hs : cs < 12) (h9 : ¬ sp_9 b bu) : sp_Inv 0 cr (cs + 1) kl kn rl rn rs (sp_ov sl (cs * 12) b bu) (upd sn cs (nI b)) := by
  obtain ⟨i1, i2, i3, i4, i5, i6, i7, i8, i9, i10⟩ := h
  refine ⟨by omega, i2, by omega, i4, i5, sp_Bu i6 i1, i7, i8, i9, ?_⟩
  intro s hs2 i hi
  by_cases e : s = cs
  · subst e
    rw [sp_nus (by omega)] at hi
    rw [sp_ov_in hi]
    exact fun y => h9 ⟨i, hi, y⟩
  · rw [sp_nun e] at hi
    have := sp_Bl i6 s
    rw [sp_ov_out (by omega)]
    exact i10 s (by omega) i hi
