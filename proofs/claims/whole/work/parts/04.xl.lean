theorem sp_nb1 : narrow .boolean (.int (1 : Int32)) = .int 1 := lw_bz_n 1
theorem sp_nb0 : narrow .boolean (.int (0 : Int32)) = .int 0 := lw_bz_n 0
theorem sp_d9X {post : Int32 → SX → Prop} {b cr cs : Nat} {bu kl kn rl rn rf rs rx sl sn sf fm : Nat → Int32} {w : Nat → Int32} {p n l : Nat} (hp : p + n ≤ 18) (hl : l ≤ 12) (hw : ∀ i, i < n → fm (p + i) = w i)
    (h1 : sp_fit l bu n w → post 1 ((nI b), (nI cr), (nI cs), (nI p), (nI (p + n)), bu, kl, kn, rl, rn, rf, rs, rx, sl, sn, sf, fm)) (h0 : ¬ sp_fit l bu n w → post 0 ((nI b), (nI cr), (nI cs), (nI p), (nI (p + n)), bu, kl, kn, rl, rn, rf, rs, rx, sl, sn, sf, fm)) :
    wX_derives_95 post (nI l) (nI b) (nI cr) (nI cs) (nI p) (nI (p + n)) bu kl kn rl rn rf rs rx sl sn sf fm := by
  unfold wX_derives_95
  exact sp_fbX (w := w) hp hl hw (fun z => ⟨sp_nb1, h1 z⟩) (fun z => ⟨sp_nb0, h0 z⟩)
theorem sp_d7X {post : Int32 → SX → Prop} {b cr cs : Nat} {bu kl kn rl rn rf rs rx sl sn sf fm : Nat → Int32} {w : Nat → Int32} {d n l : Nat} (hB : sp_B rn 3) (hd : d ≤ 10) (hn : n ≤ 15) (hl : l ≤ 12) (hw : ∀ i, i < n → fm (3 + i) = w i)
    (h1 : (sp_oP rl rn d n w ∧ sp_fit l bu (sp_nc rn d n) (sp_wP rl rn d w)) → ∀ (fs fe : Int32) (fm : Nat → Int32), post 1 ((nI b), (nI cr), (nI cs), fs, fe, bu, kl, kn, rl, rn, rf, rs, rx, sl, sn, sf, fm))
    (h0 : ¬ (sp_oP rl rn d n w ∧ sp_fit l bu (sp_nc rn d n) (sp_wP rl rn d w)) → ∀ (fs fe : Int32) (fm : Nat → Int32), post 0 ((nI b), (nI cr), (nI cs), fs, fe, bu, kl, kn, rl, rn, rf, rs, rx, sl, sn, sf, fm)) :
    wX_derives_77 post (nI l) (sp_v d) (nI b) (nI cr) (nI cs) (nI 3) (nI (3 + n)) bu kl kn rl rn rf rs rx sl sn sf fm := by
  unfold wX_derives_77
  refine sp_v_neg d (by omega) (fun e => ?_) (fun r e => ?_)
  · subst e
    exact sp_d9X (w := w) (by omega) hl hw (fun z => h1 ⟨Or.inl rfl, z⟩ _ _ _) (fun z => h0 (fun y => z y.2) _ _ _)
  · subst e
    rw [sp_vs]
    refine sp_apX (w := w) (by omega) hB hn hw (fun ok p' fm' hp' hw' => ?_) (fun ok => ?_)
    · refine br_f (by decide) ?_
      exact sp_d9X (w := sp_aP rl rn r w) hp' hl hw' (fun z => h1 ⟨Or.inr ok, z⟩ _ _ _) (fun z => h0 (fun y => z y.2) _ _ _)
    · refine br_t rfl (h0 ?_ _ _ _)
      rintro ⟨z | z, _⟩
      · omega
      · exact ok z
theorem sp_dvX {post : Int32 → SX → Prop} {b cr cs : Nat} {fs fe : Int32} {bu kl kn rl rn rf rs rx sl sn sf fm : Nat → Int32} {a l : Nat} (hcr : cr ≤ 10) (hcs : cs ≤ 12) (hB : sp_B rn 3) (hS : sp_B sn 12) (hl : l ≤ 12) (ha : a < cs * 121)
    (h1 : sp_P l cr bu rl rn rf rs rx sl sn sf a → ∀ (fs fe : Int32) (fm : Nat → Int32), post 1 ((nI b), (nI cr), (nI cs), fs, fe, bu, kl, kn, rl, rn, rf, rs, rx, sl, sn, sf, fm))
    (h0 : ¬ sp_P l cr bu rl rn rf rs rx sl sn sf a → ∀ (fs fe : Int32) (fm : Nat → Int32), post 0 ((nI b), (nI cr), (nI cs), fs, fe, bu, kl, kn, rl, rn, rf, rs, rx, sl, sn, sf, fm)) :
    wpX_derives post ((nI b), (nI cr), (nI cs), fs, fe, bu, kl, kn, rl, rn, rf, rs, rx, sl, sn, sf, fm) (nI a) (nI l) := by
  have hs : a / 121 < 12 := by omega
  have hc : a / 11 % 11 ≤ 10 := by omega
  have hd : a % 11 ≤ 10 := by omega
  unfold sp_P at h1 h0
  generalize eS : a / 121 = s at *
  generalize eC : a / 11 % 11 = c at *
  generalize eD : a % 11 = d at *
  have hN : sp_n sn s ≤ 12 := sp_Bl hS _
  unfold wpX_derives
  dsimp only
  refine sp_scX (by omega) ?_
  refine sp_fcX (by omega) ?_
  refine sp_pcX (by omega) ?_
  rw [eS, eC, eD]
  refine sp_alX hs hcr hc (fun a1 => br_f (by decide) ?_) (fun a1 => br_t rfl (h0 (fun z => a1 z.1.1) _ _ _))
  refine sp_alX hs hcr hd (fun a2 => br_f (by decide) ?_) (fun a2 => br_t rfl (h0 (fun z => a2 z.1.2.1) _ _ _))
  refine sp_toX hc hd (fun a3 => br_f (by decide) ?_) (fun a3 => br_t rfl (h0 (fun z => a3 z.1.2.2) _ _ _))
  have hw0 : ∀ i, i < sp_n sn s → sp_ov fm 3 (sp_n sn s) (fun k => sl (s * 12 + k)) (3 + i) = (fun i => sl (s * 12 + i)) i := fun i hi => sp_ov_in (g := fun k => sl (s * 12 + k)) hi
  refine sp_sfX hs hS ?_
  refine sp_v_neg c (by omega) (fun e => ?_) (fun r e => ?_)
  · subst e
    exact sp_d7X (w := fun i => sl (s * 12 + i)) hB hd (by omega) hl hw0 (fun z => h1 ⟨⟨a1, a2, a3⟩, Or.inl rfl, z⟩) (fun z => h0 (fun y => z y.2.2))
  · subst e
    have h15 : sp_len rn r (sp_n sn s) ≤ 15 := by
      have l1 : sp_n rn (r * 3 + 1) ≤ 3 := sp_Bl hB _
      unfold sp_len; omega
    rw [sp_vs]
    refine sp_asX (w := fun i => sl (s * 12 + i)) (by omega) hB hN hw0 (fun ok fm' hw' => ?_) (fun ok => ?_)
    · refine br_f (by decide) ?_
      exact sp_d7X (w := sp_aS rl rn r (sp_n sn s) (fun i => sl (s * 12 + i))) hB hd h15 hl hw' (fun z => h1 ⟨⟨a1, a2, a3⟩, Or.inr ok, z⟩) (fun z => h0 (fun y => z y.2.2))
    · refine br_t rfl (h0 ?_ _ _ _)
      rintro ⟨_, z | z, _⟩
      · omega
      · exact ok z
theorem sp_dnXl {post : Int32 → SX → Prop} {b cr cs : Nat} {bu kl kn rl rn rf rs rx sl sn sf : Nat → Int32} {Q : Nat → Prop} (hb : b ≤ 12) (hcr : cr ≤ 10) (hcs : cs ≤ 12) (hB : sp_B rn 3) (hS : sp_B sn 12)
    (hQ : ∀ a, Q a ↔ sp_P b cr bu rl rn rf rs rx sl sn sf a) (h : ∀ (fs fe : Int32) (fm : Nat → Int32), post (nI (sp_c Q (cs * 121))) ((nI b), (nI cr), (nI cs), fs, fe, bu, kl, kn, rl, rn, rf, rs, rx, sl, sn, sf, fm)) :
    ∀ m a : Nat, a ≤ cs * 121 → cs * 121 - a < m → ∀ (fs fe : Int32) (fm : Nat → Int32), wX_derivations_21 post (nI (cs * 121)) m (nI (sp_c Q a)) (nI a) (nI b) (nI cr) (nI cs) fs fe bu kl kn rl rn rf rs rx sl sn sf fm := by
  intro m
  induction m with
  | zero => intro a _ h; omega
  | succ m ih =>
    intro a ha hm fs fe fm
    refine pk_le (cs * 121) a (fun h2 => ?_) (fun h2 => ?_)
    · rw [show a = cs * 121 by omega]
      exact h _ _ _
    · refine sp_dvX hcr hcs hB hS hb h2 (fun z fs fe fm => ?_) (fun z fs fe fm => ?_)
      · refine br_f (by decide) (nm_r (e' := nI (sp_c Q (a + 1))) ?_ (nm_r (nI_1 a) (ih (a + 1) (by omega) (by omega) _ _ _)))
        rw [sp_c_t ((hQ a).mpr z), nI_1]
      · refine br_t rfl (nm_r (nI_1 a) ?_)
        rw [← sp_c_f (fun y => z ((hQ a).mp y))]
        exact ih (a + 1) (by omega) (by omega) _ _ _
theorem sp_codes (cs : Nat) : nI cs * 121 = nI (cs * 121) := pk_mul cs 121
theorem sp_dnX {post : Int32 → SX → Prop} {b cr cs : Nat} {fs fe : Int32} {bu kl kn rl rn rf rs rx sl sn sf fm : Nat → Int32} {Q : Nat → Prop} (hb : b ≤ 12) (hcr : cr ≤ 10) (hcs : cs ≤ 12) (hB : sp_B rn 3) (hS : sp_B sn 12)
    (hQ : 0 < b → ∀ a, Q a ↔ sp_P b cr bu rl rn rf rs rx sl sn sf a) (hQ0 : ¬ (0 < b ∧ ¬ sp_9 b bu) → ∀ a, a < cs * 121 → ¬ Q a) (h : ∀ (fs fe : Int32) (fm : Nat → Int32), post (nI (sp_c Q (cs * 121))) ((nI b), (nI cr), (nI cs), fs, fe, bu, kl, kn, rl, rn, rf, rs, rx, sl, sn, sf, fm)) :
    wpX_derivations post ((nI b), (nI cr), (nI cs), fs, fe, bu, kl, kn, rl, rn, rf, rs, rx, sl, sn, sf, fm) := by
  unfold wpX_derivations
  dsimp only
  refine sp_plainX hb (fun z => br_f (by decide) (nm_r (sp_codes cs) ⟨cs * 121 + 1, ?_⟩)) (fun z => br_t rfl ?_)
  · exact sp_dnXl hb hcr hcs hB hS (hQ z.1) h (cs * 121 + 1) 0 (by omega) (by omega) _ _ _
  · have := h fs fe fm
    rw [sp_c_0 (hQ0 z)] at this
    exact this
theorem sp_coXl {post : Int32 → SX → Prop} {b cr cs : Nat} {bu kl kn rl rn rf rs rx sl sn sf : Nat → Int32} {Q : Nat → Prop} {v : Int32} (hb : b ≤ 12) (hcr : cr ≤ 10) (hcs : cs ≤ 12) (hB : sp_B rn 3) (hS : sp_B sn 12)
    (hQ : ∀ a, Q a ↔ sp_P b cr bu rl rn rf rs rx sl sn sf a) (h1 : ∀ a, a < cs * 121 → Q a → nI (sp_c Q a) = v → ∀ (fs fe : Int32) (fm : Nat → Int32), post (nI a) ((nI b), (nI cr), (nI cs), fs, fe, bu, kl, kn, rl, rn, rf, rs, rx, sl, sn, sf, fm))
    (h0 : (∀ a, a < cs * 121 → Q a → ¬ nI (sp_c Q a) = v) → ∀ (fs fe : Int32) (fm : Nat → Int32), post (-6) ((nI b), (nI cr), (nI cs), fs, fe, bu, kl, kn, rl, rn, rf, rs, rx, sl, sn, sf, fm)) :
    ∀ m a : Nat, a ≤ cs * 121 → cs * 121 - a < m → (∀ a', a' < a → Q a' → ¬ nI (sp_c Q a') = v) → ∀ (fs fe : Int32) (fm : Nat → Int32), wX_codeOfDerivation_23 post v (nI (cs * 121)) m (nI (sp_c Q a)) (nI a) (nI b) (nI cr) (nI cs) fs fe bu kl kn rl rn rf rs rx sl sn sf fm := by
  intro m
  induction m with
  | zero => intro a _ h; omega
  | succ m ih =>
    intro a ha hm hp fs fe fm
    refine pk_le (cs * 121) a (fun h2 => ?_) (fun h2 => ?_)
    · exact h0 (fun a' ha' => hp a' (by omega)) _ _ _
    · refine sp_dvX hcr hcs hB hS hb h2 (fun z fs fe fm => ?_) (fun z fs fe fm => ?_)
      · refine br_f (by decide) (br_c (fun e => h1 a h2 ((hQ a).mpr z) e _ _ _) (fun e => nm_r (e' := nI (sp_c Q (a + 1))) ?_ (nm_r (nI_1 a) (ih (a + 1) (by omega) (by omega) ?_ _ _ _))))
        · rw [sp_c_t ((hQ a).mpr z), nI_1]
        · intro a' ha' hq
          by_cases y : a' = a
          · rw [y]; exact e
          · exact hp a' (by omega) hq
      · refine br_t rfl (nm_r (nI_1 a) ?_)
        rw [← sp_c_f (fun y => z ((hQ a).mp y))]
        refine ih (a + 1) (by omega) (by omega) ?_ _ _ _
        intro a' ha' hq
        by_cases y : a' = a
        · rw [y] at hq; exact absurd ((hQ a).mp hq) z
        · exact hp a' (by omega) hq
theorem sp_coX {post : Int32 → SX → Prop} {b cr cs : Nat} {fs fe : Int32} {bu kl kn rl rn rf rs rx sl sn sf fm : Nat → Int32} {Q : Nat → Prop} {v : Int32} (hb : b ≤ 12) (hcr : cr ≤ 10) (hcs : cs ≤ 12) (hB : sp_B rn 3) (hS : sp_B sn 12)
    (hQ : 0 < b → ∀ a, Q a ↔ sp_P b cr bu rl rn rf rs rx sl sn sf a) (hQ0 : ¬ (0 < b ∧ ¬ sp_9 b bu) → ∀ a, a < cs * 121 → ¬ Q a)
    (h1 : ∀ a, a < cs * 121 → Q a → nI (sp_c Q a) = v → ∀ (fs fe : Int32) (fm : Nat → Int32), post (nI a) ((nI b), (nI cr), (nI cs), fs, fe, bu, kl, kn, rl, rn, rf, rs, rx, sl, sn, sf, fm))
    (h0 : (∀ a, a < cs * 121 → Q a → ¬ nI (sp_c Q a) = v) → ∀ (fs fe : Int32) (fm : Nat → Int32), post (-6) ((nI b), (nI cr), (nI cs), fs, fe, bu, kl, kn, rl, rn, rf, rs, rx, sl, sn, sf, fm)) :
    wpX_codeOfDerivation post ((nI b), (nI cr), (nI cs), fs, fe, bu, kl, kn, rl, rn, rf, rs, rx, sl, sn, sf, fm) v := by
  unfold wpX_codeOfDerivation
  dsimp only
  refine sp_plainX hb (fun z => br_f (by decide) (nm_r (sp_codes cs) ⟨cs * 121 + 1, ?_⟩)) (fun z => br_t rfl (h0 (fun a ha hq => absurd hq (hQ0 z a ha)) _ _ _))
  exact sp_coXl hb hcr hcs hB hS (hQ z.1) h1 h0 (cs * 121 + 1) 0 (by omega) (by omega) (fun a ha => absurd ha (Nat.not_lt_zero a)) _ _ _
theorem sp_idXl {post : Int32 → SX → Prop} {b cr cs l : Nat} {bu kl kn rl rn rf rs rx sl sn sf : Nat → Int32} (hl : l ≤ 12) (hcr : cr ≤ 10) (hcs : cs ≤ 12) (hB : sp_B rn 3) (hS : sp_B sn 12)
    (h1 : (∃ a, a < cs * 121 ∧ sp_P l cr bu rl rn rf rs rx sl sn sf a) → ∀ (fs fe : Int32) (fm : Nat → Int32), post 1 ((nI b), (nI cr), (nI cs), fs, fe, bu, kl, kn, rl, rn, rf, rs, rx, sl, sn, sf, fm))
    (h0 : ¬ (∃ a, a < cs * 121 ∧ sp_P l cr bu rl rn rf rs rx sl sn sf a) → ∀ (fs fe : Int32) (fm : Nat → Int32), post 0 ((nI b), (nI cr), (nI cs), fs, fe, bu, kl, kn, rl, rn, rf, rs, rx, sl, sn, sf, fm)) :
    ∀ m a : Nat, a ≤ cs * 121 → cs * 121 - a < m → (∀ a', a' < a → ¬ sp_P l cr bu rl rn rf rs rx sl sn sf a') → ∀ (fs fe : Int32) (fm : Nat → Int32), wX_isDerivable_10 post (nI l) (nI (cs * 121)) m (nI a) (nI b) (nI cr) (nI cs) fs fe bu kl kn rl rn rf rs rx sl sn sf fm := by
  intro m
  induction m with
  | zero => intro a _ h; omega
  | succ m ih =>
    intro a ha hm hp fs fe fm
    refine pk_le (cs * 121) a (fun h2 => ?_) (fun h2 => ?_)
    · exact h0 (fun ⟨a', ha', hq⟩ => hp a' (by omega) hq) _ _ _
    · refine sp_dvX hcr hcs hB hS hl h2 (fun z fs fe fm => ?_) (fun z fs fe fm => ?_)
      · exact br_f (by decide) (h1 ⟨a, h2, z⟩ _ _ _)
      · refine br_t rfl (nm_r (nI_1 a) (ih (a + 1) (by omega) (by omega) ?_ _ _ _))
        intro a' ha' hq
        by_cases y : a' = a
        · rw [y] at hq; exact absurd hq z
        · exact hp a' (by omega) hq
theorem sp_idX {post : Int32 → SX → Prop} {b cr cs : Nat} {fs fe : Int32} {bu kl kn rl rn rf rs rx sl sn sf fm : Nat → Int32} {l : Nat} (hl : l ≤ 12) (hcr : cr ≤ 10) (hcs : cs ≤ 12) (hB : sp_B rn 3) (hS : sp_B sn 12)
    (h1 : (∃ a, a < cs * 121 ∧ sp_P l cr bu rl rn rf rs rx sl sn sf a) → ∀ (fs fe : Int32) (fm : Nat → Int32), post 1 ((nI b), (nI cr), (nI cs), fs, fe, bu, kl, kn, rl, rn, rf, rs, rx, sl, sn, sf, fm))
    (h0 : ¬ (∃ a, a < cs * 121 ∧ sp_P l cr bu rl rn rf rs rx sl sn sf a) → ∀ (fs fe : Int32) (fm : Nat → Int32), post 0 ((nI b), (nI cr), (nI cs), fs, fe, bu, kl, kn, rl, rn, rf, rs, rx, sl, sn, sf, fm)) :
    wpX_isDerivable post ((nI b), (nI cr), (nI cs), fs, fe, bu, kl, kn, rl, rn, rf, rs, rx, sl, sn, sf, fm) (nI l) := by
  refine nm_r (sp_codes cs) ⟨cs * 121 + 1, ?_⟩
  exact sp_idXl hl hcr hcs hB hS h1 h0 (cs * 121 + 1) 0 (by omega) (by omega) (fun a ha => absurd ha (Nat.not_lt_zero a)) _ _ _
/-- letter k + 1 behind the buffer's end makes a word that has a derivation -/
def sp_D (b cr cs : Nat) (bu rl rn rf rs rx sl sn sf : Nat → Int32) (k : Nat) : Prop := ∃ a, a < cs * 121 ∧ sp_P (b + 1) cr (upd bu b (nI (k + 1))) rl rn rf rs rx sl sn sf a
theorem sp_ctXl {post : Int32 → SX → Prop} {b cr cs : Nat} {bu kl kn rl rn rf rs rx sl sn sf : Nat → Int32} (hb : b < 12) (hcr : cr ≤ 10) (hcs : cs ≤ 12) (hB : sp_B rn 3) (hS : sp_B sn 12)
    (h : ∀ (fs fe : Int32) (fm : Nat → Int32), post (nI (sp_c (sp_D b cr cs bu rl rn rf rs rx sl sn sf) 8)) ((nI b), (nI cr), (nI cs), fs, fe, (upd bu b (nI 8)), kl, kn, rl, rn, rf, rs, rx, sl, sn, sf, fm)) :
    ∀ m k : Nat, k ≤ 8 → 8 - k < m → ∀ (fs fe : Int32) (fm bq : Nat → Int32), (∀ x, upd bq b x = upd bu b x) → (k = 8 → bq = upd bu b (nI 8)) → wX_continuations_22 post m (nI (sp_c (sp_D b cr cs bu rl rn rf rs rx sl sn sf) k)) (nI (k + 1)) (nI b) (nI cr) (nI cs) fs fe bq kl kn rl rn rf rs rx sl sn sf fm := by
  intro m
  induction m with
  | zero => intro a _ h; omega
  | succ m ih =>
    intro k hk hm fs fe fm bq hq h8
    refine pk_lt 8 (k + 1) (fun h2 => ?_) (fun h2 => ?_)
    · rw [show k = 8 by omega, h8 (by omega)]
      exact h _ _ _
    · rw [nI_clamp (by omega), nI_1 b]
      refine ⟨vp_in_nI hb (by omega), nm_r (hq _) ?_⟩
      refine sp_idX (by omega) hcr hcs hB hS (fun z fs fe fm => ?_) (fun z fs fe fm => ?_)
      · refine br_f (by decide) (nm_r (e' := nI (sp_c (sp_D b cr cs bu rl rn rf rs rx sl sn sf) (k + 1))) ?_ (nm_r (nI_1 (k + 1)) (ih (k + 1) (by omega) (by omega) _ _ _ _ (fun x => sp_uu) ?_)))
        · rw [sp_c_t (show sp_D b cr cs bu rl rn rf rs rx sl sn sf k from z), nI_1]
        · intro e; rw [e]
      · refine br_t rfl (nm_r (nI_1 (k + 1)) ?_)
        rw [← sp_c_f (show ¬ sp_D b cr cs bu rl rn rf rs rx sl sn sf k from z)]
        exact ih (k + 1) (by omega) (by omega) _ _ _ _ (fun x => sp_uu) (fun e => by rw [e])
theorem sp_ctX {post : Int32 → SX → Prop} {b cr cs : Nat} {fs fe : Int32} {bu kl kn rl rn rf rs rx sl sn sf fm : Nat → Int32} (hb : b ≤ 12) (hcr : cr ≤ 10) (hcs : cs ≤ 12) (hB : sp_B rn 3) (hS : sp_B sn 12)
    (h1 : b < 12 → ¬ sp_9 b bu → ∀ (fs fe : Int32) (fm : Nat → Int32), post (nI (sp_c (sp_D b cr cs bu rl rn rf rs rx sl sn sf) 8)) ((nI b), (nI cr), (nI cs), fs, fe, (upd bu b (nI 8)), kl, kn, rl, rn, rf, rs, rx, sl, sn, sf, fm))
    (h0 : ¬ (b < 12 ∧ ¬ sp_9 b bu) → post 0 ((nI b), (nI cr), (nI cs), fs, fe, bu, kl, kn, rl, rn, rf, rs, rx, sl, sn, sf, fm)) :
    wpX_continuations post ((nI b), (nI cr), (nI cs), fs, fe, bu, kl, kn, rl, rn, rf, rs, rx, sl, sn, sf, fm) := by
  refine pk_le 12 b (fun h => h0 (by omega)) (fun h => ?_)
  refine sp_nineX hb (fun z => br_f (by decide) (h0 (fun y => y.2 z))) (fun z => br_t rfl ⟨9, ?_⟩)
  exact sp_ctXl h hcr hcs hB hS (h1 h z) 9 0 (by omega) (by omega) _ _ _ _ (fun x => rfl) (fun e => absurd e (by omega))
