theorem sp_asX {post : Int32 → SX → Prop} {b cr cs : Nat} {bu kl kn rl rn rf rs rx sl sn sf fm : Nat → Int32} {w : Nat → Int32} {r n : Nat} (hr : r < 10) (hB : sp_B rn 3) (hn : n ≤ 12) (hw : ∀ i, i < n → fm (3 + i) = w i)
    (h1 : sp_okS rl rn r n w → ∀ fm' : Nat → Int32, (∀ i, i < sp_len rn r n → fm' (3 + i) = sp_aS rl rn r n w i) → post 1 ((nI b), (nI cr), (nI cs), (nI 3), (nI (3 + sp_len rn r n)), bu, kl, kn, rl, rn, rf, rs, rx, sl, sn, sf, fm'))
    (h0 : ¬ sp_okS rl rn r n w → post 0 ((nI b), (nI cr), (nI cs), (nI 3), (nI (3 + n)), bu, kl, kn, rl, rn, rf, rs, rx, sl, sn, sf, fm)) :
    wpX_applySuffix post ((nI b), (nI cr), (nI cs), (nI 3), (nI (3 + n)), bu, kl, kn, rl, rn, rf, rs, rx, sl, sn, sf, fm) (nI r) := by
  have l0 : sp_n rn (r * 3 + 0) ≤ 3 := sp_Bl hB _
  have l1 : sp_n rn (r * 3 + 1) ≤ 3 := sp_Bl hB _
  have l2 : sp_n rn (r * 3 + 2) ≤ 3 := sp_Bl hB _
  refine nm_r (e' := nI (r * 3 + 0)) (sp_mi r 3 0 rfl) (nm_r (e' := nI (r * 3 + 1)) (sp_mi r 3 1 rfl) (nm_r (e' := nI (r * 3 + 2)) (sp_mi r 3 2 rfl) ?_))
  refine And.intro (vp_in_nI (by omega) (by omega)) (nm_r (e' := nI (3 + n - sp_n rn (r * 3 + 0))) ?_ (And.intro (vp_in_nI (by omega) (by omega)) (nm_r (e' := nI (3 + n - sp_n rn (r * 3 + 2))) ?_ ?_)))
  · rw [nI_clamp (by omega), sp_Be hB (r * 3 + 0)]; exact pk_sub (by omega)
  · rw [nI_clamp (by omega), sp_Be hB (r * 3 + 2)]; exact pk_sub (by omega)
  refine sp_fmX (w := w) hr (by omega) hB (by omega) (by omega) hw (fun m0 => br_f (by decide) ?_) (fun m0 => br_t rfl (h0 (fun z => m0 ⟨?_, ?_, ?_⟩)))
  · refine sp_fmX (w := w) hr (by omega) hB (by omega) (by omega) hw (fun m2 => br_f (by decide) ?_) (fun m2 => br_t rfl (h0 (fun z => m2 ⟨?_, ?_, ?_⟩)))
    · have q0 := m0.1
      have q2 := m2.1
      have ok : sp_okS rl rn r n w := by
        refine ⟨⟨by omega, ?_⟩, ⟨by omega, ?_⟩⟩
        · have := m0.2.2
          rw [show 3 + n - sp_n rn (r * 3 + 0) - 3 = n - sp_n rn (r * 3 + 0) by omega] at this
          exact this
        · have := m2.2.2
          rw [show 3 + n - sp_n rn (r * 3 + 2) - 3 = n - sp_n rn (r * 3 + 2) by omega] at this
          exact this
      refine sp_wrX hr (by omega) hB (by omega) (And.intro (vp_in_nI (by omega) (by omega)) (nm_r (e' := nI (3 + sp_len rn r n)) ?_ (h1 ok _ ?_)))
      · rw [nI_clamp (by omega), sp_Be hB (r * 3 + 1), nI_add]
        exact congrArg nI (by unfold sp_len; omega)
      · intro i hi
        unfold sp_len at hi
        unfold sp_aS
        by_cases e : i < n - sp_n rn (r * 3 + 0)
        · rw [if_pos e, sp_ov_out (by omega)]
          exact hw i (by omega)
        · rw [if_neg e, show 3 + i = 3 + n - sp_n rn (r * 3 + 0) + (i - (n - sp_n rn (r * 3 + 0))) by omega]
          exact sp_ov_in (by omega)
    · have := z.2.1; omega
    · have := z.2.1; omega
    · have := z.2.2
      rw [show 3 + n - sp_n rn (r * 3 + 2) - 3 = n - sp_n rn (r * 3 + 2) by have := z.2.1; omega]
      exact this
  · have := z.1.1; omega
  · have := z.1.1; omega
  · have := z.1.2
    rw [show 3 + n - sp_n rn (r * 3 + 0) - 3 = n - sp_n rn (r * 3 + 0) by have := z.1.1; omega]
    exact this
theorem sp_apX {post : Int32 → SX → Prop} {b cr cs : Nat} {bu kl kn rl rn rf rs rx sl sn sf fm : Nat → Int32} {w : Nat → Int32} {r n : Nat} (hr : r < 10) (hB : sp_B rn 3) (hn : n ≤ 15) (hw : ∀ i, i < n → fm (3 + i) = w i)
    (h1 : sp_okP rl rn r n w → ∀ (p' : Nat) (fm' : Nat → Int32), p' + sp_len rn r n ≤ 18 → (∀ i, i < sp_len rn r n → fm' (p' + i) = sp_aP rl rn r w i) → post 1 ((nI b), (nI cr), (nI cs), (nI p'), (nI (p' + sp_len rn r n)), bu, kl, kn, rl, rn, rf, rs, rx, sl, sn, sf, fm'))
    (h0 : ¬ sp_okP rl rn r n w → post 0 ((nI b), (nI cr), (nI cs), (nI 3), (nI (3 + n)), bu, kl, kn, rl, rn, rf, rs, rx, sl, sn, sf, fm)) :
    wpX_applyPrefix post ((nI b), (nI cr), (nI cs), (nI 3), (nI (3 + n)), bu, kl, kn, rl, rn, rf, rs, rx, sl, sn, sf, fm) (nI r) := by
  have l0 : sp_n rn (r * 3 + 0) ≤ 3 := sp_Bl hB _
  have l1 : sp_n rn (r * 3 + 1) ≤ 3 := sp_Bl hB _
  have l2 : sp_n rn (r * 3 + 2) ≤ 3 := sp_Bl hB _
  refine nm_r (e' := nI (r * 3 + 0)) (sp_mi r 3 0 rfl) (nm_r (e' := nI (r * 3 + 1)) (sp_mi r 3 1 rfl) (nm_r (e' := nI (r * 3 + 2)) (sp_mi r 3 2 rfl) ?_))
  refine sp_fmX (w := w) hr (by omega) hB (by omega) (by omega) hw (fun m0 => br_f (by decide) ?_) (fun m0 => br_t rfl (h0 (fun z => m0 ⟨by omega, ?_, z.1.2⟩)))
  · refine sp_fmX (w := w) hr (by omega) hB (by omega) (by omega) hw (fun m2 => br_f (by decide) ?_) (fun m2 => br_t rfl (h0 (fun z => m2 ⟨by omega, ?_, z.2.2⟩)))
    · have q0 := m0.2.1
      have q2 := m2.2.1
      have ok : sp_okP rl rn r n w := ⟨⟨by omega, m0.2.2⟩, ⟨by omega, m2.2.2⟩⟩
      have el : 3 + n = 3 + sp_n rn (r * 3 + 0) - sp_n rn (r * 3 + 1) + sp_len rn r n := by unfold sp_len; omega
      refine And.intro (vp_in_nI (by omega) (by omega)) (And.intro (vp_in_nI (by omega) (by omega)) (nm_r (e' := nI (3 + sp_n rn (r * 3 + 0) - sp_n rn (r * 3 + 1))) ?_ ?_))
      · rw [nI_clamp (by omega), nI_clamp (by omega), sp_Be hB (r * 3 + 0), sp_Be hB (r * 3 + 1), nI_add]; exact pk_sub (by omega)
      refine sp_wrX hr (by omega) hB (by omega) ?_
      have H := h1 ok (3 + sp_n rn (r * 3 + 0) - sp_n rn (r * 3 + 1)) (sp_ov fm (3 + sp_n rn (r * 3 + 0) - sp_n rn (r * 3 + 1)) (sp_n rn (r * 3 + 1)) (fun k => rl (r * 9 + 1 * 3 + k))) (by omega) ?_
      · rw [← el] at H
        exact H
      · intro i hi
        unfold sp_len at hi
        unfold sp_aP
        by_cases e : i < sp_n rn (r * 3 + 1)
        · rw [if_pos e]
          exact sp_ov_in e
        · rw [if_neg e, sp_ov_out (by omega), show 3 + sp_n rn (r * 3 + 0) - sp_n rn (r * 3 + 1) + i = 3 + (i - sp_n rn (r * 3 + 1) + sp_n rn (r * 3 + 0)) by omega]
          exact hw _ (by omega)
    · have := z.2.1; omega
  · have := z.1.1; omega
theorem sp_fbXl {post : Int32 → Prop} {b cr cs : Nat} {bu kl kn rl rn rf rs rx sl sn sf fm : Nat → Int32} {fe : Int32} {p l : Nat} (hp : p + l ≤ 18) (hl : l ≤ 12)
    (h1 : (∀ i, i < l → fm (p + i) = bu i) → post 1) (h0 : ¬ (∀ i, i < l → fm (p + i) = bu i) → post 0) :
    ∀ m i : Nat, i ≤ l → l - i < m → (∀ j, j < i → fm (p + j) = bu j) → wX_formIsInBuffer_17 post (nI l) (nI b) (nI cr) (nI cs) (nI p) fe bu kl kn rl rn rf rs rx sl sn sf fm m (nI i) := by
  intro m
  induction m with
  | zero => intro i _ h; omega
  | succ m ih =>
    intro i hi hm hq
    refine pk_le l i (fun h => h1 (fun j hj => hq j (by omega))) (fun h => ?_)
    rw [nI_add, nI_clamp (by omega), nI_clamp (by omega)]
    refine ⟨vp_in_nI (by omega) (by omega), vp_in_nI (by omega) (by omega), br_c (fun e => nm_r (nI_1 i) (ih (i + 1) (by omega) (by omega) (fun j hj => ?_))) (fun e => h0 (fun H => e (H i h)))⟩
    by_cases z : j = i
    · rw [z]; exact e
    · exact hq j (by omega)
theorem sp_fbX {post : Int32 → Prop} {b cr cs : Nat} {bu kl kn rl rn rf rs rx sl sn sf fm : Nat → Int32} {w : Nat → Int32} {p n l : Nat} (hp : p + n ≤ 18) (hl : l ≤ 12) (hw : ∀ i, i < n → fm (p + i) = w i)
    (h1 : sp_fit l bu n w → post 1) (h0 : ¬ sp_fit l bu n w → post 0) :
    wpX_formIsInBuffer post ((nI b), (nI cr), (nI cs), (nI p), (nI (p + n)), bu, kl, kn, rl, rn, rf, rs, rx, sl, sn, sf, fm) (nI l) := by
  refine pk_eq n l (fun e => ?_) (fun e => h0 (fun z => e z.1)) (by rw [pk_sub (by omega)]; exact congrArg nI (by omega))
  subst e
  have e : (∀ i, i < n → fm (p + i) = bu i) ↔ sp_fit n bu n w := by
    constructor
    · intro H
      exact ⟨rfl, fun i hi => by rw [← hw i hi]; exact H i hi⟩
    · intro H i hi
      rw [hw i hi]; exact H.2 i hi
  exact ⟨_, sp_fbXl hp hl (fun H => h1 (e.mp H)) (fun H => h0 (fun z => H (e.mpr z))) (n + 1) 0 (by omega) (by omega) (fun j hj => absurd hj (Nat.not_lt_zero j))⟩
theorem sp_alX {post : Int32 → Prop} {b cr cs : Nat} {fs fe : Int32} {bu kl kn rl rn rf rs rx sl sn sf fm : Nat → Int32} {s c : Nat} {t : Int32} (hs : s < 12) (hcr : cr ≤ 10) (hc : c ≤ 10)
    (h1 : sp_al cr rs rf sf s c t → post 1) (h0 : ¬ sp_al cr rs rf sf s c t → post 0) :
    wpX_isAllowed post ((nI b), (nI cr), (nI cs), fs, fe, bu, kl, kn, rl, rn, rf, rs, rx, sl, sn, sf, fm) (nI s) (sp_v c) t := by
  refine sp_v_neg c (by omega) (fun e => h1 (Or.inl e)) (fun r e => ?_)
  subst e
  rw [sp_vs, nI_clamp (by omega), nI_clamp (by omega)]
  refine pk_le cr r (fun h => h0 ?_) (fun h => ⟨vp_in_nI (by omega) (by omega), br_c (fun e => ⟨vp_in_nI (by omega) (by omega), vp_in_nI (by omega) (by omega), br_c (fun e2 => h1 ?_) (fun e2 => h0 ?_)⟩) (fun e => h0 ?_)⟩)
  · rintro (z | z)
    · omega
    · omega
  · exact Or.inr ⟨by omega, e, e2⟩
  · rintro (z | z)
    · omega
    · exact e2 z.2.2
  · rintro (z | z)
    · omega
    · exact e z.2.1
theorem sp_toX {post : Int32 → Prop} {b cr cs : Nat} {fs fe : Int32} {bu kl kn rl rn rf rs rx sl sn sf fm : Nat → Int32} {c d : Nat} (hc : c ≤ 10) (hd : d ≤ 10)
    (h1 : sp_to rx c d → post 1) (h0 : ¬ sp_to rx c d → post 0) :
    wpX_goTogether post ((nI b), (nI cr), (nI cs), fs, fe, bu, kl, kn, rl, rn, rf, rs, rx, sl, sn, sf, fm) (sp_v c) (sp_v d) := by
  refine sp_v_neg c (by omega) (fun e => h1 (Or.inl e)) (fun r e => ?_)
  refine sp_v_neg d (by omega) (fun e => h1 (Or.inr (Or.inl e))) (fun q e' => ?_)
  subst e
  subst e'
  rw [sp_vs, sp_vs, nI_clamp (by omega), nI_clamp (by omega)]
  refine ⟨vp_in_nI (by omega) (by omega), br_c (fun e => h0 ?_) (fun e => ⟨vp_in_nI (by omega) (by omega), br_c (fun e2 => h0 ?_) (fun e2 => h1 (Or.inr (Or.inr ⟨e, e2⟩)))⟩)⟩
  · rintro (z | z | z)
    · omega
    · omega
    · exact z.1 e
  · rintro (z | z | z)
    · omega
    · omega
    · exact z.2 e2
theorem sp_rcX {post : Int32 → Prop} {c : Nat} (hc : c < 2 ^ 31) (h : post (sp_v c)) : wpX_ruleOfChoice post (nI c) := by
  cases c with
  | zero => exact br_t rfl h
  | succ c =>
    rw [sp_vs] at h
    refine br_f (nI_ne0 (by omega) hc) ?_
    rw [nI_pred]
    exact h
theorem sp_scX {post : Int32 → Prop} {a : Nat} (ha : a < 2 ^ 31) (h : post (nI (a / 121))) : wpX_stemInCode post (nI a) := by
  refine And.intro (by decide) ?_
  rw [show nI a / 121 = nI (a / 121) from pk_div (d := 121) ha (by omega) (by omega)]
  exact h
theorem sp_fcX {post : Int32 → Prop} {a : Nat} (ha : a < 2 ^ 31) (h : post (sp_v (a / 11 % 11))) : wpX_suffixInCode post (nI a) := by
  refine And.intro (by decide) (And.intro (by decide) ?_)
  rw [show nI a / 11 = nI (a / 11) from pk_div (d := 11) ha (by omega) (by omega), show nI (a / 11) - nI (a / 11) / 11 * 11 = nI (a / 11 % 11) from pk_rem (d := 11) (by omega) (by omega) (by omega)]
  exact sp_rcX (by omega) h
theorem sp_pcX {post : Int32 → Prop} {a : Nat} (ha : a < 2 ^ 31) (h : post (sp_v (a % 11))) : wpX_prefixInCode post (nI a) := by
  refine And.intro (by decide) ?_
  rw [show nI a - nI a / 11 * 11 = nI (a % 11) from pk_rem (d := 11) ha (by omega) (by omega)]
  exact sp_rcX (by omega) h
