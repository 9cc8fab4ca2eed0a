/-! the reference's own methods, each over a general post -/
theorem sp_ov_s0 {a : Nat → Int32} {i : Nat} {g : Nat → Int32} : upd (sp_ov a 0 i g) i (g i) = sp_ov a 0 (i + 1) g := by
  have := sp_ov_s (a := a) (f := 0) (i := i) (g := g)
  rw [Nat.zero_add] at this
  exact this
theorem sp_ov_i0 {a : Nat → Int32} {m j : Nat} {g : Nat → Int32} (h : j < m) : sp_ov a 0 m g j = g j := by
  have := sp_ov_in (a := a) (f := 0) (g := g) h
  rw [Nat.zero_add] at this
  exact this
theorem sp_nineYl {post : Int32 → Prop} {b cr cs : Nat} {ws gu gp : Int32} {bu kl kn rl rn rf rs rx sl sn sf wd ot : Nat → Int32} (hb : b ≤ 12) (h1 : sp_9 b bu → post 1) (h0 : ¬ sp_9 b bu → post 0) : ∀ m i : Nat, i ≤ b → b - i < m → (∀ j, j < i → bu j ≠ 9) → wY_nine_2 post (nI b) (nI cr) (nI cs) ws gu gp bu kl kn rf rs rx rl rn sf sn sl wd ot m (nI i) := by
  intro m
  induction m with
  | zero => intro i _ h; omega
  | succ m ih =>
    intro i hi hm hp
    refine pk_le b i (fun h => ?_) (fun h => ?_)
    · refine h0 ?_
      rintro ⟨j, hj, e⟩
      exact hp j (by omega) e
    · refine ⟨vp_in_nI (by omega) (by omega), ?_⟩
      rw [nI_clamp (by omega)]
      refine br_c (fun e => h1 ⟨i, h, e⟩) (fun e => nm_r (nI_1 i) (ih (i + 1) (by omega) (by omega) (fun j hj => ?_)))
      by_cases z : j = i
      · rw [z]; exact e
      · exact hp j (by omega)
theorem sp_nineY {post : Int32 → Prop} {b cr cs : Nat} {ws gu gp : Int32} {bu kl kn rl rn rf rs rx sl sn sf wd ot : Nat → Int32} (hb : b ≤ 12) (h1 : sp_9 b bu → post 1) (h0 : ¬ sp_9 b bu → post 0) : wpY_nine post ((nI b), (nI cr), (nI cs), ws, gu, gp, bu, kl, kn, rf, rs, rx, rl, rn, sf, sn, sl, wd, ot) :=
  ⟨b + 1, sp_nineYl hb h1 h0 (b + 1) 0 (by omega) (by omega) (fun j hj => absurd hj (Nat.not_lt_zero j))⟩
theorem sp_stYl {post : Int32 → Prop} {b cr cs : Nat} {ws gu gp : Int32} {bu kl kn rl rn rf rs rx sl sn sf wd ot : Nat → Int32} {r q f L : Nat} (hr : r < 10) (hq : q < 3) (hL : L ≤ 3) (hf : f + L ≤ 24)
    (h1 : (∀ j, j < L → rl (r * 9 + q * 3 + j) = 9 ∨ rl (r * 9 + q * 3 + j) = wd (f + j)) → post 1)
    (h0 : ¬ (∀ j, j < L → rl (r * 9 + q * 3 + j) = 9 ∨ rl (r * 9 + q * 3 + j) = wd (f + j)) → post 0) :
    ∀ m i : Nat, i ≤ L → L - i < m → (∀ j, j < i → rl (r * 9 + q * 3 + j) = 9 ∨ rl (r * 9 + q * 3 + j) = wd (f + j)) → wY_stands_43 post (nI r) (nI q) (nI L) (nI f) (nI b) (nI cr) (nI cs) ws gu gp bu kl kn rf rs rx rl rn sf sn sl wd ot m (nI i) := by
  intro m
  induction m with
  | zero => intro i _ h; omega
  | succ m ih =>
    intro i hi hm hp
    have ex : nI r * 9 + nI q * 3 + nI i = nI (r * 9 + q * 3 + i) := by
      rw [show nI r * 9 = nI (r * 9) from pk_mul r 9, show nI q * 3 = nI (q * 3) from pk_mul q 3, nI_add, nI_add]
    have next : (rl (r * 9 + q * 3 + i) = 9 ∨ rl (r * 9 + q * 3 + i) = wd (f + i)) → i < L → wY_stands_43 post (nI r) (nI q) (nI L) (nI f) (nI b) (nI cr) (nI cs) ws gu gp bu kl kn rf rs rx rl rn sf sn sl wd ot m (nI (i + 1)) := by
      intro z hz
      refine ih (i + 1) (by omega) (by omega) (fun j hj => ?_)
      by_cases e : j = i
      · rw [e]; exact z
      · exact hp j (by omega)
    refine pk_le L i (fun h => h1 (fun j hj => hp j (by omega))) (fun h => ?_)
    rw [ex, nI_clamp (by omega), nI_add, nI_clamp (by omega)]
    refine ⟨vp_in_nI (by omega) (by omega), nm_e (br_c (fun e => nm_r (nI_1 i) (next (Or.inl e) h)) (fun e => ⟨vp_in_nI (by omega) (by omega), br_c (fun e2 => nm_r (nI_1 i) (next (Or.inr e2) h)) (fun e2 => h0 (fun H => ?_))⟩))⟩
    rcases H i h with z | z
    · exact e z
    · exact e2 z
theorem sp_stY {post : Int32 → Prop} {b cr cs : Nat} {bu kl kn rl rn rf rs rx sl sn sf wd ot : Nat → Int32} {gu gp : Int32} {w : Nat → Int32} {r q n o : Nat} {t : Int32} (hr : r < 10) (hq : q < 3) (hB : sp_B rn 3) (hn : n ≤ 24) (hw : ∀ i, i < n → wd i = w i)
    (ho : (t = 0 ∧ o = 0) ∨ (¬ t = 0 ∧ o = n - sp_n rn (r * 3 + q)))
    (h1 : (sp_n rn (r * 3 + q) ≤ n ∧ sp_M rl rn w r q o) → post 1)
    (h0 : ¬ (sp_n rn (r * 3 + q) ≤ n ∧ sp_M rl rn w r q o) → post 0) :
    wpY_stands post ((nI b), (nI cr), (nI cs), (nI n), gu, gp, bu, kl, kn, rf, rs, rx, rl, rn, sf, sn, sl, wd, ot) (nI r) (nI q) t := by
  have hL : sp_n rn (r * 3 + q) ≤ 3 := sp_Bl hB _
  have ex : nI r * 3 + nI q = nI (r * 3 + q) := sp_mi r 3 q rfl
  have eL : rn (nI r * 3 + nI q).toNatClampNeg = nI (sp_n rn (r * 3 + q)) := by
    rw [ex, nI_clamp (by omega)]; exact sp_Be hB _
  refine And.intro (pk_in (r * 3 + q) 30 (by omega) ex) (nm_r eL (pk_le (sp_n rn (r * 3 + q)) n (fun h => ?_) (fun h => h0 (by omega))))
  have e : o + sp_n rn (r * 3 + q) ≤ n → ((∀ j, j < sp_n rn (r * 3 + q) → rl (r * 9 + q * 3 + j) = 9 ∨ rl (r * 9 + q * 3 + j) = wd (o + j)) ↔ sp_M rl rn w r q o) := by
    intro hz
    exact sp_M_w (w := wd) (w' := w) (p := q) hw hz
  rcases ho with ⟨ht, ho⟩ | ⟨ht, ho⟩
  · subst ho
    have e := e (by omega)
    exact br_t ht ⟨_, sp_stYl hr hq hL (by omega) (fun H => h1 ⟨h, e.mp H⟩) (fun H => h0 (fun z => H (e.mpr z.2))) (sp_n rn (r * 3 + q) + 1) 0 (by omega) (by omega) (fun j hj => absurd hj (Nat.not_lt_zero j))⟩
  · have e := e (by omega)
    refine br_f ht (nm_r (e' := nI o) (by rw [ho]; exact pk_sub h) ⟨_, sp_stYl hr hq hL (by omega) (fun H => h1 ⟨h, e.mp H⟩) (fun H => h0 (fun z => H (e.mpr z.2))) (sp_n rn (r * 3 + q) + 1) 0 (by omega) (by omega) (fun j hj => absurd hj (Nat.not_lt_zero j))⟩)
theorem sp_ap3 {post : Int32 → SY → Prop} {b cr cs : Nat} {bu kl kn rl rn rf rs rx sl sn sf wd ot : Nat → Int32} {gu gp : Int32} {L : Nat} (hL : L ≤ 24) (h : post 1 ((nI b), (nI cr), (nI cs), (nI L), gu, gp, bu, kl, kn, rf, rs, rx, rl, rn, sf, sn, sl, (sp_ov wd 0 L ot), ot)) :
    ∀ m i : Nat, i ≤ L → L - i < m → wY_apply_169 post (nI b) (nI cr) (nI cs) (nI L) gu gp m (nI i) bu kl kn rf rs rx rl rn sf sn sl (sp_ov wd 0 i ot) ot := by
  intro m
  induction m with
  | zero => intro i _ h; omega
  | succ m ih =>
    intro i hi hm
    refine pk_le L i (fun h2 => ?_) (fun h2 => ?_)
    · rw [show i = L by omega]; exact h
    · rw [nI_clamp (by omega)]
      exact ⟨vp_in_nI (by omega) (by omega), vp_in_nI (by omega) (by omega), nm_r sp_ov_s0 (nm_r (nI_1 i) (ih (i + 1) (by omega) (by omega)))⟩
theorem sp_ap2 {post : Int32 → SY → Prop} {b cr cs : Nat} {ws gu gp : Int32} {bu kl kn rl rn rf rs rx sl sn sf wd ot : Nat → Int32} {t : Int32} {r ad lf f1 : Nat} (hr : r < 10) (had : ad ≤ 3) (hlf : lf ≤ 15) (ht : (t = 0 ∧ f1 = 0) ∨ (¬ t = 0 ∧ f1 = lf))
    (h : ∀ ot' : Nat → Int32, ot' = sp_ov ot f1 ad (fun k => rl (r * 9 + 1 * 3 + k)) → post 1 ((nI b), (nI cr), (nI cs), (nI (lf + ad)), gu, gp, bu, kl, kn, rf, rs, rx, rl, rn, sf, sn, sl, (sp_ov wd 0 (lf + ad) ot'), ot')) :
    ∀ m i : Nat, i ≤ ad → ad - i < m → wY_apply_112 post (nI r) t (nI ad) (nI lf) (nI b) (nI cr) (nI cs) ws gu gp m (nI i) bu kl kn rf rs rx rl rn sf sn sl wd (sp_ov ot f1 i (fun k => rl (r * 9 + 1 * 3 + k))) := by
  intro m
  induction m with
  | zero => intro i _ h; omega
  | succ m ih =>
    intro i hi hm
    have ex : nI r * 9 + 3 + nI i = nI (r * 9 + 1 * 3 + i) := by
      rw [show nI r * 9 = nI (r * 9) from pk_mul r 9, show nI (r * 9) + 3 = nI (r * 9 + 3) from nI_add (r * 9) 3, nI_add]
    refine pk_le ad i (fun h2 => ?_) (fun h2 => ?_)
    · rw [show i = ad by omega]
      refine nm_r (nI_add lf ad) ⟨lf + ad + 1, ?_⟩
      have := sp_ap3 (L := lf + ad) (by omega) (h _ rfl) (lf + ad + 1) 0 (by omega) (by omega)
      rw [sp_ov_0] at this
      exact this
    · have go : ∀ z0 : Int32, z0 = nI f1 → wY_apply_133 post (wY_apply_112 post (nI r) t (nI ad) (nI lf) (nI b) (nI cr) (nI cs) ws gu gp m) (nI r) t (nI ad) (nI lf) (nI i) z0 (nI b) (nI cr) (nI cs) ws gu gp bu kl kn rf rs rx rl rn sf sn sl wd (sp_ov ot f1 i (fun k => rl (r * 9 + 1 * 3 + k))) := by
        intro z0 ez
        subst ez
        unfold wY_apply_133
        rw [ex, nI_add, nI_clamp (by omega), nI_clamp (by omega)]
        exact ⟨vp_in_nI (by omega) (by omega), vp_in_nI (by omega) (by omega), nm_r sp_ov_s (nm_r (nI_1 i) (ih (i + 1) (by omega) (by omega)))⟩
      rcases ht with ⟨ht, e⟩ | ⟨ht, e⟩
      · exact br_t ht (go 0 (by rw [e]; rfl))
      · exact br_f ht (go (nI lf) (by rw [e]))
theorem sp_ap1 {post : Int32 → SY → Prop} {b cr cs : Nat} {ws gu gp : Int32} {bu kl kn rl rn rf rs rx sl sn sf wd ot : Nat → Int32} {t : Int32} {r cu ad lf f0 g0 f1 : Nat} (hr : r < 10) (hcu : cu ≤ 3) (had : ad ≤ 3) (hlf : lf ≤ 15) (ht : (t = 0 ∧ f0 = ad ∧ g0 = cu ∧ f1 = 0) ∨ (¬ t = 0 ∧ f0 = 0 ∧ g0 = 0 ∧ f1 = lf))
    (h : ∀ ot' : Nat → Int32, ot' = sp_ov (sp_ov ot f0 lf (fun k => wd (g0 + k))) f1 ad (fun k => rl (r * 9 + 1 * 3 + k)) → post 1 ((nI b), (nI cr), (nI cs), (nI (lf + ad)), gu, gp, bu, kl, kn, rf, rs, rx, rl, rn, sf, sn, sl, (sp_ov wd 0 (lf + ad) ot'), ot')) :
    ∀ m i : Nat, i ≤ lf → lf - i < m → wY_apply_61 post (nI r) t (nI cu) (nI ad) (nI lf) (nI b) (nI cr) (nI cs) ws gu gp m (nI i) bu kl kn rf rs rx rl rn sf sn sl wd (sp_ov ot f0 i (fun k => wd (g0 + k))) := by
  intro m
  induction m with
  | zero => intro i _ h; omega
  | succ m ih =>
    intro i hi hm
    refine pk_le lf i (fun h2 => ?_) (fun h2 => ?_)
    · rw [show i = lf by omega]
      refine ⟨ad + 1, ?_⟩
      have := sp_ap2 (ws := ws) (t := t) hr had hlf (f1 := f1) (by rcases ht with ⟨a, _, _, c⟩ | ⟨a, _, _, c⟩; exact Or.inl ⟨a, c⟩; exact Or.inr ⟨a, c⟩) h (ad + 1) 0 (by omega) (by omega)
      rw [sp_ov_0] at this
      exact this
    · rcases ht with ⟨ht, e0, eg, e1⟩ | ⟨ht, e0, eg, e1⟩
      · subst e0
        subst eg
        refine br_t ht ?_
        unfold wY_apply_82
        rw [nI_add, nI_add, nI_clamp (by omega), nI_clamp (by omega)]
        exact br_t ht ⟨vp_in_nI (by omega) (by omega), vp_in_nI (by omega) (by omega), nm_r sp_ov_s (nm_r (nI_1 i) (ih (i + 1) (by omega) (by omega)))⟩
      · subst e0
        subst eg
        refine br_f ht ?_
        unfold wY_apply_82
        rw [show (0 : Int32) + nI i = nI (0 + i) from nI_add 0 i, nI_clamp (by omega)]
        exact br_f ht ⟨vp_in_nI (by omega) (by omega), vp_in_nI (by omega) (by omega), nm_r sp_ov_s (nm_r (nI_1 i) (ih (i + 1) (by omega) (by omega)))⟩
theorem sp_apYg {post : Int32 → SY → Prop} {b cr cs : Nat} {bu kl kn rl rn rf rs rx sl sn sf wd ot : Nat → Int32} {gu gp t : Int32} {w : Nat → Int32} {r n f0 g0 f1 o0 o2 : Nat} (hr : r < 10) (hB : sp_B rn 3) (hn : n ≤ 15) (hw : ∀ i, i < n → wd i = w i) (hrs : rs r = t)
    (ht : (t = 0 ∧ f0 = sp_n rn (r * 3 + 1) ∧ g0 = sp_n rn (r * 3 + 0) ∧ f1 = 0 ∧ o0 = 0 ∧ o2 = 0) ∨ (¬ t = 0 ∧ f0 = 0 ∧ g0 = 0 ∧ f1 = n - sp_n rn (r * 3 + 0) ∧ o0 = n - sp_n rn (r * 3 + 0) ∧ o2 = n - sp_n rn (r * 3 + 2)))
    (h1 : ((sp_n rn (r * 3 + 0) ≤ n ∧ sp_M rl rn w r 0 o0) ∧ (sp_n rn (r * 3 + 2) ≤ n ∧ sp_M rl rn w r 2 o2)) → ∀ ot' : Nat → Int32, ot' = sp_ov (sp_ov ot f0 (n - sp_n rn (r * 3 + 0)) (fun k => wd (g0 + k))) f1 (sp_n rn (r * 3 + 1)) (fun k => rl (r * 9 + 1 * 3 + k)) → post 1 ((nI b), (nI cr), (nI cs), (nI (sp_len rn r n)), gu, gp, bu, kl, kn, rf, rs, rx, rl, rn, sf, sn, sl, (sp_ov wd 0 (sp_len rn r n) ot'), ot'))
    (h0 : ¬ ((sp_n rn (r * 3 + 0) ≤ n ∧ sp_M rl rn w r 0 o0) ∧ (sp_n rn (r * 3 + 2) ≤ n ∧ sp_M rl rn w r 2 o2)) → post 0 ((nI b), (nI cr), (nI cs), (nI n), gu, gp, bu, kl, kn, rf, rs, rx, rl, rn, sf, sn, sl, wd, ot)) :
    wpY_apply post ((nI b), (nI cr), (nI cs), (nI n), gu, gp, bu, kl, kn, rf, rs, rx, rl, rn, sf, sn, sl, wd, ot) (nI r) := by
  have l0 : sp_n rn (r * 3 + 0) ≤ 3 := sp_Bl hB _
  have l1 : sp_n rn (r * 3 + 1) ≤ 3 := sp_Bl hB _
  have l2 : sp_n rn (r * 3 + 2) ≤ 3 := sp_Bl hB _
  refine And.intro (vp_in_nI (by omega) (by omega)) (nm_r (e' := t) (by rw [nI_clamp (by omega)]; exact hrs) ?_)
  refine sp_stY (q := 0) (w := w) (o := o0) hr (by omega) hB (by omega) hw ?_ (fun m0 => br_f (by decide) ?_) (fun m0 => br_t rfl (h0 (fun z => m0 z.1)))
  · rcases ht with ⟨a, _, _, _, c, _⟩ | ⟨a, _, _, _, c, _⟩
    · exact Or.inl ⟨a, c⟩
    · exact Or.inr ⟨a, c⟩
  refine sp_stY (q := 2) (w := w) (o := o2) hr (by omega) hB (by omega) hw ?_ (fun m2 => br_f (by decide) ?_) (fun m2 => br_t rfl (h0 (fun z => m2 z.2)))
  · rcases ht with ⟨a, _, _, _, _, c⟩ | ⟨a, _, _, _, _, c⟩
    · exact Or.inl ⟨a, c⟩
    · exact Or.inr ⟨a, c⟩
  have e0 : nI r * 3 = nI (r * 3 + 0) := pk_mul r 3
  have e1 : nI r * 3 + 1 = nI (r * 3 + 1) := sp_mi r 3 1 rfl
  rw [e1, e0, nI_clamp (by omega), nI_clamp (by omega)]
  refine ⟨vp_in_nI (by omega) (by omega), nm_r (sp_Be hB _) ⟨vp_in_nI (by omega) (by omega), nm_r (sp_Be hB _) (nm_r (pk_sub m0.1) ⟨n - sp_n rn (r * 3 + 0) + 1, ?_⟩)⟩⟩
  have := sp_ap1 (ws := nI n) (t := t) (r := r) (cu := sp_n rn (r * 3 + 0)) (ad := sp_n rn (r * 3 + 1)) (lf := n - sp_n rn (r * 3 + 0)) (f0 := f0) (g0 := g0) (f1 := f1) hr l0 l1 (by omega) ?_ (h1 ⟨m0, m2⟩) (n - sp_n rn (r * 3 + 0) + 1) 0 (by omega) (by omega)
  · rw [sp_ov_0] at this
    exact this
  · rcases ht with ⟨a, c1, c2, c3, _⟩ | ⟨a, c1, c2, c3, _⟩
    · exact Or.inl ⟨a, c1, c2, c3⟩
    · exact Or.inr ⟨a, c1, c2, c3⟩
theorem sp_asY {post : Int32 → SY → Prop} {b cr cs : Nat} {bu kl kn rl rn rf rs rx sl sn sf wd ot : Nat → Int32} {gu gp : Int32} {w : Nat → Int32} {r n : Nat} (hr : r < 10) (hB : sp_B rn 3) (hn : n ≤ 15) (hw : ∀ i, i < n → wd i = w i) (hrs : rs r = 1)
    (h1 : sp_okS rl rn r n w → ∀ wd' ot' : Nat → Int32, (∀ i, i < sp_len rn r n → wd' i = sp_aS rl rn r n w i) → post 1 ((nI b), (nI cr), (nI cs), (nI (sp_len rn r n)), gu, gp, bu, kl, kn, rf, rs, rx, rl, rn, sf, sn, sl, wd', ot'))
    (h0 : ¬ sp_okS rl rn r n w → post 0 ((nI b), (nI cr), (nI cs), (nI n), gu, gp, bu, kl, kn, rf, rs, rx, rl, rn, sf, sn, sl, wd, ot)) :
    wpY_apply post ((nI b), (nI cr), (nI cs), (nI n), gu, gp, bu, kl, kn, rf, rs, rx, rl, rn, sf, sn, sl, wd, ot) (nI r) := by
  refine sp_apYg (w := w) (t := 1) (f0 := 0) (g0 := 0) (f1 := n - sp_n rn (r * 3 + 0)) (o0 := n - sp_n rn (r * 3 + 0)) (o2 := n - sp_n rn (r * 3 + 2)) hr hB hn hw hrs (Or.inr ⟨by decide, rfl, rfl, rfl, rfl, rfl⟩) (fun ok ot' eo => h1 ok _ ot' ?_) h0
  intro i hi
  rw [sp_ov_i0 hi, eo]
  unfold sp_len at hi
  unfold sp_aS
  by_cases e : i < n - sp_n rn (r * 3 + 0)
  · rw [if_pos e, sp_ov_out (by omega), sp_ov_i0 e, Nat.zero_add]
    exact hw i (by omega)
  · rw [if_neg e]
    have := sp_ov_in (a := sp_ov ot 0 (n - sp_n rn (r * 3 + 0)) (fun k => wd (0 + k))) (f := n - sp_n rn (r * 3 + 0)) (m := sp_n rn (r * 3 + 1)) (j := i - (n - sp_n rn (r * 3 + 0))) (g := fun k => rl (r * 9 + 1 * 3 + k)) (by omega)
    rw [show n - sp_n rn (r * 3 + 0) + (i - (n - sp_n rn (r * 3 + 0))) = i by omega] at this
    exact this
theorem sp_apY {post : Int32 → SY → Prop} {b cr cs : Nat} {bu kl kn rl rn rf rs rx sl sn sf wd ot : Nat → Int32} {gu gp : Int32} {w : Nat → Int32} {r n : Nat} (hr : r < 10) (hB : sp_B rn 3) (hn : n ≤ 15) (hw : ∀ i, i < n → wd i = w i) (hrs : rs r = 0)
    (h1 : sp_okP rl rn r n w → ∀ wd' ot' : Nat → Int32, (∀ i, i < sp_len rn r n → wd' i = sp_aP rl rn r w i) → post 1 ((nI b), (nI cr), (nI cs), (nI (sp_len rn r n)), gu, gp, bu, kl, kn, rf, rs, rx, rl, rn, sf, sn, sl, wd', ot'))
    (h0 : ¬ sp_okP rl rn r n w → post 0 ((nI b), (nI cr), (nI cs), (nI n), gu, gp, bu, kl, kn, rf, rs, rx, rl, rn, sf, sn, sl, wd, ot)) :
    wpY_apply post ((nI b), (nI cr), (nI cs), (nI n), gu, gp, bu, kl, kn, rf, rs, rx, rl, rn, sf, sn, sl, wd, ot) (nI r) := by
  refine sp_apYg (w := w) (t := 0) (f0 := sp_n rn (r * 3 + 1)) (g0 := sp_n rn (r * 3 + 0)) (f1 := 0) (o0 := 0) (o2 := 0) hr hB hn hw hrs (Or.inl ⟨rfl, rfl, rfl, rfl, rfl, rfl⟩) (fun ok ot' eo => h1 ok _ ot' ?_) h0
  intro i hi
  rw [sp_ov_i0 hi, eo]
  unfold sp_len at hi
  unfold sp_aP
  by_cases e : i < sp_n rn (r * 3 + 1)
  · rw [if_pos e]
    exact sp_ov_i0 e
  · rw [if_neg e, sp_ov_out (by omega)]
    have := sp_ov_in (a := ot) (f := sp_n rn (r * 3 + 1)) (m := n - sp_n rn (r * 3 + 0)) (j := i - sp_n rn (r * 3 + 1)) (g := fun k => wd (sp_n rn (r * 3 + 0) + k)) (by omega)
    rw [show sp_n rn (r * 3 + 1) + (i - sp_n rn (r * 3 + 1)) = i by omega] at this
    rw [this, hw _ (by omega)]
    exact congrArg w (by omega)
