theorem sp_g214Y {post : Int32 → SY → Prop} {b cr cs : Nat} {ws gu gp : Int32} {bu kl kn rl rn rf rs rx sl sn sf wd ot : Nat → Int32} (hb : b ≤ 12)
    (h1 : (∀ i, i < b → wd i = bu i) → post 1 ((nI b), (nI cr), (nI cs), ws, gu, gp, bu, kl, kn, rf, rs, rx, rl, rn, sf, sn, sl, wd, ot)) (h0 : ¬ (∀ i, i < b → wd i = bu i) → post 0 ((nI b), (nI cr), (nI cs), ws, gu, gp, bu, kl, kn, rf, rs, rx, rl, rn, sf, sn, sl, wd, ot)) :
    ∀ m i : Nat, i ≤ b → b - i < m → (∀ j, j < i → wd j = bu j) → wY_gives_214 post (nI b) (nI cr) (nI cs) ws gu gp bu kl kn rf rs rx rl rn sf sn sl wd ot m (nI i) := by
  intro m
  induction m with
  | zero => intro i _ h; omega
  | succ m ih =>
    intro i hi hm hp
    refine pk_le b i (fun h => h1 (fun j hj => hp j (by omega))) (fun h => ?_)
    rw [nI_clamp (by omega)]
    refine ⟨vp_in_nI (by omega) (by omega), vp_in_nI (by omega) (by omega), br_c (fun e => nm_r (nI_1 i) (ih (i + 1) (by omega) (by omega) (fun j hj => ?_))) (fun e => h0 (fun H => e (H i h)))⟩
    by_cases z : j = i
    · rw [z]; exact e
    · exact hp j (by omega)
theorem sp_g191Y {post : Int32 → SY → Prop} {b cr cs : Nat} {bu kl kn rl rn rf rs rx sl sn sf wd ot : Nat → Int32} {gu gp : Int32} {w : Nat → Int32} {n : Nat} (hb : b ≤ 12) (hn : n ≤ 24) (hw : ∀ i, i < n → wd i = w i)
    (h1 : 0 < b → sp_fit b bu n w → post 1 ((nI b), (nI cr), (nI cs), (nI n), gu, gp, bu, kl, kn, rf, rs, rx, rl, rn, sf, sn, sl, wd, ot)) (h0 : ¬ (0 < b ∧ sp_fit b bu n w) → post 0 ((nI b), (nI cr), (nI cs), (nI n), gu, gp, bu, kl, kn, rf, rs, rx, rl, rn, sf, sn, sl, wd, ot)) :
    wY_gives_191 post (nI b) (nI cr) (nI cs) (nI n) gu gp bu kl kn rf rs rx rl rn sf sn sl wd ot := by
  unfold wY_gives_191
  refine pk_eq n b (fun e => ?_) (fun e => h0 (fun z => e z.2.1))
  subst e
  refine pk_eq n 0 (fun e => h0 (by omega)) (fun e => ⟨n + 1, ?_⟩)
  have q : (∀ i, i < n → wd i = bu i) ↔ sp_fit n bu n w := by
    constructor
    · intro H
      exact ⟨rfl, fun i hi => by rw [← hw i hi]; exact H i hi⟩
    · intro H i hi
      rw [hw i hi]; exact H.2 i hi
  exact sp_g214Y hb (fun H => h1 (by omega) (q.mp H)) (fun H => h0 (fun z => H (q.mpr z.2))) (n + 1) 0 (by omega) (by omega) (fun j hj => absurd hj (Nat.not_lt_zero j))
theorem sp_g177Y {post : Int32 → SY → Prop} {b cr cs : Nat} {bu kl kn rl rn rf rs rx sl sn sf wd ot : Nat → Int32} {gu gp : Int32} {w : Nat → Int32} {n d : Nat} (hb : b ≤ 12) (hB : sp_B rn 3) (hn : n ≤ 15) (hd : d ≤ 10) (hw : ∀ i, i < n → wd i = w i) (hrs : d = 0 ∨ rs (d - 1) = 0)
    (h1 : 0 < b → (sp_oP rl rn d n w ∧ sp_fit b bu (sp_nc rn d n) (sp_wP rl rn d w)) → ∀ (ws : Int32) (wd ot : Nat → Int32), post 1 ((nI b), (nI cr), (nI cs), ws, gu, gp, bu, kl, kn, rf, rs, rx, rl, rn, sf, sn, sl, wd, ot))
    (h0 : ¬ (0 < b ∧ (sp_oP rl rn d n w ∧ sp_fit b bu (sp_nc rn d n) (sp_wP rl rn d w))) → ∀ (ws : Int32) (wd ot : Nat → Int32), post 0 ((nI b), (nI cr), (nI cs), ws, gu, gp, bu, kl, kn, rf, rs, rx, rl, rn, sf, sn, sl, wd, ot)) :
    wY_gives_177 post (sp_u d) (nI b) (nI cr) (nI cs) (nI n) gu gp bu kl kn rf rs rx rl rn sf sn sl wd ot := by
  unfold wY_gives_177
  refine sp_u_neg d (by omega) (fun e => ?_) (fun r e => ?_)
  · subst e
    exact sp_g191Y (w := w) hb (by omega) hw (fun hz z => h1 hz ⟨Or.inl rfl, z⟩ _ _ _) (fun z => h0 (fun y => z ⟨y.1, y.2.2⟩) _ _ _)
  · subst e
    have l1 : sp_n rn (r * 3 + 1) ≤ 3 := sp_Bl hB _
    have h18 : sp_len rn r n ≤ 24 := by unfold sp_len; omega
    rw [sp_us]
    refine sp_apY (w := w) (by omega) hB hn hw (by rcases hrs with z | z; omega; exact z) (fun ok wd' ot' hw' => ?_) (fun ok => ?_)
    · refine br_f (by decide) ?_
      exact sp_g191Y (w := sp_aP rl rn r w) hb h18 hw' (fun hz z => h1 hz ⟨Or.inr ok, z⟩ _ _ _) (fun z => h0 (fun y => z ⟨y.1, y.2.2⟩) _ _ _)
    · refine br_t rfl (h0 ?_ _ _ _)
      rintro ⟨_, z | z, _⟩
      · omega
      · exact ok z
theorem sp_g129Y {post : Int32 → SY → Prop} {b cr cs : Nat} {bu kl kn rl rn rf rs rx sl sn sf wd ot : Nat → Int32} {gu gp : Int32} {s c d : Nat} (hb : b ≤ 12) (hB : sp_B rn 3) (hS : sp_B sn 12) (hs : s < 12) (hc : c ≤ 10) (hd : d ≤ 10) (hrc : c = 0 ∨ rs (c - 1) = 1) (hrs : d = 0 ∨ rs (d - 1) = 0)
    (h1 : 0 < b → sp_go b bu rl rn c d (sp_n sn s) (fun i => sl (s * 12 + i)) → ∀ (ws : Int32) (wd ot : Nat → Int32), post 1 ((nI b), (nI cr), (nI cs), ws, gu, gp, bu, kl, kn, rf, rs, rx, rl, rn, sf, sn, sl, wd, ot))
    (h0 : ¬ (0 < b ∧ sp_go b bu rl rn c d (sp_n sn s) (fun i => sl (s * 12 + i))) → ∀ (ws : Int32) (wd ot : Nat → Int32), post 0 ((nI b), (nI cr), (nI cs), ws, gu, gp, bu, kl, kn, rf, rs, rx, rl, rn, sf, sn, sl, wd, ot)) :
    ∀ m i : Nat, i ≤ sp_n sn s → sp_n sn s - i < m → wY_gives_129 post (nI s) (sp_u c) (sp_u d) (nI b) (nI cr) (nI cs) (nI (sp_n sn s)) gu gp m (nI i) bu kl kn rf rs rx rl rn sf sn sl (sp_ov wd 0 i (fun k => sl (s * 12 + k))) ot := by
  have hN : sp_n sn s ≤ 12 := sp_Bl hS _
  have hw0 : ∀ i, i < sp_n sn s → sp_ov wd 0 (sp_n sn s) (fun k => sl (s * 12 + k)) i = (fun i => sl (s * 12 + i)) i := fun i hi => sp_ov_i0 (g := fun k => sl (s * 12 + k)) hi
  intro m
  induction m with
  | zero => intro i _ h; omega
  | succ m ih =>
    intro i hi hm
    refine pk_le (sp_n sn s) i (fun h2 => ?_) (fun h2 => ?_)
    · rw [show i = sp_n sn s by omega]
      refine sp_u_neg c (by omega) (fun e => ?_) (fun r e => ?_)
      · subst e
        exact sp_g177Y (w := fun i => sl (s * 12 + i)) hb hB (by omega) hd hw0 hrs (fun hz z => h1 hz ⟨Or.inl rfl, z⟩) (fun z => h0 (fun y => z ⟨y.1, y.2.2⟩))
      · subst e
        have h15 : sp_len rn r (sp_n sn s) ≤ 15 := by
          have l1 : sp_n rn (r * 3 + 1) ≤ 3 := sp_Bl hB _
          unfold sp_len; omega
        rw [sp_us]
        refine sp_asY (w := fun i => sl (s * 12 + i)) (by omega) hB (by omega) hw0 (by rcases hrc with z | z; omega; exact z) (fun ok wd' ot' hw' => ?_) (fun ok => ?_)
        · refine br_f (by decide) ?_
          exact sp_g177Y (w := sp_aS rl rn r (sp_n sn s) (fun i => sl (s * 12 + i))) hb hB h15 hd hw' hrs (fun hz z => h1 hz ⟨Or.inr ok, z⟩) (fun z => h0 (fun y => z ⟨y.1, y.2.2⟩))
        · refine br_t rfl (h0 ?_ _ _ _)
          rintro ⟨_, z | z, _⟩
          · omega
          · exact ok z
    · rw [show nI s * 12 + nI i = nI (s * 12 + i) from sp_mi s 12 i rfl, nI_clamp (by omega), nI_clamp (by omega)]
      exact ⟨vp_in_nI (by omega) (by omega), vp_in_nI (by omega) (by omega), nm_r sp_ov_s0 (nm_r (nI_1 i) (ih (i + 1) (by omega) (by omega)))⟩
theorem sp_g116Y {post : Int32 → SY → Prop} {b cr cs : Nat} {ws gu gp : Int32} {bu kl kn rl rn rf rs rx sl sn sf wd ot : Nat → Int32} {s c d : Nat} (hb : b ≤ 12) (hB : sp_B rn 3) (hS : sp_B sn 12) (hs : s < 12) (hc : c ≤ 10) (hd : d ≤ 10) (hrc : c = 0 ∨ rs (c - 1) = 1) (hrs : d = 0 ∨ rs (d - 1) = 0)
    (h1 : 0 < b → sp_go b bu rl rn c d (sp_n sn s) (fun i => sl (s * 12 + i)) → ∀ (ws : Int32) (wd ot : Nat → Int32), post 1 ((nI b), (nI cr), (nI cs), ws, gu, gp, bu, kl, kn, rf, rs, rx, rl, rn, sf, sn, sl, wd, ot))
    (h0 : ¬ (0 < b ∧ sp_go b bu rl rn c d (sp_n sn s) (fun i => sl (s * 12 + i))) → ∀ (ws : Int32) (wd ot : Nat → Int32), post 0 ((nI b), (nI cr), (nI cs), ws, gu, gp, bu, kl, kn, rf, rs, rx, rl, rn, sf, sn, sl, wd, ot)) :
    wY_gives_116 post (nI s) (sp_u c) (sp_u d) (nI b) (nI cr) (nI cs) ws gu gp bu kl kn rf rs rx rl rn sf sn sl wd ot := by
  unfold wY_gives_116
  refine ⟨vp_in_nI hs (by omega), nm_r (e' := nI (sp_n sn s)) (by rw [nI_clamp (by omega)]; exact sp_Be hS _) ⟨sp_n sn s + 1, ?_⟩⟩
  have := sp_g129Y (wd := wd) (ot := ot) hb hB hS hs hc hd hrc hrs h1 h0 (sp_n sn s + 1) 0 (by omega) (by omega)
  rw [sp_ov_0] at this
  exact this
theorem sp_g76Y {post : Int32 → SY → Prop} {b cr cs : Nat} {ws gu gp : Int32} {bu kl kn rl rn rf rs rx sl sn sf wd ot : Nat → Int32} {x1 x4 z0 : Int32} {c d : Nat} (hc : c ≤ 10) (hd : d ≤ 10)
    (h1 : ¬ x4 = 0 → ¬ z0 = 0 → sp_to rx c d → wY_gives_116 post x1 (sp_u c) (sp_u d) (nI b) (nI cr) (nI cs) ws gu gp bu kl kn rf rs rx rl rn sf sn sl wd ot)
    (h0 : ¬ (¬ x4 = 0 ∧ ¬ z0 = 0 ∧ sp_to rx c d) → post 0 ((nI b), (nI cr), (nI cs), ws, gu, gp, bu, kl, kn, rf, rs, rx, rl, rn, sf, sn, sl, wd, ot)) :
    wY_gives_76 post x1 (sp_u c) (sp_u d) x4 z0 (nI b) (nI cr) (nI cs) ws gu gp bu kl kn rf rs rx rl rn sf sn sl wd ot := by
  unfold wY_gives_76
  refine br_c (fun e => h0 (fun z => z.1 e)) (fun e4 => br_c (fun e => h0 (fun z => z.2.1 e)) (fun ez => ?_))
  refine sp_u_neg c (by omega) (fun e => h1 e4 ez (Or.inl e)) (fun r e => ?_)
  refine sp_u_neg d (by omega) (fun e' => h1 e4 ez (Or.inr (Or.inl e'))) (fun q e' => ?_)
  subst e
  subst e'
  rw [sp_us] at *
  rw [sp_us] at *
  rw [nI_clamp (by omega), nI_clamp (by omega)]
  refine ⟨vp_in_nI (by omega) (by omega), br_c (fun e => h0 ?_) (fun e => ⟨vp_in_nI (by omega) (by omega), br_c (fun e2 => h0 ?_) (fun e2 => h1 e4 ez (Or.inr (Or.inr ⟨e, e2⟩)))⟩)⟩
  · rintro ⟨_, _, z | z | z⟩
    · omega
    · omega
    · exact z.1 e
  · rintro ⟨_, _, z | z | z⟩
    · omega
    · omega
    · exact z.2 e2
theorem sp_g37Y {post : Int32 → SY → Prop} {b cr cs : Nat} {ws gu gp : Int32} {bu kl kn rl rn rf rs rx sl sn sf wd ot : Nat → Int32} {z0 : Int32} {s c d : Nat} (hs : s < 12) (hcr : cr ≤ 10) (hc : c ≤ cr) (hd : d ≤ cr)
    (h1 : ¬ z0 = 0 → sp_al cr rs rf sf s d 0 → sp_to rx c d → wY_gives_116 post (nI s) (sp_u c) (sp_u d) (nI b) (nI cr) (nI cs) ws gu gp bu kl kn rf rs rx rl rn sf sn sl wd ot)
    (h0 : ¬ (¬ z0 = 0 ∧ sp_al cr rs rf sf s d 0 ∧ sp_to rx c d) → post 0 ((nI b), (nI cr), (nI cs), ws, gu, gp, bu, kl, kn, rf, rs, rx, rl, rn, sf, sn, sl, wd, ot)) :
    wY_gives_37 post (nI s) (sp_u c) (sp_u d) z0 (nI b) (nI cr) (nI cs) ws gu gp bu kl kn rf rs rx rl rn sf sn sl wd ot := by
  have g1 : sp_al cr rs rf sf s d 0 → wY_gives_71 post (nI s) (sp_u c) (sp_u d) z0 (nI b) (nI cr) (nI cs) ws gu gp bu kl kn rf rs rx rl rn sf sn sl wd ot := by
    intro ha
    unfold wY_gives_71
    exact sp_g76Y (by omega) (by omega) (fun e4 _ t => h1 e4 ha t) (fun z => h0 (fun y => z ⟨y.1, by decide, y.2.2⟩))
  have g0 : ¬ sp_al cr rs rf sf s d 0 → wY_gives_75 post (nI s) (sp_u c) (sp_u d) z0 (nI b) (nI cr) (nI cs) ws gu gp bu kl kn rf rs rx rl rn sf sn sl wd ot := by
    intro ha
    unfold wY_gives_75
    exact sp_g76Y (by omega) (by omega) (fun _ e _ => absurd rfl e) (fun z => h0 (fun y => ha y.2.1))
  unfold wY_gives_37
  refine sp_u_neg d (by omega) (fun e => g1 (Or.inl e)) (fun r e => ?_)
  subst e
  rw [sp_us] at *
  rw [nI_clamp (by omega), nI_clamp (by omega)]
  refine ⟨vp_in_nI (by omega) (by omega), br_c (fun e => ⟨vp_in_nI (by omega) (by omega), vp_in_nI (by omega) (by omega), br_c (fun e2 => g1 (Or.inr ⟨hd, e, e2⟩)) (fun e2 => g0 ?_)⟩) (fun e => g0 ?_)⟩
  · rintro (z | z)
    · omega
    · exact e2 z.2.2
  · rintro (z | z)
    · omega
    · exact e z.2.1
theorem sp_gvY {post : Int32 → SY → Prop} {b cr cs : Nat} {ws gu gp : Int32} {bu kl kn rl rn rf rs rx sl sn sf wd ot : Nat → Int32} {s c d : Nat} (hb : b ≤ 12) (hcr : cr ≤ 10) (hB : sp_B rn 3) (hS : sp_B sn 12) (hR : ∀ i, rs i = 0 ∨ rs i = 1) (hs : s < 12) (hc : c ≤ cr) (hd : d ≤ cr)
    (h1 : 0 < b → sp_G b cr bu rl rn rf rs rx sl sn sf s c d → ∀ (ws : Int32) (wd ot : Nat → Int32), post 1 ((nI b), (nI cr), (nI cs), ws, gu, gp, bu, kl, kn, rf, rs, rx, rl, rn, sf, sn, sl, wd, ot))
    (h0 : ¬ (0 < b ∧ sp_G b cr bu rl rn rf rs rx sl sn sf s c d) → ∀ (ws : Int32) (wd ot : Nat → Int32), post 0 ((nI b), (nI cr), (nI cs), ws, gu, gp, bu, kl, kn, rf, rs, rx, rl, rn, sf, sn, sl, wd, ot)) :
    wpY_gives post ((nI b), (nI cr), (nI cs), ws, gu, gp, bu, kl, kn, rf, rs, rx, rl, rn, sf, sn, sl, wd, ot) (nI s) (sp_u c) (sp_u d) := by
  have g1 : sp_al cr rs rf sf s c 1 → wY_gives_32 post (nI s) (sp_u c) (sp_u d) (nI b) (nI cr) (nI cs) ws gu gp bu kl kn rf rs rx rl rn sf sn sl wd ot := by
    intro ha
    unfold wY_gives_32
    refine sp_g37Y hs hcr hc hd (fun _ hb' ht => ?_) (fun z => h0 (fun y => z ⟨by decide, y.2.1.2.1, y.2.1.2.2⟩) _ _ _)
    refine sp_g116Y hb hB hS hs (by omega) (by omega) ?_ ?_ (fun hz g => h1 hz ⟨⟨ha, hb', ht⟩, g⟩) (fun z => h0 (fun y => z ⟨y.1, y.2.2⟩))
    · rcases ha with z | z
      · exact Or.inl z
      · exact Or.inr z.2.1
    · rcases hb' with z | z
      · exact Or.inl z
      · exact Or.inr z.2.1
  have g0 : ¬ sp_al cr rs rf sf s c 1 → wY_gives_36 post (nI s) (sp_u c) (sp_u d) (nI b) (nI cr) (nI cs) ws gu gp bu kl kn rf rs rx rl rn sf sn sl wd ot := by
    intro ha
    unfold wY_gives_36
    exact sp_g37Y hs hcr hc hd (fun e _ _ => absurd rfl e) (fun z => h0 (fun y => ha y.2.1.1) _ _ _)
  refine sp_u_neg c (by omega) (fun e => g1 (Or.inl e)) (fun r e => ?_)
  subst e
  rw [sp_us] at *
  rw [nI_clamp (by omega), nI_clamp (by omega)]
  refine ⟨vp_in_nI (by omega) (by omega), br_c (fun e => g0 ?_) (fun e => ⟨vp_in_nI (by omega) (by omega), vp_in_nI (by omega) (by omega), br_c (fun e2 => g1 (Or.inr ⟨hc, ?_, e2⟩)) (fun e2 => g0 ?_)⟩)⟩
  · rintro (z | z)
    · omega
    · have := z.2.1
      rw [show r + 1 - 1 = r by omega, e] at this
      exact absurd this (by decide)
  · rcases hR r with z | z
    · exact absurd z e
    · exact z
  · rintro (z | z)
    · omega
    · exact e2 z.2.2
