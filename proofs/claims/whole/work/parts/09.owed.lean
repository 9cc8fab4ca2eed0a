theorem sp_nar (v : Int32) : vp_nar .boolean (lw_bz v) = lw_bz v := by
  unfold vp_nar
  rw [lw_bz_n]
/-- both hold the same buffer, parts, rules and stems; working space is free -/
def i_Rel (_ : Nat) (u : SX) (v : SY) : Prop := ∃ (b cr cs : Nat) (fs fe ws gu gp : Int32) (bu kl kn rl rn rf rs rx sl sn sf fm wd ot : Nat → Int32), u = ((nI b), (nI cr), (nI cs), fs, fe, bu, kl, kn, rl, rn, rf, rs, rx, sl, sn, sf, fm) ∧ v = ((nI b), (nI cr), (nI cs), ws, gu, gp, bu, kl, kn, rf, rs, rx, rl, rn, sf, sn, sl, wd, ot) ∧ sp_Inv b cr cs kl kn rl rn rs sl sn
theorem sp_rel {k b cr cs : Nat} {fs fe ws gu gp : Int32} {bu kl kn rl rn rf rs rx sl sn sf fm wd ot : Nat → Int32} (h : sp_Inv b cr cs kl kn rl rn rs sl sn) : i_Rel k ((nI b), (nI cr), (nI cs), fs, fe, bu, kl, kn, rl, rn, rf, rs, rx, sl, sn, sf, fm) ((nI b), (nI cr), (nI cs), ws, gu, gp, bu, kl, kn, rf, rs, rx, rl, rn, sf, sn, sl, wd, ot) :=
  ⟨b, cr, cs, fs, fe, ws, gu, gp, bu, kl, kn, rl, rn, rf, rs, rx, sl, sn, sf, fm, wd, ot, rfl, rfl, h⟩
theorem i_up {k : Nat} {u : SX} {v : SY} (h : i_Rel k u v) : i_Rel (k + 4) u v := h
theorem sp_B0 (m : Nat) : sp_B (fun _ => 0) m := fun _ => ⟨0, Nat.zero_le m, rfl⟩
theorem sp_n0 (i : Nat) : sp_n (fun _ => 0) i = 0 := by
  show (0 : Int32).toNatClampNeg = 0
  decide
theorem i_vc0 : wpX_init (fun u => wpY_init (fun v => i_Rel 0 u v)) := by
  refine sp_rel (k := 0) (b := 0) (cr := 0) (cs := 0) ⟨by omega, by omega, by omega, sp_B0 3, sp_B0 3, sp_B0 12, fun _ => Or.inl rfl, ?_, ?_, ?_⟩
  · intro i hi
    rw [sp_n0] at hi
    omega
  · intro r hr
    omega
  · intro s hs
    omega
theorem sp_hQ0 {b cr cs : Nat} {bu kl kn rl rn rf rs rx sl sn sf : Nat → Int32} (h : sp_Inv b cr cs kl kn rl rn rs sl sn) : ¬ (0 < b ∧ ¬ sp_9 b bu) → ∀ a, a < cs * 121 → ¬ (0 < b ∧ sp_P b cr bu rl rn rf rs rx sl sn sf a) := by
  intro hn a ha hq
  have h9 : sp_9 b bu := Classical.byContradiction (fun z => hn ⟨hq.1, z⟩)
  obtain ⟨i1, i2, i3, i4, i5, i6, i7, i8, i9, i10⟩ := h
  exact sp_G_9 (i10 (a / 121) (by omega)) i9 h9 hq.2
theorem i_vc_type {k : Nat} {u : SX} {v : SY} (I : i_Rel k u v) (hk : k + 4 ≤ 2048) (v1 : Int32) : wpX_type (fun r u' => wpY_type (fun r' v' => r' = r ∧ i_Rel (k + 4) u' v') v v1) u v1 := by
  obtain ⟨b, cr, cs, fs, fe, ws, gu, gp, bu, kl, kn, rl, rn, rf, rs, rx, sl, sn, sf, fm, wd, ot, rfl, rfl, h⟩ := I
  have i1 := h.1
  by_cases h1 : v1 < 1
  · exact br_t h1 (br_t h1 ⟨rfl, sp_rel h⟩)
  by_cases h9 : v1 ≤ 9
  · refine br_f h1 (br_t h9 (pk_lt b 12 (fun hb => And.intro (vp_in_nI hb (by omega)) (nm_e (nm_r (nI_1 b) ?_))) (fun hb => ?_)))
    · refine br_f h1 (br_t h9 (pk_eq b 12 (fun z => by omega) (fun z => And.intro (vp_in_nI hb (by omega)) (nm_e (nm_r (nI_1 b) ⟨rfl, sp_rel ⟨by omega, h.2⟩⟩)))))
    · exact br_f h1 (br_t h9 (pk_eq b 12 (fun z => ⟨rfl, sp_rel h⟩) (fun z => by omega)))
  · exact br_f h1 (br_f h9 (br_f h1 (br_f h9 ⟨rfl, sp_rel h⟩)))
theorem i_vc_erase {k : Nat} {u : SX} {v : SY} (I : i_Rel k u v) (hk : k + 4 ≤ 2048) : wpX_erase (fun u' => wpY_erase (fun v' => i_Rel (k + 4) u' v') v) u := by
  obtain ⟨b, cr, cs, fs, fe, ws, gu, gp, bu, kl, kn, rl, rn, rf, rs, rx, sl, sn, sf, fm, wd, ot, rfl, rfl, h⟩ := I
  exact sp_rel (k := k + 4) (b := 0) ⟨by omega, h.2⟩
theorem i_vc_keep {k : Nat} {u : SX} {v : SY} (I : i_Rel k u v) (hk : k + 4 ≤ 2048) (v1 : Int32) : wpX_keep (fun r u' => wpY_keep (fun r' v' => r' = r ∧ i_Rel (k + 4) u' v') v v1) u v1 := by
  obtain ⟨b, cr, cs, fs, fe, ws, gu, gp, bu, kl, kn, rl, rn, rf, rs, rx, sl, sn, sf, fm, wd, ot, rfl, rfl, h⟩ := I
  have i1 := h.1
  by_cases h0 : v1 < 0
  · exact br_t h0 (br_t h0 ⟨rfl, sp_rel h⟩)
  obtain ⟨p, hp, rfl⟩ := nI_of h0
  by_cases h3 : p < 3
  · refine sp_kpX h3 i1 (fun hb h9 => ?_) (fun hn => ?_)
    · exact sp_kpY h3 i1 (fun _ _ => ⟨rfl, sp_rel (b := 0) (sp_Inv_keep h h3 hb h9)⟩) (fun z => absurd ⟨hb, h9⟩ z)
    · exact sp_kpY h3 i1 (fun hb h9 => absurd ⟨hb, h9⟩ hn) (fun _ => ⟨rfl, sp_rel h⟩)
  · refine br_f h0 (pk_lt p 3 (fun z => absurd z h3) (fun _ => ?_))
    exact br_f h0 (pk_le p 2 (fun z => by omega) (fun _ => ⟨rfl, sp_rel h⟩))
theorem i_vc_rule {k : Nat} {u : SX} {v : SY} (I : i_Rel k u v) (hk : k + 4 ≤ 2048) (v1 : Int32) (v2 : Int32) (v3 : Int32) : wpX_rule (fun r u' => wpY_rule (fun r' v' => r' = r ∧ i_Rel (k + 4) u' v') v v1 (lw_bz v2) (lw_bz v3)) u v1 (lw_bz v2) (lw_bz v3) := by
  obtain ⟨b, cr, cs, fs, fe, ws, gu, gp, bu, kl, kn, rl, rn, rf, rs, rx, sl, sn, sf, fm, wd, ot, rfl, rfl, h⟩ := I
  have i2 := h.2.1
  by_cases h0 : v1 < 0
  · exact br_t h0 (br_t h0 ⟨rfl, sp_rel h⟩)
  by_cases h7 : v1 ≤ 7
  · refine br_f h0 (br_t h7 (pk_lt cr 10 (fun hr => ?_) (fun hr => ?_)))
    · refine sp_cpX hr ?_
      have hi : vp_in (nI cr) 10 := vp_in_nI hr (by omega)
      refine And.intro hi (nm_e (And.intro hi (nm_e (And.intro hi (nm_e (nm_r (nI_1 cr) ?_))))))
      refine br_f h0 (br_t h7 (pk_eq cr 10 (fun z => by omega) (fun _ => And.intro hi (nm_e (And.intro hi (nm_e (And.intro hi (nm_e ⟨10, ?_⟩))))))))
      rw [sp_nar, sp_nar, nI_clamp (by omega)]
      have := sp_ru1Y (post := fun r' v' => r' = nI cr ∧ i_Rel (k + 4) ((nI b), (nI (cr + 1)), (nI cs), fs, fe, bu, kl, kn, (sp_ov rl (cr * 9) 9 kl), (sp_ov rn (cr * 3) 3 kn), (upd rf cr v1), (upd rs cr (lw_bz v2)), (upd rx cr (lw_bz v3)), sl, sn, sf, fm) v') (b := b) (cs := cs) (ws := ws) (gu := gu) (gp := gp) (bu := bu) (kl := kl) (kn := kn) (rf := upd rf cr v1) (rs := upd rs cr (lw_bz v2)) (rx := upd rx cr (lw_bz v3)) (rl := rl) (rn := rn) (sf := sf) (sn := sn) (sl := sl) (wd := wd) (ot := ot) hr ⟨rfl, sp_rel (sp_Inv_rule h hr (lw_bz_01 v2))⟩ 10 0 (by omega) (by omega)
      rw [sp_ov_0] at this
      exact this
    · exact br_f h0 (br_t h7 (pk_eq cr 10 (fun _ => ⟨rfl, sp_rel h⟩) (fun z => by omega)))
  · exact br_f h0 (br_f h7 (br_f h0 (br_f h7 ⟨rfl, sp_rel h⟩)))
theorem i_vc_stem {k : Nat} {u : SX} {v : SY} (I : i_Rel k u v) (hk : k + 4 ≤ 2048) (v1 : Int32) : wpX_stem (fun r u' => wpY_stem (fun r' v' => r' = r ∧ i_Rel (k + 4) u' v') v v1) u v1 := by
  obtain ⟨b, cr, cs, fs, fe, ws, gu, gp, bu, kl, kn, rl, rn, rf, rs, rx, sl, sn, sf, fm, wd, ot, rfl, rfl, h⟩ := I
  have i1 := h.1
  have i3 := h.2.2.1
  unfold wpX_stem
  dsimp only
  refine sp_plainX i1 (fun z => br_f (by decide) ?_) (fun z => br_t rfl ?_)
  · have yes : ∀ post : Int32 → SY → Prop, ((nI cs = 12 → post (-2) ((nI b), (nI cr), (nI cs), ws, gu, gp, bu, kl, kn, rf, rs, rx, rl, rn, sf, sn, sl, wd, ot)) ∧ (¬ nI cs = 12 → ∃ n31 : Nat, wY_stem_31 post v1 (nI b) (nI cr) (nI cs) ws gu gp n31 0 bu kl kn rf rs rx rl rn sf sn sl wd ot)) → wpY_stem post ((nI b), (nI cr), (nI cs), ws, gu, gp, bu, kl, kn, rf, rs, rx, rl, rn, sf, sn, sl, wd, ot) v1 := by
      intro post H
      exact pk_eq b 0 (fun y => by omega) (fun _ => sp_nineY i1 (fun y => absurd y z.2) (fun _ => br_t rfl H))
    refine pk_lt cs 12 (fun hs => ⟨b + 1, ?_⟩) (fun hs => yes _ (pk_eq cs 12 (fun _ => ⟨rfl, sp_rel h⟩) (fun y => by omega)))
    have hx := sp_smXl (post := fun r u' => wpY_stem (fun r' v' => r' = r ∧ i_Rel (k + 4) u' v') ((nI b), (nI cr), (nI cs), ws, gu, gp, bu, kl, kn, rf, rs, rx, rl, rn, sf, sn, sl, wd, ot) v1) (fs := fs) (fe := fe) (bu := bu) (kl := kl) (kn := kn) (rl := rl) (rn := rn) (rf := rf) (rs := rs) (rx := rx) (sl := sl) (sn := sn) (sf := sf) (fm := fm) (cr := cr) (v := v1) hs i1 ?_ (b + 1) 0 (by omega) (by omega)
    · rw [sp_ov_0] at hx
      exact hx
    · refine yes _ (pk_eq cs 12 (fun y => by omega) (fun _ => ⟨b + 1, ?_⟩))
      have hy := sp_smYl (post := fun r' v' => r' = nI cs ∧ i_Rel (k + 4) (0, (nI cr), (nI (cs + 1)), fs, fe, bu, kl, kn, rl, rn, rf, rs, rx, (sp_ov sl (cs * 12) b bu), (upd sn cs (nI b)), (upd sf cs (v1 &&& 255)), fm) v') (ws := ws) (gu := gu) (gp := gp) (bu := bu) (kl := kl) (kn := kn) (rl := rl) (rn := rn) (rf := rf) (rs := rs) (rx := rx) (sl := sl) (sn := sn) (sf := sf) (wd := wd) (ot := ot) (cr := cr) (v := v1) hs i1 ⟨rfl, sp_rel (b := 0) (sp_Inv_stem h hs z.2)⟩ (b + 1) 0 (by omega) (by omega)
      rw [sp_ov_0] at hy
      exact hy
  · refine pk_eq b 0 (fun _ => ⟨rfl, sp_rel h⟩) (fun y => ?_)
    exact sp_nineY i1 (fun _ => br_f (by decide) ⟨rfl, sp_rel h⟩) (fun q => absurd ⟨by omega, q⟩ z)
theorem i_vc_reflag {k : Nat} {u : SX} {v : SY} (I : i_Rel k u v) (hk : k + 4 ≤ 2048) (v1 : Int32) (v2 : Int32) : wpX_reflag (fun r u' => wpY_reflag (fun r' v' => r' = r ∧ i_Rel (k + 4) u' v') v v1 v2) u v1 v2 := by
  obtain ⟨b, cr, cs, fs, fe, ws, gu, gp, bu, kl, kn, rl, rn, rf, rs, rx, sl, sn, sf, fm, wd, ot, rfl, rfl, h⟩ := I
  have i3 := h.2.2.1
  by_cases h0 : v1 < 0
  · exact br_t h0 (br_t h0 ⟨rfl, sp_rel h⟩)
  by_cases hs : v1 < nI cs
  · have hi : vp_in v1 12 := by
      obtain ⟨j, hj, rfl⟩ := nI_of h0
      rw [nI_ltI hj (by omega)] at hs
      exact vp_in_nI (by omega) (by omega)
    exact br_f h0 (br_t hs (And.intro hi (nm_e (And.intro hi (nm_e (br_f h0 (br_t hs (And.intro hi (nm_e (And.intro hi (nm_e ⟨rfl, sp_rel h⟩)))))))))))
  · exact br_f h0 (br_f hs (br_f h0 (br_f hs ⟨rfl, sp_rel h⟩)))
theorem i_vc_length {k : Nat} {u : SX} {v : SY} (I : i_Rel k u v) (hk : k + 4 ≤ 2048) : wpX_length (fun r => wpY_length (fun r' => r' = r ∧ i_Rel (k + 4) u v) v) u := by
  obtain ⟨b, cr, cs, fs, fe, ws, gu, gp, bu, kl, kn, rl, rn, rf, rs, rx, sl, sn, sf, fm, wd, ot, rfl, rfl, h⟩ := I
  exact ⟨rfl, sp_rel h⟩
theorem i_vc_derivations {k : Nat} {u : SX} {v : SY} (I : i_Rel k u v) (hk : k + 4 ≤ 2048) : wpX_derivations (fun r u' => wpY_derivations (fun r' v' => r' = r ∧ i_Rel (k + 4) u' v') v) u := by
  obtain ⟨b, cr, cs, fs, fe, ws, gu, gp, bu, kl, kn, rl, rn, rf, rs, rx, sl, sn, sf, fm, wd, ot, rfl, rfl, h⟩ := I
  obtain ⟨i1, i2, i3, i4, i5, i6, i7, _⟩ := id h
  refine sp_dnX (Q := fun a => 0 < b ∧ sp_P b cr bu rl rn rf rs rx sl sn sf a) i1 i2 i3 i5 i6 (fun hz a => ⟨fun q => q.2, fun q => ⟨hz, q⟩⟩) (sp_hQ0 h) (fun fs fe fm => ?_)
  exact sp_dnY (Q := fun a => 0 < b ∧ sp_P b cr bu rl rn rf rs rx sl sn sf a) i1 i2 i3 i5 i6 i7 (fun a => Iff.rfl) (fun ws gu gp wd ot => ⟨rfl, sp_rel h⟩)
theorem sp_same {Q : Nat → Prop} {a a' cs : Nat} {v : Int32} (hcs : cs ≤ 12) (ha : a < cs * 121) (hq : Q a) (e : nI (sp_c Q a) = v) (ha' : a' < cs * 121) (hq' : Q a') (e' : nI (sp_c Q a') = v) : a' = a := by
  have k1 := sp_c_le Q a
  have k2 := sp_c_le Q a'
  rw [← e, nI_eq (by omega) (by omega)] at e'
  exact sp_c_uniq hq' hq e'
theorem i_vc_stemOf {k : Nat} {u : SX} {v : SY} (I : i_Rel k u v) (hk : k + 4 ≤ 2048) (v1 : Int32) : wpX_stemOf (fun r u' => wpY_stemOf (fun r' v' => r' = r ∧ i_Rel (k + 4) u' v') v v1) u v1 := by
  obtain ⟨b, cr, cs, fs, fe, ws, gu, gp, bu, kl, kn, rl, rn, rf, rs, rx, sl, sn, sf, fm, wd, ot, rfl, rfl, h⟩ := I
  obtain ⟨i1, i2, i3, i4, i5, i6, i7, _⟩ := id h
  unfold wpX_stemOf
  dsimp only
  refine sp_coX (Q := fun a => 0 < b ∧ sp_P b cr bu rl rn rf rs rx sl sn sf a) i1 i2 i3 i5 i6 (fun hz a => ⟨fun q => q.2, fun q => ⟨hz, q⟩⟩) (sp_hQ0 h) (fun a ha hq e fs fe fm => br_f (sp_n6 (by omega)) (sp_scX (by omega) ?_)) (fun H fs fe fm => br_t rfl ?_)
  · unfold wpY_stemOf
    refine sp_fiY (Q := fun a => 0 < b ∧ sp_P b cr bu rl rn rf rs rx sl sn sf a) i1 i2 i3 i5 i6 i7 (fun a => Iff.rfl) (fun a' ha' hq' e' ws wd ot => ?_) (fun H => absurd e (H a ha hq))
    rw [sp_same i3 ha hq e ha' hq' e']
    exact ⟨rfl, sp_rel h⟩
  · unfold wpY_stemOf
    exact sp_fiY (Q := fun a => 0 < b ∧ sp_P b cr bu rl rn rf rs rx sl sn sf a) i1 i2 i3 i5 i6 i7 (fun a => Iff.rfl) (fun a' ha' hq' e' => absurd e' (H a' ha' hq')) (fun _ ws gu gp wd ot => ⟨rfl, sp_rel h⟩)
theorem i_vc_suffixOf {k : Nat} {u : SX} {v : SY} (I : i_Rel k u v) (hk : k + 4 ≤ 2048) (v1 : Int32) : wpX_suffixOf (fun r u' => wpY_suffixOf (fun r' v' => r' = r ∧ i_Rel (k + 4) u' v') v v1) u v1 := by
  obtain ⟨b, cr, cs, fs, fe, ws, gu, gp, bu, kl, kn, rl, rn, rf, rs, rx, sl, sn, sf, fm, wd, ot, rfl, rfl, h⟩ := I
  obtain ⟨i1, i2, i3, i4, i5, i6, i7, _⟩ := id h
  unfold wpX_suffixOf
  dsimp only
  refine sp_coX (Q := fun a => 0 < b ∧ sp_P b cr bu rl rn rf rs rx sl sn sf a) i1 i2 i3 i5 i6 (fun hz a => ⟨fun q => q.2, fun q => ⟨hz, q⟩⟩) (sp_hQ0 h) (fun a ha hq e fs fe fm => br_f (sp_n6 (by omega)) (sp_fcX (by omega) ?_)) (fun H fs fe fm => br_t rfl ?_)
  · unfold wpY_suffixOf
    refine sp_fiY (Q := fun a => 0 < b ∧ sp_P b cr bu rl rn rf rs rx sl sn sf a) i1 i2 i3 i5 i6 i7 (fun a => Iff.rfl) (fun a' ha' hq' e' ws wd ot => br_f (sp_n6 (by omega)) ?_) (fun H => absurd e (H a ha hq))
    rw [sp_same i3 ha hq e ha' hq' e']
    exact ⟨rfl, sp_rel h⟩
  · unfold wpY_suffixOf
    exact sp_fiY (Q := fun a => 0 < b ∧ sp_P b cr bu rl rn rf rs rx sl sn sf a) i1 i2 i3 i5 i6 i7 (fun a => Iff.rfl) (fun a' ha' hq' e' => absurd e' (H a' ha' hq')) (fun _ ws gu gp wd ot => br_t rfl ⟨rfl, sp_rel h⟩)
theorem i_vc_prefixOf {k : Nat} {u : SX} {v : SY} (I : i_Rel k u v) (hk : k + 4 ≤ 2048) (v1 : Int32) : wpX_prefixOf (fun r u' => wpY_prefixOf (fun r' v' => r' = r ∧ i_Rel (k + 4) u' v') v v1) u v1 := by
  obtain ⟨b, cr, cs, fs, fe, ws, gu, gp, bu, kl, kn, rl, rn, rf, rs, rx, sl, sn, sf, fm, wd, ot, rfl, rfl, h⟩ := I
  obtain ⟨i1, i2, i3, i4, i5, i6, i7, _⟩ := id h
  unfold wpX_prefixOf
  dsimp only
  refine sp_coX (Q := fun a => 0 < b ∧ sp_P b cr bu rl rn rf rs rx sl sn sf a) i1 i2 i3 i5 i6 (fun hz a => ⟨fun q => q.2, fun q => ⟨hz, q⟩⟩) (sp_hQ0 h) (fun a ha hq e fs fe fm => br_f (sp_n6 (by omega)) (sp_pcX (by omega) ?_)) (fun H fs fe fm => br_t rfl ?_)
  · unfold wpY_prefixOf
    refine sp_fiY (Q := fun a => 0 < b ∧ sp_P b cr bu rl rn rf rs rx sl sn sf a) i1 i2 i3 i5 i6 i7 (fun a => Iff.rfl) (fun a' ha' hq' e' ws wd ot => br_f (sp_n6 (by omega)) ?_) (fun H => absurd e (H a ha hq))
    rw [sp_same i3 ha hq e ha' hq' e']
    exact ⟨rfl, sp_rel h⟩
  · unfold wpY_prefixOf
    exact sp_fiY (Q := fun a => 0 < b ∧ sp_P b cr bu rl rn rf rs rx sl sn sf a) i1 i2 i3 i5 i6 i7 (fun a => Iff.rfl) (fun a' ha' hq' e' => absurd e' (H a' ha' hq')) (fun _ ws gu gp wd ot => br_t rfl ⟨rfl, sp_rel h⟩)
theorem i_vc_continuations {k : Nat} {u : SX} {v : SY} (I : i_Rel k u v) (hk : k + 4 ≤ 2048) : wpX_continuations (fun r u' => wpY_continuations (fun r' v' => r' = r ∧ i_Rel (k + 4) u' v') v) u := by
  obtain ⟨b, cr, cs, fs, fe, ws, gu, gp, bu, kl, kn, rl, rn, rf, rs, rx, sl, sn, sf, fm, wd, ot, rfl, rfl, h⟩ := I
  obtain ⟨i1, i2, i3, i4, i5, i6, i7, _⟩ := id h
  refine sp_ctX i1 i2 i3 i5 i6 (fun hb h9 fs fe fm => ?_) (fun hn => ?_)
  · exact sp_ctY i1 i2 i3 i5 i6 i7 (fun _ _ ws gu gp wd ot => ⟨rfl, sp_rel h⟩) (fun z => absurd ⟨hb, h9⟩ z)
  · exact sp_ctY i1 i2 i3 i5 i6 i7 (fun hb h9 => absurd ⟨hb, h9⟩ hn) (fun _ => ⟨rfl, sp_rel h⟩)
