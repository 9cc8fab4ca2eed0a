/-- the reference's two finds, over the codes of stem s below m -/
def sp_F (Q : Nat → Prop) (s : Nat) (x : Int32) (m : Nat) (gu gp : Int32) : Prop := ∀ a, s * 121 ≤ a → a < m → Q a → nI (sp_c Q a - sp_c Q (s * 121)) = x → gu = sp_v (a / 11 % 11) ∧ gp = sp_v (a % 11)
theorem sp_P_hi {b cr a : Nat} {bu rl rn rf rs rx sl sn sf : Nat → Int32} (h : sp_P b cr bu rl rn rf rs rx sl sn sf a) : a / 11 % 11 ≤ cr ∧ a % 11 ≤ cr := by
  obtain ⟨⟨h1, h2, _⟩, _⟩ := h
  constructor
  · rcases h1 with z | z
    · omega
    · exact z.1
  · rcases h2 with z | z
    · omega
    · exact z.1
theorem sp_F_skip {Q : Nat → Prop} {s m m' : Nat} {x gu gp : Int32} (h : sp_F Q s x m gu gp) (hn : ∀ k, m ≤ k → k < m' → ¬ Q k) : sp_F Q s x m' gu gp := by
  intro a h1 h2 hq
  by_cases z : a < m
  · exact h a h1 z hq
  · exact absurd hq (hn a (by omega) h2)
theorem sp_F_no {Q : Nat → Prop} {s m : Nat} {x gu gp : Int32} (h : sp_F Q s x m gu gp) (hn : ¬ nI (sp_c Q m - sp_c Q (s * 121)) = x) : sp_F Q s x (m + 1) gu gp := by
  intro a h1 h2 hq e
  by_cases z : a = m
  · rw [z] at e; exact absurd e hn
  · exact h a h1 (by omega) hq e
theorem sp_F_yes {Q : Nat → Prop} {s m : Nat} {x : Int32} (hm : s * 121 ≤ m) (hM : m < 2 ^ 31) (hQ : Q m) (he : nI (sp_c Q m - sp_c Q (s * 121)) = x) : sp_F Q s x (m + 1) (sp_v (m / 11 % 11)) (sp_v (m % 11)) := by
  intro a h1 h2 hq e
  have k1 := sp_c_le Q m
  have k2 := sp_c_le Q a
  have k3 := sp_c_mono Q hm
  have k4 := sp_c_mono Q h1
  rw [← he] at e
  have e := (nI_eq (by omega) (by omega)).mp e
  have : a = m := sp_c_uniq hq hQ (by omega)
  rw [this]
  exact ⟨rfl, rfl⟩
theorem sp_o17Y {post : Int32 → SY → Prop} {J : Int32 → Int32 → Int32 → Int32 → Int32 → Int32 → Int32 → Int32 → (Nat → Int32) → (Nat → Int32) → (Nat → Int32) → (Nat → Int32) → (Nat → Int32) → (Nat → Int32) → (Nat → Int32) → (Nat → Int32) → (Nat → Int32) → (Nat → Int32) → (Nat → Int32) → (Nat → Int32) → (Nat → Int32) → Prop} {b cr cs : Nat} {bu kl kn rl rn rf rs rx sl sn sf : Nat → Int32} {Q : Nat → Prop} {x : Int32} {s c : Nat} (hb : b ≤ 12) (hcr : cr ≤ 10) (hB : sp_B rn 3) (hS : sp_B sn 12) (hR : ∀ i, rs i = 0 ∨ rs i = 1) (hs : s < 12) (hc : c ≤ cr)
    (hQ : ∀ a, Q a ↔ (0 < b ∧ sp_P b cr bu rl rn rf rs rx sl sn sf a))
    (hJ : ∀ (ws gu gp : Int32) (wd ot : Nat → Int32), sp_F Q s x (s * 121 + c * 11 + 11) gu gp → J (nI (sp_c Q (s * 121 + c * 11 + 11) - sp_c Q (s * 121))) (sp_u (c + 1)) (nI b) (nI cr) (nI cs) ws gu gp bu kl kn rf rs rx rl rn sf sn sl wd ot) :
    ∀ m d : Nat, d ≤ cr + 1 → cr + 1 - d < m → ∀ (ws gu gp : Int32) (wd ot : Nat → Int32), sp_F Q s x (s * 121 + c * 11 + d) gu gp → wY_ofStem_17 post J (nI s) x (sp_u c) m (nI (sp_c Q (s * 121 + c * 11 + d) - sp_c Q (s * 121))) (sp_u d) (nI b) (nI cr) (nI cs) ws gu gp bu kl kn rf rs rx rl rn sf sn sl wd ot := by
  intro m
  induction m with
  | zero => intro i _ h; omega
  | succ m ih =>
    intro d hd hm ws gu gp wd ot hF
    refine sp_u_le cr d (by omega) (by omega) (fun h => nm_r (sp_u1 c) ?_) (fun h => ?_)
    · have sk : ∀ k, s * 121 + c * 11 + d ≤ k → k < s * 121 + c * 11 + 11 → ¬ Q k := by
        intro k h1 h2 hq
        have := (sp_P_hi ((hQ k).mp hq).2).2
        omega
      have := hJ ws gu gp wd ot (sp_F_skip hF sk)
      rw [sp_c_skip (m := s * 121 + c * 11 + d) (by omega) sk] at this
      exact this
    · have q1 : (s * 121 + c * 11 + d) / 121 = s := by omega
      have q2 : (s * 121 + c * 11 + d) / 11 % 11 = c := by omega
      have q3 : (s * 121 + c * 11 + d) % 11 = d := by omega
      have hq : Q (s * 121 + c * 11 + d) ↔ (0 < b ∧ sp_G b cr bu rl rn rf rs rx sl sn sf s c d) := by
        rw [hQ]
        unfold sp_P
        rw [q1, q2, q3]
      refine sp_gvY hb hcr hB hS hR hs hc h (fun hz g ws wd ot => ?_) (fun g ws wd ot => ?_)
      · have hy : Q (s * 121 + c * 11 + d) := hq.mpr ⟨hz, g⟩
        have k3 : sp_c Q (s * 121) ≤ sp_c Q (s * 121 + c * 11 + d) := sp_c_mono Q (by omega)
        have ec : nI (sp_c Q (s * 121 + c * 11 + d) - sp_c Q (s * 121)) + 1 = nI (sp_c Q (s * 121 + c * 11 + d + 1) - sp_c Q (s * 121)) := by
          rw [nI_1, sp_c_t hy]
          exact congrArg nI (by omega)
        refine br_f (by decide) (br_c (fun e => ?_) (fun e => nm_r ec (nm_r (sp_u1 d) (ih (d + 1) (by omega) (by omega) _ _ _ _ _ (sp_F_no hF e)))))
        have hF2 := sp_F_yes (by omega) (by omega) hy e
        rw [q2, q3] at hF2
        have fin : ∀ z0 : Int32, z0 = sp_v c → wY_ofStem_56 post J (wY_ofStem_17 post J (nI s) x (sp_u c) m) (nI s) x (nI (sp_c Q (s * 121 + c * 11 + d) - sp_c Q (s * 121))) (sp_u c) (sp_u d) z0 (nI b) (nI cr) (nI cs) ws gu gp bu kl kn rf rs rx rl rn sf sn sl wd ot := by
          intro z0 ez
          subst ez
          unfold wY_ofStem_56
          cases d with
          | zero => exact br_f (by decide) (nm_r ec (nm_r (sp_u1 0) (ih 1 (by omega) (by omega) _ _ _ _ _ hF2)))
          | succ q =>
            refine br_t (by rw [sp_us]; exact nI_pos' (by omega)) (nm_r ec (nm_r (sp_u1 (q + 1)) (ih (q + 2) (by omega) (by omega) _ _ _ _ _ ?_)))
            rw [sp_vs q, ← sp_us q] at hF2
            exact hF2
        by_cases z : c = 0
        · refine br_f (by rw [z]; decide) (fin _ (by rw [z]; rfl))
        · refine br_t ?_ (fin _ ?_)
          · obtain ⟨q, rfl⟩ : ∃ q, c = q + 1 := ⟨c - 1, by omega⟩
            rw [sp_us]; exact nI_pos' (by omega)
          · obtain ⟨q, rfl⟩ : ∃ q, c = q + 1 := ⟨c - 1, by omega⟩
            rw [sp_us, sp_vs]
      · have hy : ¬ Q (s * 121 + c * 11 + d) := fun y => g (hq.mp y)
        refine br_t rfl (nm_r (sp_u1 d) ?_)
        rw [← sp_c_f hy]
        refine ih (d + 1) (by omega) (by omega) _ _ _ _ _ (sp_F_skip hF ?_)
        intro k h1 h2
        rw [show k = s * 121 + c * 11 + d by omega]
        exact hy
theorem sp_o5Y {post : Int32 → SY → Prop} {b cr cs : Nat} {bu kl kn rl rn rf rs rx sl sn sf : Nat → Int32} {Q : Nat → Prop} {x : Int32} {s : Nat} (hb : b ≤ 12) (hcr : cr ≤ 10) (hB : sp_B rn 3) (hS : sp_B sn 12) (hR : ∀ i, rs i = 0 ∨ rs i = 1) (hs : s < 12)
    (hQ : ∀ a, Q a ↔ (0 < b ∧ sp_P b cr bu rl rn rf rs rx sl sn sf a))
    (h : ∀ (ws gu gp : Int32) (wd ot : Nat → Int32), sp_F Q s x (s * 121 + 121) gu gp → post (nI (sp_c Q (s * 121 + 121) - sp_c Q (s * 121))) ((nI b), (nI cr), (nI cs), ws, gu, gp, bu, kl, kn, rf, rs, rx, rl, rn, sf, sn, sl, wd, ot)) :
    ∀ m c : Nat, c ≤ cr + 1 → cr + 1 - c < m → ∀ (ws gu gp : Int32) (wd ot : Nat → Int32), sp_F Q s x (s * 121 + c * 11) gu gp → wY_ofStem_5 post (nI s) x m (nI (sp_c Q (s * 121 + c * 11) - sp_c Q (s * 121))) (sp_u c) (nI b) (nI cr) (nI cs) ws gu gp bu kl kn rf rs rx rl rn sf sn sl wd ot := by
  intro m
  induction m with
  | zero => intro i _ h; omega
  | succ m ih =>
    intro c hc hm ws gu gp wd ot hF
    refine sp_u_le cr c (by omega) (by omega) (fun h2 => ?_) (fun h2 => ⟨cr + 2, ?_⟩)
    · have sk : ∀ k, s * 121 + c * 11 ≤ k → k < s * 121 + 121 → ¬ Q k := by
        intro k h1 h2 hq
        have := (sp_P_hi ((hQ k).mp hq).2).1
        omega
      have := h ws gu gp wd ot (sp_F_skip hF sk)
      rw [sp_c_skip (m := s * 121 + c * 11) (by omega) sk] at this
      exact this
    · refine sp_o17Y hb hcr hB hS hR hs h2 hQ (fun ws gu gp wd ot hF => ?_) (cr + 2) 0 (by omega) (by omega) _ _ _ _ _ hF
      rw [show s * 121 + c * 11 + 11 = s * 121 + (c + 1) * 11 by omega] at *
      exact ih (c + 1) (by omega) (by omega) _ _ _ _ _ hF
theorem sp_ofY {post : Int32 → SY → Prop} {b cr cs : Nat} {ws gu gp : Int32} {bu kl kn rl rn rf rs rx sl sn sf wd ot : Nat → Int32} {Q : Nat → Prop} {x : Int32} {s : Nat} (hb : b ≤ 12) (hcr : cr ≤ 10) (hB : sp_B rn 3) (hS : sp_B sn 12) (hR : ∀ i, rs i = 0 ∨ rs i = 1) (hs : s < 12)
    (hQ : ∀ a, Q a ↔ (0 < b ∧ sp_P b cr bu rl rn rf rs rx sl sn sf a))
    (h : ∀ (ws gu gp : Int32) (wd ot : Nat → Int32), sp_F Q s x (s * 121 + 121) gu gp → post (nI (sp_c Q (s * 121 + 121) - sp_c Q (s * 121))) ((nI b), (nI cr), (nI cs), ws, gu, gp, bu, kl, kn, rf, rs, rx, rl, rn, sf, sn, sl, wd, ot)) :
    wpY_ofStem post ((nI b), (nI cr), (nI cs), ws, gu, gp, bu, kl, kn, rf, rs, rx, rl, rn, sf, sn, sl, wd, ot) (nI s) x := by
  refine ⟨cr + 2, ?_⟩
  have := sp_o5Y hb hcr hB hS hR hs hQ h (cr + 2) 0 (by omega) (by omega) ws gu gp wd ot (fun a h1 h2 => by omega)
  rw [show s * 121 + 0 * 11 = s * 121 by omega, Nat.sub_self, sp_u0] at this
  exact this
theorem sp_fiYl {post : Int32 → SY → Prop} {b cr cs : Nat} {bu kl kn rl rn rf rs rx sl sn sf : Nat → Int32} {Q : Nat → Prop} {j : Nat} (hj : j < 2 ^ 31) (hb : b ≤ 12) (hcr : cr ≤ 10) (hcs : cs ≤ 12) (hB : sp_B rn 3) (hS : sp_B sn 12) (hR : ∀ i, rs i = 0 ∨ rs i = 1)
    (hQ : ∀ a, Q a ↔ (0 < b ∧ sp_P b cr bu rl rn rf rs rx sl sn sf a))
    (h1 : ∀ a, a < cs * 121 → Q a → sp_c Q a = j → ∀ (ws : Int32) (wd ot : Nat → Int32), post (nI (a / 121)) ((nI b), (nI cr), (nI cs), ws, (sp_v (a / 11 % 11)), (sp_v (a % 11)), bu, kl, kn, rf, rs, rx, rl, rn, sf, sn, sl, wd, ot))
    (h0 : (∀ a, a < cs * 121 → Q a → ¬ sp_c Q a = j) → ∀ (ws gu gp : Int32) (wd ot : Nat → Int32), post (-6) ((nI b), (nI cr), (nI cs), ws, gu, gp, bu, kl, kn, rf, rs, rx, rl, rn, sf, sn, sl, wd, ot)) :
    ∀ m s : Nat, s ≤ cs → cs - s < m → sp_c Q (s * 121) ≤ j → ∀ (ws gu gp : Int32) (wd ot : Nat → Int32), wY_find_16 post (nI j) m (nI (sp_c Q (s * 121))) (nI s) (nI b) (nI cr) (nI cs) ws gu gp bu kl kn rf rs rx rl rn sf sn sl wd ot := by
  intro m
  induction m with
  | zero => intro i _ h; omega
  | succ m ih =>
    intro s hs hm hle ws gu gp wd ot
    have k0 := sp_c_le Q (s * 121)
    refine pk_le cs s (fun h => h0 (fun a ha hq e => ?_) _ _ _ _ _) (fun h => pk_le (sp_c Q (s * 121)) j (fun h2 => ?_) (fun h2 => by omega))
    · have := sp_c_lt hq ha
      rw [show s = cs by omega] at hle
      omega
    · rw [pk_sub hle]
      refine sp_ofY hb hcr hB hS hR (by omega) hQ (fun ws gu gp wd ot hF => ?_)
      have k1 := sp_c_le Q (s * 121 + 121)
      have k2 : sp_c Q (s * 121) ≤ sp_c Q (s * 121 + 121) := sp_c_mono Q (by omega)
      have es : nI (sp_c Q (s * 121)) + nI (sp_c Q (s * 121 + 121) - sp_c Q (s * 121)) = nI (sp_c Q (s * 121 + 121)) := by
        rw [nI_add]; exact congrArg nI (by omega)
      show wY_find_41 _ _ _ _ _ _ (nI b) (nI cr) (nI cs) ws gu gp bu kl kn rf rs rx rl rn sf sn sl wd ot
      unfold wY_find_41
      rw [es]
      refine br_f (nI_nlt hle hj) (pk_le (sp_c Q (s * 121 + 121)) j (fun h3 => nm_e (nm_r (nI_1 s) ?_)) (fun h3 => ?_))
      · rw [show s * 121 + 121 = (s + 1) * 121 by omega] at *
        exact ih (s + 1) (by omega) (by omega) h3 _ _ _ _ _
      · obtain ⟨a, a1, a2, a3, a4⟩ := sp_c_ex hle h3
        obtain ⟨e1, e2⟩ := hF a a1 a2 a3 (by rw [a4])
        have := h1 a (by omega) a3 a4 ws wd ot
        rw [← e1, ← e2, show a / 121 = s by omega] at this
        exact this
theorem sp_fiYn {post : Int32 → SY → Prop} {b cr cs : Nat} {ws gu gp : Int32} {bu kl kn rl rn rf rs rx sl sn sf wd ot : Nat → Int32} {v : Int32} (hv : v < 0) (hcs : cs ≤ 12) (h : post (-6) ((nI b), (nI cr), (nI cs), ws, gu, gp, bu, kl, kn, rf, rs, rx, rl, rn, sf, sn, sl, wd, ot)) : ∀ m s : Nat, s ≤ cs → cs - s < m → wY_find_16 post v m 0 (nI s) (nI b) (nI cr) (nI cs) ws gu gp bu kl kn rf rs rx rl rn sf sn sl wd ot := by
  intro m
  induction m with
  | zero => intro i _ h; omega
  | succ m ih =>
    intro s hs hm
    refine pk_le cs s (fun _ => h) (fun h2 => br_f (Int32.not_le.mpr hv) ?_)
    unfold wY_find_41
    exact br_t hv (nm_r (show (0 : Int32) + 0 = 0 from rfl) (nm_r (nI_1 s) (ih (s + 1) (by omega) (by omega))))
theorem sp_fiY {post : Int32 → SY → Prop} {b cr cs : Nat} {ws gu gp : Int32} {bu kl kn rl rn rf rs rx sl sn sf wd ot : Nat → Int32} {Q : Nat → Prop} {v : Int32} (hb : b ≤ 12) (hcr : cr ≤ 10) (hcs : cs ≤ 12) (hB : sp_B rn 3) (hS : sp_B sn 12) (hR : ∀ i, rs i = 0 ∨ rs i = 1)
    (hQ : ∀ a, Q a ↔ (0 < b ∧ sp_P b cr bu rl rn rf rs rx sl sn sf a))
    (h1 : ∀ a, a < cs * 121 → Q a → nI (sp_c Q a) = v → ∀ (ws : Int32) (wd ot : Nat → Int32), post (nI (a / 121)) ((nI b), (nI cr), (nI cs), ws, (sp_v (a / 11 % 11)), (sp_v (a % 11)), bu, kl, kn, rf, rs, rx, rl, rn, sf, sn, sl, wd, ot))
    (h0 : (∀ a, a < cs * 121 → Q a → ¬ nI (sp_c Q a) = v) → ∀ (ws gu gp : Int32) (wd ot : Nat → Int32), post (-6) ((nI b), (nI cr), (nI cs), ws, gu, gp, bu, kl, kn, rf, rs, rx, rl, rn, sf, sn, sl, wd, ot)) :
    wpY_find post ((nI b), (nI cr), (nI cs), ws, gu, gp, bu, kl, kn, rf, rs, rx, rl, rn, sf, sn, sl, wd, ot) v := by
  refine ⟨cs + 1, ?_⟩
  by_cases hv : v < 0
  · refine sp_fiYn hv hcs (h0 (fun a ha hq e => ?_) _ _ _ _ _) (cs + 1) 0 (by omega) (by omega)
    have k := sp_c_le Q a
    rw [← e] at hv
    exact absurd hv (nI_pos (by omega))
  · obtain ⟨j, hj, rfl⟩ := nI_of hv
    refine sp_fiYl hj hb hcr hcs hB hS hR hQ (fun a ha hq e => h1 a ha hq (by rw [e])) (fun H => h0 (fun a ha hq e => H a ha hq ?_)) (cs + 1) 0 (by omega) (by omega) (Nat.zero_le _) _ _ _ _ _
    have k := sp_c_le Q a
    exact (nI_eq (by omega) hj).mp e
theorem sp_dnYl {post : Int32 → SY → Prop} {b cr cs : Nat} {bu kl kn rl rn rf rs rx sl sn sf : Nat → Int32} {Q : Nat → Prop} (hb : b ≤ 12) (hcr : cr ≤ 10) (hcs : cs ≤ 12) (hB : sp_B rn 3) (hS : sp_B sn 12) (hR : ∀ i, rs i = 0 ∨ rs i = 1)
    (hQ : ∀ a, Q a ↔ (0 < b ∧ sp_P b cr bu rl rn rf rs rx sl sn sf a))
    (h : ∀ (ws gu gp : Int32) (wd ot : Nat → Int32), post (nI (sp_c Q (cs * 121))) ((nI b), (nI cr), (nI cs), ws, gu, gp, bu, kl, kn, rf, rs, rx, rl, rn, sf, sn, sl, wd, ot)) :
    ∀ m s : Nat, s ≤ cs → cs - s < m → ∀ (ws gu gp : Int32) (wd ot : Nat → Int32), wY_derivations_4 post m (nI (sp_c Q (s * 121))) (nI s) (nI b) (nI cr) (nI cs) ws gu gp bu kl kn rf rs rx rl rn sf sn sl wd ot := by
  intro m
  induction m with
  | zero => intro i _ h; omega
  | succ m ih =>
    intro s hs hm ws gu gp wd ot
    refine pk_le cs s (fun h2 => ?_) (fun h2 => ?_)
    · rw [show s = cs by omega]; exact h _ _ _ _ _
    · refine sp_ofY hb hcr hB hS hR (by omega) hQ (fun ws gu gp wd ot hF => ?_)
      have k2 : sp_c Q (s * 121) ≤ sp_c Q (s * 121 + 121) := sp_c_mono Q (by omega)
      have es : nI (sp_c Q (s * 121)) + nI (sp_c Q (s * 121 + 121) - sp_c Q (s * 121)) = nI (sp_c Q ((s + 1) * 121)) := by
        rw [nI_add, show (s + 1) * 121 = s * 121 + 121 by omega]; exact congrArg nI (by omega)
      exact nm_r es (nm_r (nI_1 s) (ih (s + 1) (by omega) (by omega) _ _ _ _ _))
theorem sp_dnY {post : Int32 → SY → Prop} {b cr cs : Nat} {ws gu gp : Int32} {bu kl kn rl rn rf rs rx sl sn sf wd ot : Nat → Int32} {Q : Nat → Prop} (hb : b ≤ 12) (hcr : cr ≤ 10) (hcs : cs ≤ 12) (hB : sp_B rn 3) (hS : sp_B sn 12) (hR : ∀ i, rs i = 0 ∨ rs i = 1)
    (hQ : ∀ a, Q a ↔ (0 < b ∧ sp_P b cr bu rl rn rf rs rx sl sn sf a))
    (h : ∀ (ws gu gp : Int32) (wd ot : Nat → Int32), post (nI (sp_c Q (cs * 121))) ((nI b), (nI cr), (nI cs), ws, gu, gp, bu, kl, kn, rf, rs, rx, rl, rn, sf, sn, sl, wd, ot)) :
    wpY_derivations post ((nI b), (nI cr), (nI cs), ws, gu, gp, bu, kl, kn, rf, rs, rx, rl, rn, sf, sn, sl, wd, ot) :=
  ⟨cs + 1, sp_dnYl hb hcr hcs hB hS hR hQ h (cs + 1) 0 (by omega) (by omega) _ _ _ _ _⟩
theorem sp_ctYl {post : Int32 → SY → Prop} {b cr cs : Nat} {bu kl kn rl rn rf rs rx sl sn sf : Nat → Int32} (hb : b < 12) (hcr : cr ≤ 10) (hcs : cs ≤ 12) (hB : sp_B rn 3) (hS : sp_B sn 12) (hR : ∀ i, rs i = 0 ∨ rs i = 1)
    (h : ∀ (ws gu gp : Int32) (wd ot : Nat → Int32), post (nI (sp_c (sp_D b cr cs bu rl rn rf rs rx sl sn sf) 8)) ((nI b), (nI cr), (nI cs), ws, gu, gp, (upd bu b (nI 8)), kl, kn, rf, rs, rx, rl, rn, sf, sn, sl, wd, ot)) :
    ∀ m k : Nat, k ≤ 8 → 8 - k < m → ∀ (ws gu gp : Int32) (wd ot bq : Nat → Int32), (∀ x, upd bq b x = upd bu b x) → (k = 8 → bq = upd bu b (nI 8)) → wY_continuations_32 post m (nI (sp_c (sp_D b cr cs bu rl rn rf rs rx sl sn sf) k)) (nI (k + 1)) (nI (b + 1)) (nI cr) (nI cs) ws gu gp bq kl kn rf rs rx rl rn sf sn sl wd ot := by
  intro m
  induction m with
  | zero => intro a _ h; omega
  | succ m ih =>
    intro k hk hm ws gu gp wd ot bq hq h8
    refine pk_le 9 (k + 1) (fun h2 => nm_r (nI_pred b) ?_) (fun h2 => ?_)
    · rw [show k = 8 by omega, h8 (by omega)]
      exact h _ _ _ _ _
    · rw [nI_pred, nI_clamp (by omega)]
      refine ⟨vp_in_nI hb (by omega), nm_r (hq _) ?_⟩
      refine sp_dnY (Q := fun a => 0 < b + 1 ∧ sp_P (b + 1) cr (upd bu b (nI (k + 1))) rl rn rf rs rx sl sn sf a) (by omega) hcr hcs hB hS hR (fun a => Iff.rfl) (fun ws gu gp wd ot => ?_)
      have kl := sp_c_le (fun a => 0 < b + 1 ∧ sp_P (b + 1) cr (upd bu b (nI (k + 1))) rl rn rf rs rx sl sn sf a) (cs * 121)
      refine pk_le (sp_c (fun a => 0 < b + 1 ∧ sp_P (b + 1) cr (upd bu b (nI (k + 1))) rl rn rf rs rx sl sn sf a) (cs * 121)) 0 (fun h3 => ?_) (fun h3 => ?_)
      · have z : ¬ sp_D b cr cs bu rl rn rf rs rx sl sn sf k := by
          rintro ⟨a, ha, hp⟩
          have := sp_c_lt (P := fun a => 0 < b + 1 ∧ sp_P (b + 1) cr (upd bu b (nI (k + 1))) rl rn rf rs rx sl sn sf a) (a := a) ⟨by omega, hp⟩ ha
          omega
        refine nm_r (nI_1 (k + 1)) ?_
        rw [← sp_c_f z]
        exact ih (k + 1) (by omega) (by omega) _ _ _ _ _ _ (fun x => sp_uu) (fun e => by rw [e])
      · have z : sp_D b cr cs bu rl rn rf rs rx sl sn sf k := by
          obtain ⟨a, _, a2, a3, _⟩ := sp_c_ex (m := 0) (j := 0) (Nat.zero_le 0) h3
          exact ⟨a, a2, a3.2⟩
        refine nm_r (e' := nI (sp_c (sp_D b cr cs bu rl rn rf rs rx sl sn sf) (k + 1))) ?_ (nm_r (nI_1 (k + 1)) (ih (k + 1) (by omega) (by omega) _ _ _ _ _ _ (fun x => sp_uu) (fun e => by rw [e])))
        rw [sp_c_t z, nI_1]
theorem sp_ctY {post : Int32 → SY → Prop} {b cr cs : Nat} {ws gu gp : Int32} {bu kl kn rl rn rf rs rx sl sn sf wd ot : Nat → Int32} (hb : b ≤ 12) (hcr : cr ≤ 10) (hcs : cs ≤ 12) (hB : sp_B rn 3) (hS : sp_B sn 12) (hR : ∀ i, rs i = 0 ∨ rs i = 1)
    (h1 : b < 12 → ¬ sp_9 b bu → ∀ (ws gu gp : Int32) (wd ot : Nat → Int32), post (nI (sp_c (sp_D b cr cs bu rl rn rf rs rx sl sn sf) 8)) ((nI b), (nI cr), (nI cs), ws, gu, gp, (upd bu b (nI 8)), kl, kn, rf, rs, rx, rl, rn, sf, sn, sl, wd, ot))
    (h0 : ¬ (b < 12 ∧ ¬ sp_9 b bu) → post 0 ((nI b), (nI cr), (nI cs), ws, gu, gp, bu, kl, kn, rf, rs, rx, rl, rn, sf, sn, sl, wd, ot)) :
    wpY_continuations post ((nI b), (nI cr), (nI cs), ws, gu, gp, bu, kl, kn, rf, rs, rx, rl, rn, sf, sn, sl, wd, ot) := by
  refine pk_eq b 12 (fun h => h0 (by omega)) (fun h => ?_)
  refine sp_nineY hb (fun z => br_f (by decide) (h0 (fun y => y.2 z))) (fun z => br_t rfl (nm_r (nI_1 b) ⟨9, ?_⟩))
  exact sp_ctYl (by omega) hcr hcs hB hS hR (h1 (by omega) z) 9 0 (by omega) (by omega) _ _ _ _ _ _ (fun x => rfl) (fun e => absurd e (by omega))
