/-! X: the private methods -/
/-- what X keeps: the list as naturals -/
def cd_L (n : Nat) (s l r : Nat → Nat) (sh lf rt : Nat → Int32) : Prop :=
  n < 12 ∧ (∀ j, sh j = nI (s j)) ∧ (∀ j, lf j = nI (l j)) ∧ (∀ j, rt j = nI (r j)) ∧ (∀ j, s j ≤ 4) ∧ (∀ j, l j < 11) ∧ (∀ j, r j < 11) ∧ cd_wf n s l r
theorem cx_has {post : Int32 → Prop} {K : Int32} {f : Nat} (hf : f < 32) (h1 : bt K f = true → post 1) (h0 : bt K f = false → post 0) : wpX_has post K (nI f) := by
  unfold wpX_has
  exact ⟨fun z => h0 ((cd_has hf).mp z), fun z => h1 ((cd_hasT hf).mp z)⟩
section
variable {n m f : Nat} {s l r : Nat → Nat} {sh lf rt tr co : Nat → Int32}
theorem cx_is0 {post : Int32 → Prop} {x : Int32} (h : x < 0 ∨ nI n ≤ x) (p : post 0) : wpX_isListed post (nI n, sh, lf, rt, tr, co) x := by
  unfold wpX_isListed
  refine br_c (fun _ => p) (fun z => br_c (fun _ => p) (fun w => ?_))
  exact h.elim (fun y => absurd y z) (fun y => absurd y w)
theorem cx_is1 {post : Int32 → Prop} {j : Nat} (hn : n < 12) (hj : j < n) (p : post 1) : wpX_isListed post (nI n, sh, lf, rt, tr, co) (nI j) := by
  unfold wpX_isListed
  exact br_f (nI_pos (by omega)) (br_f (nI_ge hj (by omega)) p)
theorem cx_lp {post : Int32 → Prop} {x : Int32} (hn : n < 12) (e : x &&& nI (2 ^ n - 1) = nI m) (p : post (nI m)) : wpX_listedPart post (nI n, sh, lf, rt, tr, co) x := by
  show post (x &&& (cd_b n - 1))
  rw [cd_fullN n hn, e]
  exact p
theorem cx_mem4 {post : Int32 → Prop} {K : Int32} (p : post (nI (cd_cn K 11))) : ∀ d j, j + d = 11 → wX_membersOf_4 post K (d + 1) (nI (cd_cn K j)) (nI j) := by
  intro d
  induction d with
  | zero =>
    intro j hj
    have e : j = 11 := by omega
    subst e
    exact br_t (Int32.le_refl _) p
  | succ d ih =>
    intro j hj
    refine br_f (nI_ge (b := 11) (by omega) (by decide)) (cx_has (by omega) (fun z => ?_) (fun z => ?_))
    · refine br_f (by decide) (nm_r (nI_1 _) (nm_r (nI_1 _) ?_))
      have h := ih (j + 1) (by omega)
      rw [cd_cnS, if_pos z] at h
      exact h
    · refine br_t rfl (nm_r (nI_1 _) ?_)
      have h := ih (j + 1) (by omega)
      rw [cd_cnS, if_neg (by rw [z]; decide)] at h
      exact h
theorem cx_mem {post : Int32 → Prop} {K : Int32} (p : post (nI (cd_cn K 11))) : wpX_membersOf post K := ⟨12, cx_mem4 p 11 0 rfl⟩
theorem cx_s5 {P : Nat → Prop} {a : Nat} (h : a ≤ 4) (h0 : a = 0 → P a) (h1 : a = 1 → P a) (h2 : a = 2 → P a) (h3 : a = 3 → P a) (h4 : a = 4 → P a) : P a := by
  have : a = 0 ∨ a = 1 ∨ a = 2 ∨ a = 3 ∨ a = 4 := by omega
  rcases this with e | e | e | e | e
  · exact h0 e
  · exact h1 e
  · exact h2 e
  · exact h3 e
  · exact h4 e
theorem cx_can {post : Int32 → Prop} (H : cd_L n s l r sh lf rt) (hm : m < 2 ^ n) (hf : f < n) (p1 : cd_mk s l r co m f = true → post 1) (p0 : cd_mk s l r co m f = false → post 0) : wpX_canBeMade post (nI n, sh, lf, rt, tr, co) (nI m) (nI f) := by
  obtain ⟨hn, hsh, hlf, hrt, hs4, hl, hr, wf⟩ := H
  have h2 := cd_p2 hn
  have cf : (nI f).toNatClampNeg = f := nI_clamp (by omega)
  have cm : (nI m).toNatClampNeg = m := nI_clamp (by omega)
  have vf : vp_in (nI f) 11 := vp_in_nI (by omega) (by omega)
  have hlf' := hl f
  have hrf' := hr f
  unfold wpX_canBeMade
  refine ⟨vp_in_nI (by omega) (by omega), nm_r (e' := co m) (by rw [cm]) ⟨vf, nm_r (e' := cd_b (l f)) (by rw [cf, hlf]; rfl) ⟨vf, nm_r (e' := cd_b (r f)) (by rw [cf, hrt]; rfl) ⟨vf, nm_r (e' := nI (s f)) (by rw [cf, hsh]) ?_⟩⟩⟩⟩
  unfold cd_mk at p1 p0
  rcases (show s f = 0 ∨ s f = 1 ∨ s f = 2 ∨ s f = 3 ∨ s f = 4 from by have := hs4 f; omega) with e | e | e | e | e
  · rw [e] at p1 p0 ⊢
    rw [if_pos rfl] at p1 p0
    refine br_f (by decide) (br_f (by decide) (br_t rfl ?_))
    refine br_c (fun z => p0 ?_) (fun z => br_c (fun w => p0 ?_) (fun w => p1 ?_))
    · rw [(cd_has (by omega)).mp z, Bool.false_and]
    · rw [(cd_has (by omega)).mp w, Bool.and_false]
    · rw [(cd_hasT (by omega)).mp z, (cd_hasT (by omega)).mp w]; rfl
  · rw [e] at p1 p0 ⊢
    rw [if_neg (by decide), if_pos rfl] at p1 p0
    refine br_f (by decide) (br_f (by decide) (br_f (by decide) (br_t rfl ?_)))
    refine br_c (fun z => br_c (fun w => p0 ?_) (fun w => p1 ?_)) (fun z => p1 ?_)
    · rw [(cd_has (by omega)).mp z, (cd_has (by omega)).mp w]; rfl
    · rw [(cd_hasT (by omega)).mp w, Bool.or_true]
    · rw [(cd_hasT (by omega)).mp z, Bool.true_or]
  · have hw := wf f hf (by omega)
    rw [e] at p1 p0 ⊢
    rw [if_neg (by decide), if_neg (by decide), if_pos rfl] at p1 p0
    have ho : m ||| 2 ^ l f < 2 ^ n := cd_orlt hm (by omega)
    have eo : nI m ||| cd_b (l f) = nI (m ||| 2 ^ l f) := cd_orN (by omega)
    refine br_f (by decide) (br_f (by decide) (br_f (by decide) (br_f (by decide) (br_t rfl ?_))))
    rw [eo, nI_clamp (by omega)]
    exact ⟨vp_in_nI (by omega) (by omega), br_c (fun z => p0 ((cd_has (by omega)).mp z)) (fun z => p1 ((cd_hasT (by omega)).mp z))⟩
  · rw [e] at p1 p0 ⊢
    rw [if_neg (by decide), if_neg (by decide), if_neg (by decide)] at p0
    exact br_f (by decide) (br_t (by decide) (p0 rfl))
  · rw [e] at p1 p0 ⊢
    rw [if_neg (by decide), if_neg (by decide), if_neg (by decide)] at p0
    exact br_f (by decide) (br_t (by decide) (p0 rfl))
theorem cx_yield {post : Int32 → Prop} (H : cd_L n s l r sh lf rt) (hm : m < 2 ^ n) (hf : f < n) (p : post (cd_yd n s l r co m f)) : wpX_yieldOf post (nI n, sh, lf, rt, tr, co) (nI m) (nI f) := by
  obtain ⟨hn, hsh, hlf, hrt, hs4, hl, hr, wf⟩ := H
  have h2 := cd_p2 hn
  have cf : (nI f).toNatClampNeg = f := nI_clamp (by omega)
  have cm : (nI m).toNatClampNeg = m := nI_clamp (by omega)
  have vf : vp_in (nI f) 11 := vp_in_nI (by omega) (by omega)
  have hlf' := hl f
  have hrf' := hr f
  unfold wpX_yieldOf
  refine ⟨vf, nm_r (e' := cd_b (l f)) (by rw [cf, hlf]; rfl) ⟨vf, nm_r (e' := cd_b (r f)) (by rw [cf, hrt]; rfl) ⟨vf, nm_r (e' := nI (s f)) (by rw [cf, hsh]) ?_⟩⟩⟩
  unfold cd_yd at p
  rcases (show s f = 0 ∨ s f = 1 ∨ s f = 2 ∨ s f = 3 ∨ s f = 4 from by have := hs4 f; omega) with e | e | e | e | e
  · rw [e] at p ⊢
    rw [if_pos rfl] at p
    exact br_f (by decide) (br_f (by decide) (br_t rfl p))
  · have hw := wf f hf (by omega)
    rw [e] at p ⊢
    rw [if_neg (by decide), if_pos rfl] at p
    have ho : m ||| 2 ^ l f < 2 ^ n := cd_orlt hm (by omega)
    have ho' : m ||| 2 ^ r f < 2 ^ n := cd_orlt hm (by omega)
    have eo : nI m ||| cd_b (l f) = nI (m ||| 2 ^ l f) := cd_orN (by omega)
    have eo' : nI m ||| cd_b (r f) = nI (m ||| 2 ^ r f) := cd_orN (by omega)
    refine br_f (by decide) (br_f (by decide) (br_f (by decide) (br_t rfl ?_)))
    rw [eo, eo', nI_clamp (by omega), nI_clamp (by omega)]
    exact ⟨vp_in_nI (by omega) (by omega), vp_in_nI (by omega) (by omega), p⟩
  · rw [e] at p ⊢
    rw [if_neg (by decide), if_neg (by decide), if_pos rfl] at p
    refine br_f (by decide) (br_f (by decide) (br_f (by decide) (br_f (by decide) (br_t rfl ⟨vp_in_nI (by omega) (by omega), ?_⟩))))
    rw [cm]
    refine br_c (fun z => ?_) (fun z => ?_)
    · rw [if_neg (by rw [(cd_has (by omega)).mp z]; decide)] at p; exact p
    · rw [if_pos ((cd_hasT (by omega)).mp z)] at p; exact p
  · rw [e] at p ⊢
    rw [if_neg (by decide), if_neg (by decide), if_neg (by decide), if_neg (by decide)] at p
    exact br_f (by decide) (br_f (by decide) (br_f (by decide) (br_f (by decide) (br_f (by decide) (br_t rfl p)))))
  · rw [e] at p ⊢
    rw [if_neg (by decide), if_neg (by decide), if_neg (by decide), if_pos rfl] at p
    refine br_f (by decide) (br_f (by decide) (br_f (by decide) (br_f (by decide) (br_f (by decide) (br_f (by decide) (br_t rfl ?_))))))
    show post (cd_b n - 1)
    rw [cd_fullN n hn]
    exact p
end
