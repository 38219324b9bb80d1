/-! Y: the private methods, work -/
def cd_Ly (n : Nat) (s l r : Nat → Nat) (sh lf ri : Nat → Int32) : Prop :=
  n < 12 ∧ (∀ j, sh j = nI (s j)) ∧ (∀ j, lf j = nI (l j)) ∧ (∀ j, s j < 3 → ri j = nI (r j)) ∧ (∀ j, s j ≤ 4) ∧ (∀ j, l j < 11) ∧ (∀ j, r j < 11) ∧ cd_wf n s l r
theorem cy_has {post : Int32 → Prop} {v : SY} {K : Int32} {f : Nat} (hf : f < 32) (h1 : bt K f = true → post 1) (h0 : bt K f = false → post 0) : wpY_has post v K (nI f) := by
  obtain ⟨a, b, c, d, e, g, h⟩ := v
  unfold wpY_has
  refine br_c (fun z => h1 ((cd_srT hf).mp z)) (fun z => h0 ?_)
  cases w : bt K f
  · rfl
  · exact absurd ((cd_srT hf).mpr w) z
section
variable {n m f : Nat} {s l r : Nat → Nat} {kn : Int32} {sh lf ri fo ty : Nat → Int32}
theorem cy_is0 {post : Int32 → Prop} {x : Int32} (h : x < 0 ∨ nI n ≤ x) (p : post 0) : wpY_is post (nI n, kn, sh, lf, ri, fo, ty) x := by
  unfold wpY_is
  refine br_c (fun _ => p) (fun z => br_c (fun _ => p) (fun w => ?_))
  exact h.elim (fun y => absurd y z) (fun y => absurd y w)
theorem cy_is1 {post : Int32 → Prop} {j : Nat} (hn : n < 12) (hj : j < n) (p : post 1) : wpY_is post (nI n, kn, sh, lf, ri, fo, ty) (nI j) := by
  unfold wpY_is
  exact br_f (nI_pos (by omega)) (br_f (nI_ge hj (by omega)) p)
theorem cy_with {post : Int32 → Prop} {K : Int32} {a : Nat} (hn : n < 12) (hm : m < 2 ^ n) (ha : a < n) (p : post (cd_W fo m K a)) : wpY_with post (nI n, kn, sh, lf, ri, fo, ty) (nI m) (nI a) K := by
  have h2 := cd_p2 hn
  unfold wpY_with
  refine cy_has (by omega) (fun z => ?_) (fun z => ?_)
  · rw [cd_btM (by omega)] at z
    unfold cd_W at p
    rw [if_pos z] at p
    exact br_f (by decide) p
  · rw [cd_btM (by omega)] at z
    unfold cd_W at p
    rw [if_neg (by rw [z]; decide)] at p
    have ho : m ||| 2 ^ a < 2 ^ n := cd_orlt hm ha
    refine br_t rfl ?_
    show vp_in (nI m ||| cd_b a) 2048 ∧ post (fo (nI m ||| cd_b a).toNatClampNeg)
    rw [cd_orN (by omega), nI_clamp (by omega)]
    exact ⟨vp_in_nI (by omega) (by omega), p⟩
theorem cy_more {post : Int32 → Prop} {K : Int32} (H : cd_Ly n s l r sh lf ri) (hm : m < 2 ^ n) (hf : f < n) (p : post (cd_ym n s l r fo m K f)) : wpY_more post (nI n, kn, sh, lf, ri, fo, ty) (nI m) K (nI f) := by
  obtain ⟨hn, hsh, hlf, hri, hs4, hl, hr, wf⟩ := H
  have h2 := cd_p2 hn
  have cf : (nI f).toNatClampNeg = f := nI_clamp (by omega)
  have vf : vp_in (nI f) 11 := vp_in_nI (by omega) (by omega)
  have hlf' := hl f
  have hrf' := hr f
  unfold wpY_more
  refine ⟨vf, nm_r (e' := nI (s f)) (by rw [cf, hsh]) ⟨vf, nm_r (e' := nI (l f)) (by rw [cf, hlf]) ⟨vf, nm_r (e' := ri f) (by rw [cf]) ?_⟩⟩⟩
  unfold cd_ym at p
  by_cases e4 : s f = 4
  · rw [if_pos e4] at p
    rw [e4]
    refine br_t rfl (cy_has (by omega) (fun z => br_f (by decide) ?_) (fun z => br_t rfl ?_))
    · rw [if_pos z] at p
      show post (cd_b n - 1)
      rw [cd_fullN n hn]
      exact p
    · rw [if_neg (by rw [z]; decide)] at p
      exact p
  rw [if_neg e4] at p
  by_cases e3 : s f = 3
  · rw [if_pos e3] at p
    rw [e3]
    exact br_f (by decide) (br_t rfl p)
  rw [if_neg e3] at p
  have h3 : s f < 3 := by have := hs4 f; omega
  have hw := wf f hf h3
  rw [hri f h3]
  by_cases e0 : s f = 0
  · rw [if_pos e0] at p
    rw [e0]
    refine br_f (by decide) (br_f (by decide) (cy_has (by omega) (fun z => ?_) (fun z => ?_)))
    · rw [if_pos z] at p
      exact nm_r (e' := cd_b (l f) ||| cd_b (r f)) rfl (br_t rfl (br_f (by decide) p))
    · rw [if_neg (by rw [z]; decide)] at p
      refine nm_r (e' := cd_b (l f) ||| cd_b (r f)) rfl (br_t rfl (br_t rfl (br_c (fun w => ?_) (fun w => ?_))))
      · rw [if_pos ((cd_both (by omega) (by omega)).mp w)] at p; exact p
      · rw [if_neg (fun y => w ((cd_both (by omega) (by omega)).mpr y))] at p; exact p
  rw [if_neg e0] at p
  by_cases e2 : s f = 2
  · rw [if_pos e2] at p
    rw [e2]
    have fin : ∀ (t x7 : Int32), (x7 = 0 → bt K f = false) → (¬ x7 = 0 → bt K f = true) → (if bt (cd_W fo m K (l f)) (r f) = true then cd_b f else 0) = t → wY_more_145 post K (nI (l f)) (nI (r f)) x7 t (nI n) kn sh lf ri fo ty := by
      intro t x7 g0 g1 ht
      rw [ht] at p
      unfold wY_more_145
      refine br_c (fun z => ?_) (fun z => cy_has (by omega) (fun w => br_f (by decide) ?_) (fun w => br_t rfl ?_))
      · rw [if_neg (fun y => by rw [g0 z] at y; exact Bool.noConfusion y.1)] at p; exact p
      · rw [if_pos ⟨g1 z, w⟩] at p; exact p
      · rw [if_neg (fun y => by rw [w] at y; exact Bool.noConfusion y.2)] at p; exact p
    have go : ∀ x7 : Int32, (x7 = 0 → bt K f = false) → (¬ x7 = 0 → bt K f = true) → wpY_with (fun r_19 => (((nI 2 = 2 → (wpY_has (fun r_38 => (((r_38 = 0 → (wY_more_145 post K (nI (l f)) (nI (r f)) x7 0 (nI n) kn sh lf ri fo ty)) ∧ (¬ r_38 = 0 → (wY_more_145 post K (nI (l f)) (nI (r f)) x7 ((1 : Int32) <<< (nI f &&& 31)) (nI n) kn sh lf ri fo ty))))) (nI n, kn, sh, lf, ri, fo, ty) r_19 (nI (r f)))) ∧ (¬ nI 2 = 2 → (wpY_with (fun r_28 => ((((K &&& (cd_b (l f) ||| cd_b (r f))) = 0 → (wY_more_199 post x7 r_19 r_28 0 (nI n) kn sh lf ri fo ty)) ∧ (¬ (K &&& (cd_b (l f) ||| cd_b (r f))) = 0 → (wY_more_199 post x7 r_19 r_28 ((1 : Int32) <<< (nI f &&& 31)) (nI n) kn sh lf ri fo ty))))) (nI n, kn, sh, lf, ri, fo, ty) (nI m) (nI (r f)) K))))) (nI n, kn, sh, lf, ri, fo, ty) (nI m) (nI (l f)) K := by
      intro x7 g0 g1
      refine cy_with hn hm (by omega) (br_t rfl (cy_has (by omega) (fun z => br_f (by decide) ?_) (fun z => br_t rfl ?_)))
      · exact fin _ x7 g0 g1 (by rw [if_pos z]; rfl)
      · exact fin _ x7 g0 g1 (by rw [if_neg (by rw [z]; decide)])
    refine br_f (by decide) (br_f (by decide) (cy_has (by omega) (fun z => ?_) (fun z => ?_)))
    · exact nm_r (e' := cd_b (l f) ||| cd_b (r f)) rfl (br_f (by decide) (go 1 (fun y => absurd y (by decide)) (fun _ => z)))
    · exact nm_r (e' := cd_b (l f) ||| cd_b (r f)) rfl (br_f (by decide) (go 0 (fun _ => z) (fun y => absurd rfl y)))
  rw [if_neg e2] at p
  have e1 : s f = 1 := by omega
  rw [e1]
  have fin : ∀ (t x7 : Int32), (x7 = 0 → bt K f = false) → (¬ x7 = 0 → bt K f = true) → (if bt K (l f) = true ∨ bt K (r f) = true then cd_b f else 0) = t → wY_more_199 post x7 (cd_W fo m K (l f)) (cd_W fo m K (r f)) t (nI n) kn sh lf ri fo ty := by
    intro t x7 g0 g1 ht
    rw [ht] at p
    unfold wY_more_199
    refine br_c (fun z => ?_) (fun z => ?_)
    · rw [if_neg (fun y => by rw [g0 z] at y; exact Bool.noConfusion y)] at p; exact p
    · rw [if_pos (g1 z)] at p; exact p
  have go : ∀ x7 : Int32, (x7 = 0 → bt K f = false) → (¬ x7 = 0 → bt K f = true) → wpY_with (fun r_19 => (((nI 1 = 2 → (wpY_has (fun r_38 => (((r_38 = 0 → (wY_more_145 post K (nI (l f)) (nI (r f)) x7 0 (nI n) kn sh lf ri fo ty)) ∧ (¬ r_38 = 0 → (wY_more_145 post K (nI (l f)) (nI (r f)) x7 ((1 : Int32) <<< (nI f &&& 31)) (nI n) kn sh lf ri fo ty))))) (nI n, kn, sh, lf, ri, fo, ty) r_19 (nI (r f)))) ∧ (¬ nI 1 = 2 → (wpY_with (fun r_28 => ((((K &&& (cd_b (l f) ||| cd_b (r f))) = 0 → (wY_more_199 post x7 r_19 r_28 0 (nI n) kn sh lf ri fo ty)) ∧ (¬ (K &&& (cd_b (l f) ||| cd_b (r f))) = 0 → (wY_more_199 post x7 r_19 r_28 ((1 : Int32) <<< (nI f &&& 31)) (nI n) kn sh lf ri fo ty))))) (nI n, kn, sh, lf, ri, fo, ty) (nI m) (nI (r f)) K))))) (nI n, kn, sh, lf, ri, fo, ty) (nI m) (nI (l f)) K := by
    intro x7 g0 g1
    refine cy_with hn hm (by omega) (br_f (by decide) (cy_with hn hm (by omega) (br_c (fun z => ?_) (fun z => ?_))))
    · exact fin _ x7 g0 g1 (by rw [if_neg ((cd_any (by omega) (by omega)).mp z)])
    · exact fin _ x7 g0 g1 (by rw [if_pos (Classical.byContradiction (fun y => z ((cd_any (by omega) (by omega)).mpr y)))]; rfl)
  refine br_f (by decide) (br_f (by decide) (cy_has (by omega) (fun z => ?_) (fun z => ?_)))
  · exact nm_r (e' := cd_b (l f) ||| cd_b (r f)) rfl (br_f (by decide) (go 1 (fun y => absurd y (by decide)) (fun _ => z)))
  · exact nm_r (e' := cd_b (l f) ||| cd_b (r f)) rfl (br_f (by decide) (go 0 (fun _ => z) (fun y => absurd rfl y)))
end
