section
variable {n m f : Nat} {s l r : Nat → Nat} {kn : Int32} {sh lf ri fo ty : Nat → Int32}
theorem cy_40 {post : SY → Prop} {J22 : Int32 → (Nat → Int32) → (Nat → Int32) → (Nat → Int32) → (Nat → Int32) → (Nat → Int32) → Prop} {J30 : Int32 → Int32 → Prop} {K0 x3 : Int32} (H : cd_Ly n s l r sh lf ri) (hm : m < 2 ^ n)
    (k : ∀ L, cd_P n s l r fo m n K0 L → J30 L x3) :
    ∀ d f K, f + d = n → cd_P n s l r fo m f K0 K → wY_work_40 post J22 J30 (nI m) x3 (nI n) kn sh lf ri fo ty (d + 1) K (nI f) := by
  have hn := H.1
  intro d
  induction d with
  | zero =>
    intro f K hf hP
    have e : f = n := by omega
    subst e
    exact br_t (Int32.le_refl _) (k K hP)
  | succ d ih =>
    intro f K hf hP
    have hfn : f < n := by omega
    have hl32 : l f < 32 := by have := H.2.2.2.2.2.1 f; omega
    have hr32 : r f < 32 := by have := H.2.2.2.2.2.2.1 f; omega
    refine br_f (nI_ge hfn (by omega)) (cy_more H hm hfn (nm_e (nm_r (nI_1 f) (ih (f + 1) _ (by omega) (cd_PS hfn hP ?_)))))
    exact cd_stY hn (by omega) hl32 hr32 (H.2.2.2.2.1 f) rfl
theorem cy_30 {post : SY → Prop} {J22 : Int32 → (Nat → Int32) → (Nat → Int32) → (Nat → Int32) → (Nat → Int32) → (Nat → Int32) → Prop} (H : cd_Ly n s l r sh lf ri) (hm : m < 2 ^ n) (ha : ∀ k, m < k → k < 2 ^ n → cd_G n s l r fo k)
    (k : ∀ K, cd_R n s l r fo m K → cd_P n s l r fo m n K K → J22 (nI m + (-1)) sh lf ri (upd fo m K) ty) :
    ∀ d K x3, n - cd_cn K n ≤ d → cd_R n s l r fo m K → (K = x3 → cd_P n s l r fo m n K K) → wY_work_30 post J22 (nI m) (nI n) kn sh lf ri fo ty (d + 2) K x3 := by
  have hn := H.1
  have h2 := cd_p2 hn
  have wf := H.2.2.2.2.2.2.2
  have cm : (nI m).toNatClampNeg = m := nI_clamp (by omega)
  have vm : vp_in (nI m) 2048 := vp_in_nI (by omega) (by omega)
  have ex : ∀ q K x3, cd_R n s l r fo m K → cd_P n s l r fo m n K K → K = x3 → wY_work_30 post J22 (nI m) (nI n) kn sh lf ri fo ty (q + 1) K x3 := by
    intro q K x3 hR hP e
    exact br_t e ⟨vm, nm_r (e' := upd fo m K) (by rw [cm]) (nm_e (k K hR hP))⟩
  intro d
  induction d with
  | zero =>
    intro K x3 hd hR hP
    by_cases e : K = x3
    · exact ex _ K x3 hR (hP e) e
    · refine br_f e ⟨n + 1, cy_40 (K0 := K) H hm (fun L hL => ?_) n 0 K (by omega) (cd_P0 n s l r fo m K)⟩
      by_cases e2 : L = K
      · subst e2
        exact ex 0 L L hR hL rfl
      · have := cd_grow wf hm ha hR hL e2
        have := cd_cnle L n
        omega
  | succ d ih =>
    intro K x3 hd hR hP
    by_cases e : K = x3
    · exact ex _ K x3 hR (hP e) e
    · refine br_f e ⟨n + 1, cy_40 (K0 := K) H hm (fun L hL => ?_) n 0 K (by omega) (cd_P0 n s l r fo m K)⟩
      by_cases e2 : L = K
      · subst e2
        exact ex (d + 1) L L hR hL rfl
      · have := cd_grow wf hm ha hR hL e2
        exact ih L K (by omega) (cd_RP hR hL) (fun z => absurd z e2)
theorem cy_22 {post : SY → Prop} (H : cd_Ly n s l r sh lf ri) (k : ∀ c2 : Nat → Int32, (∀ j, j < 2 ^ n → cd_G n s l r c2 j) → post (nI n, kn, sh, lf, ri, c2, ty)) :
    ∀ M (fo : Nat → Int32), M ≤ 2 ^ n → (∀ j, M ≤ j → j < 2 ^ n → cd_G n s l r fo j) → wY_work_22 post (nI n) kn (M + 1) (nI M + (-1)) sh lf ri fo ty := by
  have hn := H.1
  have h2 := cd_p2 hn
  have wf := H.2.2.2.2.2.2.2
  intro M
  induction M with
  | zero =>
    intro fo hM hG
    exact br_t (by decide) (k fo (fun j hj => hG j (by omega) hj))
  | succ M ih =>
    intro fo hM hG
    have hm : M < 2 ^ n := by omega
    rw [pk_m1]
    refine br_f (nI_pos (by omega)) ⟨n + 2, ?_⟩
    refine cy_30 H hm hG (fun K hR hP => ?_) n (nI M) (-1) (by omega) (cd_R0 n s l r fo (by omega)) (fun z => ?_)
    · exact ih _ (by omega) (cd_Gup wf hG (fun k hk => pk_un hk) (fun _ => cd_RG wf hm hG hR hP pk_us (fun k hk => pk_un hk)))
    · exact absurd z (fun y => by
        have h0 : ¬ nI M < 0 := nI_pos (by omega)
        rw [y] at h0
        exact h0 (by decide))
theorem cy_work0 {post : SY → Prop} (H : cd_Ly n s l r sh lf ri) (k : ∀ c2 : Nat → Int32, (∀ j, j < 2 ^ n → cd_G n s l r c2 j) → post (nI n, 1, sh, lf, ri, c2, ty)) : wpY_work post (nI n, 0, sh, lf, ri, fo, ty) := by
  have hn := H.1
  have h2 : 0 < 2 ^ n := Nat.two_pow_pos n
  have e : cd_b n - 1 = nI (2 ^ n) + (-1) := by
    rw [cd_fullN n hn]
    obtain ⟨p, hp⟩ : ∃ p, 2 ^ n = p + 1 := ⟨2 ^ n - 1, by omega⟩
    rw [hp, pk_m1, Nat.add_sub_cancel]
  unfold wpY_work
  exact br_t rfl (nm_r e ⟨2 ^ n + 1, cy_22 H k (2 ^ n) fo (Nat.le_refl _) (fun j h1 h3 => absurd h3 (by omega))⟩)
theorem cy_work {post : SY → Prop} {co : Nat → Int32} (H : cd_Ly n s l r sh lf ri) (hG : ∀ j, j < 2 ^ n → cd_G n s l r co j) (hK : kn = 0 ∨ (¬ kn = 0 ∧ ∀ j, j < 2 ^ n → fo j = co j))
    (k : ∀ (k2 : Int32) (c2 : Nat → Int32), ¬ k2 = 0 → (∀ j, j < 2 ^ n → c2 j = co j) → post (nI n, k2, sh, lf, ri, c2, ty)) : wpY_work post (nI n, kn, sh, lf, ri, fo, ty) := by
  rcases hK with e | e
  · subst e
    exact cy_work0 H (fun c2 h => k 1 c2 (by decide) (fun j hj => cd_uniq H.2.2.2.2.2.2.2 h hG (2 ^ n) j hj (by omega)))
  · unfold wpY_work
    exact br_f e.1 (k kn fo e.1 e.2)
end
