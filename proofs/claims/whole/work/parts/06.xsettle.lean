/-! X: applyRules, settle -/
section
variable {n m f : Nat} {s l r : Nat → Nat} {sh lf rt tr co A : Nat → Int32}
theorem cx_31 {post : SX → Prop} {J : Int32 → (Nat → Int32) → (Nat → Int32) → (Nat → Int32) → (Nat → Int32) → (Nat → Int32) → Prop} (H : cd_L n s l r sh lf rt) (hm : m < 2 ^ n) (hf : f < n)
    (h : ∀ c2 : Nat → Int32, (∀ k, k ≠ m → c2 k = co k) → (∀ g, bt (c2 m) g = (bt (co m) g || (bt (co m) f && bt (cd_yd n s l r co m f) g))) → J (nI (f + 1)) sh lf rt tr c2) :
    wX_applyRules_31 post J (nI m) (nI f) (nI n) sh lf rt tr co := by
  have hn := H.1
  have h2 := cd_p2 hn
  have cm : (nI m).toNatClampNeg = m := nI_clamp (by omega)
  have vm : vp_in (nI m) 2048 := vp_in_nI (by omega) (by omega)
  unfold wX_applyRules_31
  rw [cm]
  refine ⟨vm, br_c (fun z => nm_r (nI_1 f) (h co (fun _ _ => rfl) (fun g => ?_))) (fun z => ⟨vm, cx_yield H hm hf ⟨vm, nm_e (nm_r (nI_1 f) (h _ (fun k hk => pk_un hk) (fun g => ?_)))⟩⟩)⟩
  · rw [(cd_has (f := f) (by omega)).mp z, Bool.false_and, Bool.or_false]
  · rw [pk_us, b_or, (cd_hasT (f := f) (by omega)).mp z, Bool.true_and]
theorem cx_app {post : SX → Prop} {K : Int32} (H : cd_L n s l r sh lf rt) (hm : m < 2 ^ n)
    (k : ∀ c2 : Nat → Int32, (∀ k, k ≠ m → c2 k = A k) → cd_P n s l r A m n K (c2 m) → post (nI n, sh, lf, rt, tr, c2)) :
    ∀ d f (co : Nat → Int32), f + d = n → (∀ k, k ≠ m → co k = A k) → cd_P n s l r A m f K (co m) → wX_applyRules_2 post (nI m) (nI n) (d + 1) (nI f) sh lf rt tr co := by
  have hn := H.1
  have h2 := cd_p2 hn
  have cm : (nI m).toNatClampNeg = m := nI_clamp (by omega)
  have vm : vp_in (nI m) 2048 := vp_in_nI (by omega) (by omega)
  intro d
  induction d with
  | zero =>
    intro f co hf hA hP
    have e : f = n := by omega
    subst e
    exact br_t (Int32.le_refl _) (k co hA hP)
  | succ d ih =>
    intro f co hf hA hP
    have hfn : f < n := by omega
    have hl32 : l f < 32 := by have := H.2.2.2.2.2.1 f; omega
    have hr32 : r f < 32 := by have := H.2.2.2.2.2.2.1 f; omega
    refine br_f (nI_ge hfn (by omega)) (cx_can H hm hfn (fun z => ?_) (fun z => ?_))
    · refine br_f (by decide) ⟨vm, vm, nm_r (e' := upd co m (co m ||| cd_b f)) (by rw [cm]; rfl) (cx_31 H hm hfn (fun c2 h1 h3 => ?_))⟩
      refine ih (f + 1) c2 (by omega) (fun k hk => by rw [h1 k hk, pk_un hk, hA k hk]) (cd_PS hfn hP ?_)
      refine cd_stX (A0 := A) (A := co) (B := upd co m (co m ||| cd_b f)) (K1 := co m ||| cd_b f) (mk := true) hn hl32 hr32 rfl hA z (fun g => ?_) pk_us (fun k hk => by rw [pk_un hk, hA k hk]) rfl (fun g => ?_)
      · rw [b_or, cd_bt1 (by omega), Bool.true_and]
      · rw [h3 g, pk_us]
    · refine br_t rfl (cx_31 H hm hfn (fun c2 h1 h3 => ?_))
      refine ih (f + 1) c2 (by omega) (fun k hk => by rw [h1 k hk, hA k hk]) (cd_PS hfn hP ?_)
      refine cd_stX (A0 := A) (A := co) (B := co) (K1 := co m) (mk := false) hn hl32 hr32 rfl hA z (fun g => ?_) rfl hA rfl (fun g => ?_)
      · rw [Bool.false_and, Bool.or_false]
      · rw [h3 g]
theorem cx_24 {post : SX → Prop} {J : Int32 → Int32 → (Nat → Int32) → (Nat → Int32) → (Nat → Int32) → (Nat → Int32) → (Nat → Int32) → Prop} (H : cd_L n s l r sh lf rt) (hm : m < 2 ^ n) (ha : ∀ k, m < k → k < 2 ^ n → cd_G n s l r A k)
    (k : ∀ c2 : Nat → Int32, (∀ k, k ≠ m → c2 k = A k) → cd_R n s l r A m (c2 m) → cd_P n s l r A m n (c2 m) (c2 m) → J (nI m + (-1)) (nI n) sh lf rt tr c2) :
    ∀ d q (co : Nat → Int32), q + d = 12 → (∀ k, k ≠ m → co k = A k) → cd_R n s l r A m (co m) → q ≤ cd_cn (co m) n → wX_settle_24 post J (nI m) (d + 1) 1 (nI q) (nI n) sh lf rt tr co := by
  have hn := H.1
  have h2 := cd_p2 hn
  have wf := H.2.2.2.2.2.2.2
  have cm : (nI m).toNatClampNeg = m := nI_clamp (by omega)
  have vm : vp_in (nI m) 2048 := vp_in_nI (by omega) (by omega)
  intro d
  induction d with
  | zero =>
    intro q co hq hA hR hc
    have := cd_cnle (co m) n
    omega
  | succ d ih =>
    intro q co hq hA hR hc
    have hc2 := cd_cnle (co m) n
    refine br_f (by decide) (br_f (nI_nlt (b := q) (a := 11) (by omega) (by decide)) ⟨vm, nm_r (e' := co m) (by rw [cm]) ?_⟩)
    refine ⟨n + 1, cx_app (K := co m) H hm (fun c2 h1 h3 => ?_) n 0 co (by omega) hA (cd_P0 n s l r A m (co m))⟩
    refine ⟨vm, ?_⟩
    rw [cm]
    refine br_c (fun z => nm_r (nI_1 q) ?_) (fun z => nm_r (nI_1 q) ?_)
    · rw [← z] at h3
      exact br_t rfl (nm_e (k c2 h1 (cd_RP hR (by rw [← z]; exact h3)) h3))
    · exact ih (q + 1) c2 (by omega) h1 (cd_RP hR h3) (by have := cd_grow wf hm ha hR h3 z; omega)
theorem cx_9 {post : SX → Prop} (H : cd_L n s l r sh lf rt) (k : ∀ c2 : Nat → Int32, (∀ j, j < 2 ^ n → cd_G n s l r c2 j) → post (nI n, sh, lf, rt, tr, c2)) :
    ∀ M (co : Nat → Int32), M ≤ 2 ^ n → (∀ j, M ≤ j → j < 2 ^ n → cd_G n s l r co j) → wX_settle_9 post (M + 1) (nI M + (-1)) (nI n) sh lf rt tr co := by
  have hn := H.1
  have h2 := cd_p2 hn
  have wf := H.2.2.2.2.2.2.2
  intro M
  induction M with
  | zero =>
    intro co hM hG
    exact br_t (by decide) (k co (fun j hj => hG j (by omega) hj))
  | succ M ih =>
    intro co hM hG
    have hm : M < 2 ^ n := by omega
    have cm : (nI M).toNatClampNeg = M := nI_clamp (by omega)
    have vm : vp_in (nI M) 2048 := vp_in_nI (by omega) (by omega)
    rw [pk_m1]
    refine br_f (nI_pos (by omega)) ⟨vm, nm_r (e' := upd co M (nI M)) (by rw [cm]) ⟨13, ?_⟩⟩
    refine cx_24 (A := co) H hm hG (fun c2 h1 h3 h4 => ?_) 12 0 _ rfl (fun k hk => pk_un hk) ?_ (Nat.zero_le _)
    · refine ih c2 (by omega) (cd_Gup wf hG h1 (fun _ => cd_RG wf hm hG h3 h4 rfl h1))
    · rw [pk_us]
      exact cd_R0 n s l r co (by omega)
theorem cx_settle {post : SX → Prop} (H : cd_L n s l r sh lf rt) (k : ∀ c2 : Nat → Int32, (∀ j, j < 2 ^ n → cd_G n s l r c2 j) → post (nI n, sh, lf, rt, tr, c2)) : wpX_settle post (nI n, sh, lf, rt, tr, co) := by
  have hn := H.1
  have h2 : 0 < 2 ^ n := Nat.two_pow_pos n
  have e : cd_b n - 1 = nI (2 ^ n) + (-1) := by
    rw [cd_fullN n hn]
    obtain ⟨p, hp⟩ : ∃ p, 2 ^ n = p + 1 := ⟨2 ^ n - 1, by omega⟩
    rw [hp, pk_m1, Nat.add_sub_cancel]
  unfold wpX_settle
  exact nm_r e ⟨2 ^ n + 1, cx_9 H k (2 ^ n) co (Nat.le_refl _) (fun j h1 h3 => absurd h3 (by omega))⟩
end
