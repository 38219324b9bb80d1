/-! the table is read: follows, all, alike -/
theorem cx_hasT {post : Int32 → Prop} {K : Int32} {f : Nat} (hf : f < 32) (h : bt K f = true) (p : post 1) : wpX_has post K (nI f) :=
  cx_has hf (fun _ => p) (fun z => by rw [h] at z; exact Bool.noConfusion z)
theorem cx_hasF {post : Int32 → Prop} {K : Int32} {f : Nat} (hf : f < 32) (h : bt K f = false) (p : post 0) : wpX_has post K (nI f) :=
  cx_has hf (fun z => by rw [h] at z; exact Bool.noConfusion z) (fun _ => p)
theorem cy_hasT {post : Int32 → Prop} {v : SY} {K : Int32} {f : Nat} (hf : f < 32) (h : bt K f = true) (p : post 1) : wpY_has post v K (nI f) :=
  cy_has hf (fun _ => p) (fun z => by rw [h] at z; exact Bool.noConfusion z)
theorem cy_hasF {post : Int32 → Prop} {v : SY} {K : Int32} {f : Nat} (hf : f < 32) (h : bt K f = false) (p : post 0) : wpY_has post v K (nI f) :=
  cy_has hf (fun z => by rw [h] at z; exact Bool.noConfusion z) (fun _ => p)
theorem cd_lst (x : Int32) {n : Nat} (hn : n < 12) : (x < 0 ∨ nI n ≤ x) ∨ ∃ j, j < n ∧ x = nI j := by
  rcases pk_ix x (n := n) (by omega) with w | w | w
  · exact Or.inl (Or.inl w)
  · exact Or.inl (Or.inr w)
  · exact Or.inr w
section
variable {n m : Nat} {s l r : Nat → Nat} {kn : Int32} {sh lf rt tr co ri fo ty : Nat → Int32}
theorem cy_taken {post : Int32 → SY → Prop} {x : Int32} (H : cd_I n s l r sh lf rt tr co ri) (hK : cd_K n kn co fo) (e : x &&& nI (2 ^ n - 1) = nI m)
    (k : ∀ (k2 : Int32) (c2 : Nat → Int32), ¬ k2 = 0 → (∀ j, j < 2 ^ n → c2 j = co j) → post (nI m) (nI n, k2, sh, lf, ri, c2, ty)) : wpY_taken post (nI n, kn, sh, lf, ri, fo, ty) x := by
  unfold wpY_taken
  refine cy_work (cd_Iy H) H.2.2.1 hK (fun k2 c2 h1 h2 => ?_)
  show post (x &&& (cd_b n - 1)) _
  rw [cd_fullN n H.1.1, e]
  exact k k2 c2 h1 h2
end
theorem i_vc_follows {k : Nat} {u : SX} {v : SY} (I : i_Rel k u v) (hk : k + 4 ≤ 2048) (v1 : Int32) (v2 : Int32) : wpX_follows (fun r => wpY_follows (fun r' v' => r' = r ∧ i_Rel (k + 4) u v') v v1 v2) u v1 v2 := by
  have hR := i_up I
  obtain ⟨n, kn, s, l, r, sh, lf, rt, tr, co, ri, fo, ty, rfl, rfl, h, hK, _⟩ := I
  have hn := h.1.1
  have h2 := cd_p2 hn
  rcases cd_lst v2 hn with q | ⟨c, hc, rfl⟩
  · unfold wpX_follows
    refine cx_is0 q (br_t rfl ?_)
    unfold wpY_follows
    exact cy_is0 q (br_t rfl ⟨rfl, hR⟩)
  obtain ⟨m, hm, em⟩ := cd_part v1 hn
  have cm : (nI m).toNatClampNeg = m := nI_clamp (by omega)
  have vm : vp_in (nI m) 2048 := vp_in_nI (by omega) (by omega)
  unfold wpX_follows
  refine cx_is1 hn hc (br_f (by decide) (cx_lp hn em ⟨vm, ?_⟩))
  rw [cm]
  refine cx_has (by omega) (fun z => br_f (by decide) ?_) (fun z => br_t rfl ?_)
  · unfold wpY_follows
    refine cy_is1 hn hc (br_f (by decide) (cy_taken h hK em (fun k2 c2 h3 h4 => ⟨vm, ?_⟩)))
    rw [cm, h4 m hm]
    exact cy_hasT (by omega) z (br_f (by decide) ⟨rfl, cd_rel h (Or.inr ⟨h3, h4⟩)⟩)
  · unfold wpY_follows
    refine cy_is1 hn hc (br_f (by decide) (cy_taken h hK em (fun k2 c2 h3 h4 => ⟨vm, ?_⟩)))
    rw [cm, h4 m hm]
    exact cy_hasF (by omega) z (br_t rfl ⟨rfl, cd_rel h (Or.inr ⟨h3, h4⟩)⟩)
theorem i_vc_all {k : Nat} {u : SX} {v : SY} (I : i_Rel k u v) (hk : k + 4 ≤ 2048) (v1 : Int32) : wpX_all (fun r => wpY_all (fun r' v' => r' = r ∧ i_Rel (k + 4) u v') v v1) u v1 := by
  obtain ⟨n, kn, s, l, r, sh, lf, rt, tr, co, ri, fo, ty, rfl, rfl, h, hK, _⟩ := I
  have hn := h.1.1
  have h2 := cd_p2 hn
  obtain ⟨m, hm, em⟩ := cd_part v1 hn
  have cm : (nI m).toNatClampNeg = m := nI_clamp (by omega)
  have vm : vp_in (nI m) 2048 := vp_in_nI (by omega) (by omega)
  unfold wpX_all
  refine cx_lp hn em ⟨vm, ?_⟩
  rw [cm]
  unfold wpY_all
  refine cy_taken h hK em (fun k2 c2 h3 h4 => ⟨vm, ?_⟩)
  refine ⟨?_, cd_rel h (Or.inr ⟨h3, h4⟩)⟩
  rw [cm, h4 m hm]
theorem i_vc_alike {k : Nat} {u : SX} {v : SY} (I : i_Rel k u v) (hk : k + 4 ≤ 2048) (v1 : Int32) (v2 : Int32) : wpX_alike (fun r => wpY_alike (fun r' v' => r' = r ∧ i_Rel (k + 4) u v') v v1 v2) u v1 v2 := by
  have hR := i_up I
  obtain ⟨n, kn, s, l, r, sh, lf, rt, tr, co, ri, fo, ty, rfl, rfl, h, hK, _⟩ := I
  have hn := h.1.1
  have h2 := cd_p2 hn
  rcases cd_lst v1 hn with q | ⟨i, hi, rfl⟩
  · unfold wpX_alike
    refine cx_is0 q (br_t rfl ?_)
    unfold wpY_alike
    exact cy_is0 q (br_t rfl ⟨rfl, hR⟩)
  rcases cd_lst v2 hn with q | ⟨j, hj, rfl⟩
  · unfold wpX_alike
    refine cx_is1 hn hi (br_f (by decide) (cx_is0 q (br_t rfl ?_)))
    unfold wpY_alike
    exact cy_is1 hn hi (br_f (by decide) (cy_is0 q (br_t rfl ⟨rfl, hR⟩)))
  have pi := cd_p2k hi
  have pj := cd_p2k hj
  have bi : (1 : Int32) <<< (nI i &&& 31) = nI (2 ^ i) := cd_bN i (by omega)
  have bj : (1 : Int32) <<< (nI j &&& 31) = nI (2 ^ j) := cd_bN j (by omega)
  have ci : (nI (2 ^ i)).toNatClampNeg = 2 ^ i := nI_clamp (by omega)
  have cj : (nI (2 ^ j)).toNatClampNeg = 2 ^ j := nI_clamp (by omega)
  have vi : vp_in (nI (2 ^ i)) 2048 := vp_in_nI (by omega) (by omega)
  have vj : vp_in (nI (2 ^ j)) 2048 := vp_in_nI (by omega) (by omega)
  have Y : ∀ (post : Int32 → SY → Prop) (b : Int32), (∀ (k2 : Int32) (c2 : Nat → Int32), ¬ k2 = 0 → (∀ j, j < 2 ^ n → c2 j = co j) → post b (nI n, k2, sh, lf, ri, c2, ty)) → (b = if bt (co (2 ^ i)) j = true ∧ bt (co (2 ^ j)) i = true then 1 else 0) → wpY_alike post (nI n, kn, sh, lf, ri, fo, ty) (nI i) (nI j) := by
    intro post b hp hb
    unfold wpY_alike
    refine cy_is1 hn hi (br_f (by decide) (cy_is1 hn hj (br_f (by decide) (cy_work (cd_Iy h) h.2.2.1 hK (fun k2 c2 h3 h4 => ?_)))))
    have hp' := hp k2 c2 h3 h4
    show vp_in ((1 : Int32) <<< (nI i &&& 31)) 2048 ∧ _
    rw [bi, bj, ci, cj, h4 _ pi, h4 _ pj]
    refine ⟨vi, cy_has (by omega) (fun z => br_f (by decide) ⟨vj, cy_has (by omega) (fun w => br_f (by decide) ?_) (fun w => br_t rfl ?_)⟩) (fun z => br_t rfl ?_)⟩
    · rw [if_pos ⟨z, w⟩] at hb; rw [hb] at hp'; exact hp'
    · rw [if_neg (fun y => by rw [w] at y; exact Bool.noConfusion y.2)] at hb; rw [hb] at hp'; exact hp'
    · rw [if_neg (fun y => by rw [z] at y; exact Bool.noConfusion y.1)] at hb; rw [hb] at hp'; exact hp'
  unfold wpX_alike
  refine cx_is1 hn hi (br_f (by decide) (cx_is1 hn hj (br_f (by decide) ?_)))
  rw [bi, bj, ci, cj]
  refine ⟨vi, cx_has (by omega) (fun z => br_f (by decide) ⟨vj, cx_has (by omega) (fun w => br_f (by decide) ?_) (fun w => br_t rfl ?_)⟩) (fun z => br_t rfl ?_)⟩
  · exact Y _ 1 (fun k2 c2 h3 h4 => ⟨rfl, cd_rel h (Or.inr ⟨h3, h4⟩)⟩) (by rw [if_pos ⟨z, w⟩])
  · exact Y _ 0 (fun k2 c2 h3 h4 => ⟨rfl, cd_rel h (Or.inr ⟨h3, h4⟩)⟩) (by rw [if_neg (fun y => by rw [w] at y; exact Bool.noConfusion y.2)])
  · exact Y _ 0 (fun k2 c2 h3 h4 => ⟨rfl, cd_rel h (Or.inr ⟨h3, h4⟩)⟩) (by rw [if_neg (fun y => by rw [z] at y; exact Bool.noConfusion y.1)])
