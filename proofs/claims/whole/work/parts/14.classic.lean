/-! classically -/
def cd_ok (n : Nat) (x : Int32) (tr : Nat → Int32) (c ch : Nat) : Prop := cd_al x (fun f => bt (tr f) ch) n = true → bt (tr c) ch = true
section
variable {n : Nat} {s l r : Nat → Nat} {kn : Int32} {sh lf rt tr co ri fo ty : Nat → Int32}
theorem cx_cla {post : Int32 → Prop} {x : Int32} {c : Nat} (hn : n < 12) (hc : c < n) (p1 : (∀ ch, ch < 16 → cd_ok n x tr c ch) → post 1) (p0 : ¬ (∀ ch, ch < 16 → cd_ok n x tr c ch) → post 0) :
    ∀ d j (K : Int32), j + d = n → (∀ ch, ch < 16 → bt K ch = cd_al x (fun f => bt (tr f) ch) j) → (∀ g, 16 ≤ g → bt K g = false) → wX_classically_16 post x (nI c) (nI n) sh lf rt tr co (d + 1) K (nI j) := by
  have cc : (nI c).toNatClampNeg = c := nI_clamp (by omega)
  have vc : vp_in (nI c) 11 := vp_in_nI (by omega) (by omega)
  intro d
  induction d with
  | zero =>
    intro j K hj hK hK2
    have e : j = n := by omega
    subst e
    refine br_t (Int32.le_refl _) ⟨vc, ?_⟩
    rw [cc]
    have hiff : (K &&& (tr c ^^^ (-1))) = 0 ↔ ∀ ch, ch < 16 → cd_ok j x tr c ch := by
      rw [cd_cla hK2]
      exact ⟨fun h ch hch z => h ch hch (by rw [hK ch hch]; exact z), fun h ch hch z => h ch hch (by rw [hK ch hch] at z; exact z)⟩
    exact br_c (fun z => p1 (hiff.mp z)) (fun z => p0 (fun y => z (hiff.mpr y)))
  | succ d ih =>
    intro j K hj hK hK2
    have cj : (nI j).toNatClampNeg = j := nI_clamp (by omega)
    have vj : vp_in (nI j) 11 := vp_in_nI (by omega) (by omega)
    refine br_f (nI_ge (by omega) (by omega)) (cx_has (by omega) (fun z => br_f (by decide) ⟨vj, nm_r (e' := K &&& tr j) (by rw [cj]) (nm_r (nI_1 j) (ih (j + 1) _ (by omega) (fun ch hch => ?_) (fun g hg => ?_)))⟩) (fun z => br_t rfl (nm_r (nI_1 j) (ih (j + 1) K (by omega) (fun ch hch => ?_) hK2))))
    · rw [b_and, cd_alS, z, hK ch hch]; rfl
    · rw [b_and, hK2 g hg, Bool.false_and]
    · rw [cd_alS, z, hK ch hch, Bool.not_false, Bool.true_or, Bool.and_true]
theorem cd_nb0 : vp_nar .boolean 0 = 0 := rfl
theorem cd_nb1 : vp_nar .boolean 1 = 1 := rfl
theorem cy_judge {post : SY → Prop} {ch : Nat} (H : cd_Ly n s l r sh lf ri) (hT : cd_T n s l r tr) (hch : ch < 16)
    (k : ∀ t2 : Nat → Int32, (∀ j, j < n → t2 j = if bt (tr j) ch = true then 1 else 0) → post (nI n, kn, sh, lf, ri, fo, t2)) :
    ∀ d i (ty : Nat → Int32), i + d = n → (∀ j, j < i → ty j = if bt (tr j) ch = true then 1 else 0) → wY_judge_2 post (nI ch) (nI n) kn (d + 1) (nI i) sh lf ri fo ty := by
  obtain ⟨hn, hsh, hlf, hri, hs4, hl, hr, wf⟩ := H
  intro d
  induction d with
  | zero =>
    intro i ty hi ht
    have e : i = n := by omega
    subst e
    exact br_t (Int32.le_refl _) (k ty ht)
  | succ d ih =>
    intro i ty hi ht
    have hin : i < n := by omega
    have ci : (nI i).toNatClampNeg = i := nI_clamp (by omega)
    have vi : vp_in (nI i) 11 := vp_in_nI (by omega) (by omega)
    have cl : (nI (l i)).toNatClampNeg = l i := nI_clamp (by have := hl i; omega)
    have cr : (nI (r i)).toNatClampNeg = r i := nI_clamp (by have := hr i; omega)
    have vl : vp_in (nI (l i)) 11 := vp_in_nI (hl i) (by omega)
    have vr : vp_in (nI (r i)) 11 := vp_in_nI (hr i) (by omega)
    have hl' := hl i
    have hs' := hs4 i
    have hTi := hT i hin ch hch
    unfold cd_tv at hTi
    dsimp only at hTi
    have nx : ∀ w : Int32, w = (if bt (tr i) ch = true then 1 else 0) → wY_judge_2 post (nI ch) (nI n) kn (d + 1) (nI (i + 1)) sh lf ri fo (upd ty i w) := by
      intro w hw
      refine ih (i + 1) _ (by omega) (fun j hj => ?_)
      by_cases e : j = i
      · subst e; rw [pk_us, hw]
      · rw [pk_un e]; exact ht j (by omega)
    have nx1 : bt (tr i) ch = true → wY_judge_2 post (nI ch) (nI n) kn (d + 1) (nI (i + 1)) sh lf ri fo (upd ty i (vp_nar .boolean 1)) := fun z => nx _ (by rw [if_pos z]; rfl)
    have nx0 : bt (tr i) ch = false → wY_judge_2 post (nI ch) (nI n) kn (d + 1) (nI (i + 1)) sh lf ri fo (upd ty i (vp_nar .boolean 0)) := fun z => nx _ (by rw [if_neg (by rw [z]; decide)]; rfl)
    refine br_f (nI_ge hin (by omega)) ⟨vi, nm_r (e' := nI (l i)) (by rw [ci, hlf]) ⟨vi, nm_r (e' := ri i) (by rw [ci]) ⟨vi, ?_⟩⟩⟩
    rw [ci, hsh i]
    by_cases e3 : s i = 3
    · rw [if_neg (by omega), if_neg (by omega), if_neg (by omega), if_pos e3] at hTi
      rw [e3]
      refine br_t rfl (cy_has (by omega) (fun z => ⟨vi, nm_e (nm_r (nI_1 i) (nx1 ?_))⟩) (fun z => ⟨vi, nm_e (nm_r (nI_1 i) (nx0 ?_))⟩))
      · rw [hTi, ← cd_btN (by omega)]; exact z
      · rw [hTi, ← cd_btN (by omega)]; exact z
    by_cases e4 : s i = 4
    · rw [if_neg (by omega), if_neg (by omega), if_neg (by omega), if_neg e3] at hTi
      rw [e4]
      exact br_f (by decide) ⟨vi, br_t rfl ⟨vi, nm_e (nm_r (nI_1 i) (nx0 hTi))⟩⟩
    have h3 : s i < 3 := by omega
    have hw := wf i hin h3
    have tl := ht (l i) hw.1
    have tr' := ht (r i) hw.2
    rw [hri i h3, cl, cr]
    by_cases e0 : s i = 0
    · rw [if_pos e0] at hTi
      rw [e0]
      refine br_f (by decide) ⟨vi, br_f (by decide) ⟨vi, br_t rfl ⟨vl, ?_⟩⟩⟩
      cases z : bt (tr (l i)) ch
      · rw [z, if_neg (by decide)] at tl
        refine br_t tl ⟨vi, nm_e (nm_r (nI_1 i) (nx0 ?_))⟩
        rw [hTi, z, Bool.false_and]
      · rw [z, if_pos rfl] at tl
        refine br_f (by rw [tl]; decide) ⟨vr, ?_⟩
        cases w : bt (tr (r i)) ch
        · rw [w, if_neg (by decide)] at tr'
          refine br_t tr' ⟨vi, nm_e (nm_r (nI_1 i) (nx0 ?_))⟩
          rw [hTi, w, Bool.and_false]
        · rw [w, if_pos rfl] at tr'
          refine br_f (by rw [tr']; decide) ⟨vi, nm_e (nm_r (nI_1 i) (nx1 ?_))⟩
          rw [hTi, z, w]; rfl
    rw [if_neg e0] at hTi
    by_cases e1 : s i = 1
    · rw [if_pos e1] at hTi
      rw [e1]
      refine br_f (by decide) ⟨vi, br_f (by decide) ⟨vi, br_f (by decide) ⟨vi, br_t rfl ⟨vl, ?_⟩⟩⟩⟩
      cases z : bt (tr (l i)) ch
      · rw [z, if_neg (by decide)] at tl
        refine br_t tl ⟨vr, ?_⟩
        cases w : bt (tr (r i)) ch
        · rw [w, if_neg (by decide)] at tr'
          refine br_t tr' ⟨vi, nm_e (nm_r (nI_1 i) (nx0 ?_))⟩
          rw [hTi, z, w]; rfl
        · rw [w, if_pos rfl] at tr'
          refine br_f (by rw [tr']; decide) ⟨vi, nm_e (nm_r (nI_1 i) (nx1 ?_))⟩
          rw [hTi, w, Bool.or_true]
      · rw [z, if_pos rfl] at tl
        refine br_f (by rw [tl]; decide) ⟨vi, nm_e (nm_r (nI_1 i) (nx1 ?_))⟩
        rw [hTi, z, Bool.true_or]
    rw [if_neg e1] at hTi
    have e2 : s i = 2 := by omega
    rw [if_pos e2] at hTi
    rw [e2]
    refine br_f (by decide) ⟨vi, br_f (by decide) ⟨vi, br_f (by decide) ⟨vi, br_f (by decide) ⟨vl, ?_⟩⟩⟩⟩
    cases z : bt (tr (l i)) ch
    · rw [z, if_neg (by decide)] at tl
      refine br_t tl ⟨vi, nm_e (nm_r (nI_1 i) (nx1 ?_))⟩
      rw [hTi, z]; rfl
    · rw [z, if_pos rfl] at tl
      refine br_f (by rw [tl]; decide) ⟨vr, ?_⟩
      cases w : bt (tr (r i)) ch
      · rw [w, if_neg (by decide)] at tr'
        refine br_t tr' ⟨vi, nm_e (nm_r (nI_1 i) (nx0 ?_))⟩
        rw [hTi, z, w]; rfl
      · rw [w, if_pos rfl] at tr'
        refine br_f (by rw [tr']; decide) ⟨vi, nm_e (nm_r (nI_1 i) (nx1 ?_))⟩
        rw [hTi, z, w]; rfl
theorem cy_29 {post : Int32 → SY → Prop} {J : Int32 → Int32 → Int32 → (Nat → Int32) → (Nat → Int32) → (Nat → Int32) → (Nat → Int32) → (Nat → Int32) → Prop} {x : Int32} {c ch : Nat} (hn : n < 12) (hc : c < n)
    (ht : ∀ j, j < n → ty j = if bt (tr j) ch = true then 1 else 0) (kJ : cd_ok n x tr c ch → J (nI (ch + 1)) (nI n) kn sh lf ri fo ty) (k0 : ¬ cd_ok n x tr c ch → post 0 (nI n, kn, sh, lf, ri, fo, ty)) :
    ∀ d i, i + d = n → wY_classically_29 post J x (nI c) (nI ch) (nI n) kn sh lf ri fo ty (d + 1) (if cd_al x (fun f => bt (tr f) ch) i = true then 1 else 0) (nI i) := by
  have cc : (nI c).toNatClampNeg = c := nI_clamp (by omega)
  have vc : vp_in (nI c) 11 := vp_in_nI (by omega) (by omega)
  intro d
  induction d with
  | zero =>
    intro i hi
    have e : i = n := by omega
    subst e
    refine br_t (Int32.le_refl _) ?_
    by_cases z : cd_al x (fun f => bt (tr f) ch) i = true
    · rw [if_pos z]
      refine br_f (by decide) ⟨vc, ?_⟩
      rw [cc, ht c hc]
      by_cases w : bt (tr c) ch = true
      · rw [if_pos w]
        exact br_f (by decide) (nm_r (nI_1 ch) (kJ (fun _ => w)))
      · rw [if_neg w]
        exact br_t rfl (k0 (fun y => w (y z)))
    · rw [if_neg z]
      exact br_t rfl (nm_r (nI_1 ch) (kJ (fun y => absurd y z)))
  | succ d ih =>
    intro i hi
    have hle : ¬ nI n ≤ nI i := nI_ge (by omega) (by omega)
    have ci : (nI i).toNatClampNeg = i := nI_clamp (by omega)
    have vi : vp_in (nI i) 11 := vp_in_nI (by omega) (by omega)
    have h := ih (i + 1) (by omega)
    rw [cd_alS] at h
    by_cases z : cd_al x (fun f => bt (tr f) ch) i = true
    · rw [z, Bool.true_and] at h
      rw [if_pos z]
      refine br_f hle (br_f (by decide) (cy_has (by omega) (fun w => br_f (by decide) ⟨vi, ?_⟩) (fun w => br_t rfl (nm_r (nI_1 i) ?_))))
      · rw [ci, ht i (by omega)]
        by_cases y : bt (tr i) ch = true
        · rw [w, y, if_pos (by decide)] at h
          rw [if_pos y]
          exact br_f (by decide) (nm_r (nI_1 i) h)
        · have y' : bt (tr i) ch = false := by cases e : bt (tr i) ch with
            | false => rfl
            | true => exact absurd e y
          rw [w, y', if_neg (by decide)] at h
          rw [if_neg y]
          exact br_t rfl (nm_r (nI_1 i) h)
      · rw [w, Bool.not_false, Bool.true_or, if_pos rfl] at h
        exact h
    · have z' : cd_al x (fun f => bt (tr f) ch) i = false := by cases e : cd_al x (fun f => bt (tr f) ch) i with
        | false => rfl
        | true => exact absurd e z
      rw [z', Bool.false_and, if_neg (by decide)] at h
      rw [if_neg z]
      exact br_f hle (br_t rfl (nm_r (nI_1 i) h))
theorem cy_12 {post : Int32 → SY → Prop} {x b : Int32} {c : Nat} (H : cd_Ly n s l r sh lf ri) (hT : cd_T n s l r tr) (hc : c < n) (h1 : (∀ ch, ch < 16 → cd_ok n x tr c ch) → b = 1) (h0 : ∀ ch, ch < 16 → ¬ cd_ok n x tr c ch → b = 0)
    (k : ∀ t2 : Nat → Int32, post b (nI n, kn, sh, lf, ri, fo, t2)) :
    ∀ d ch (ty : Nat → Int32), ch + d = 16 → (∀ i, i < ch → cd_ok n x tr c i) → wY_classically_12 post x (nI c) (d + 1) (nI ch) (nI n) kn sh lf ri fo ty := by
  have hn := H.1
  intro d
  induction d with
  | zero =>
    intro ch ty hd hok
    have e : ch = 16 := by omega
    subst e
    refine br_t (Int32.le_refl _) ?_
    have hb := h1 hok
    have hk := k ty
    rw [hb] at hk
    exact hk
  | succ d ih =>
    intro ch ty hd hok
    refine br_f (nI_ge (b := 16) (by omega) (by decide)) ⟨n + 1, cy_judge (ch := ch) H hT (by omega) (fun t2 ht => ?_) n 0 ty (by omega) (fun j hj => absurd hj (Nat.not_lt_zero _))⟩
    refine ⟨n + 1, cy_29 (x := x) (tr := tr) hn hc ht (fun z => ?_) (fun z => ?_) n 0 (by omega)⟩
    · refine ih (ch + 1) t2 (by omega) (fun i hi => ?_)
      by_cases e : i = ch
      · subst e; exact z
      · exact hok i (by omega)
    · have hk := k t2
      rw [h0 ch (by omega) z] at hk
      exact hk
end
theorem i_vc_classically {k : Nat} {u : SX} {v : SY} (I : i_Rel k u v) (hk : k + 4 ≤ 2048) (v1 : Int32) (v2 : Int32) : wpX_classically (fun r => wpY_classically (fun r' v' => r' = r ∧ i_Rel (k + 4) u v') v v1 v2) u v1 v2 := by
  have hR := i_up I
  obtain ⟨n, kn, s, l, r, sh, lf, rt, tr, co, ri, fo, ty, rfl, rfl, h, hK, _⟩ := I
  have hn := h.1.1
  rcases cd_lst v2 hn with q | ⟨c, hc, rfl⟩
  · unfold wpX_classically
    refine cx_is0 q (br_t rfl ?_)
    unfold wpY_classically
    exact cy_is0 q (br_t rfl ⟨rfl, hR⟩)
  unfold wpX_classically
  refine cx_is1 hn hc (br_f (by decide) ⟨n + 1, cx_cla hn hc (fun z => ?_) (fun z => ?_) n 0 65535 (by omega) (fun ch hch => ?_) (fun g hg => ?_)⟩)
  · unfold wpY_classically
    exact cy_is1 hn hc (br_f (by decide) ⟨17, cy_12 (x := v1) (b := 1) (cd_Iy h) h.2.1 hc (fun _ => rfl) (fun ch hch y => absurd (z ch hch) y) (fun t2 => ⟨rfl, cd_rel h hK⟩) 16 0 ty (by omega) (fun i hi => absurd hi (Nat.not_lt_zero _))⟩)
  · unfold wpY_classically
    exact cy_is1 hn hc (br_f (by decide) ⟨17, cy_12 (x := v1) (b := 0) (cd_Iy h) h.2.1 hc (fun y => absurd y z) (fun ch hch y => rfl) (fun t2 => ⟨rfl, cd_rel h hK⟩) 16 0 ty (by omega) (fun i hi => absurd hi (Nat.not_lt_zero _))⟩)
  · rw [b_65535, decide_eq_true hch]; rfl
  · rw [b_65535, decide_eq_false (by omega)]
