/-! truth for the sixteen choices -/
def cd_tv (s l r : Nat → Nat) (b : Nat → Bool) (c f : Nat) : Bool :=
  if s f = 0 then b (l f) && b (r f)
  else if s f = 1 then b (l f) || b (r f)
  else if s f = 2 then !(b (l f)) || b (r f)
  else if s f = 3 then c.testBit (l f)
  else false
theorem cd_tvc {s l r s' l' r' : Nat → Nat} {b b' : Nat → Bool} {c f : Nat} (hs : s' f = s f) (hl : l' f = l f) (hr : s f < 3 → r' f = r f) (h : s f < 3 → b' (l f) = b (l f) ∧ b' (r f) = b (r f)) : cd_tv s' l' r' b' c f = cd_tv s l r b c f := by
  unfold cd_tv
  rw [hs, hl]
  by_cases e0 : s f = 0
  · have z : s f < 3 := by omega
    rw [if_pos e0, if_pos e0, hr z, (h z).1, (h z).2]
  rw [if_neg e0, if_neg e0]
  by_cases e1 : s f = 1
  · have z : s f < 3 := by omega
    rw [if_pos e1, if_pos e1, hr z, (h z).1, (h z).2]
  rw [if_neg e1, if_neg e1]
  by_cases e2 : s f = 2
  · have z : s f < 3 := by omega
    rw [if_pos e2, if_pos e2, hr z, (h z).1, (h z).2]
  rw [if_neg e2, if_neg e2]
def cd_T (n : Nat) (s l r : Nat → Nat) (t : Nat → Int32) : Prop := ∀ f, f < n → ∀ c, c < 16 → bt (t f) c = cd_tv s l r (fun j => bt (t j) c) c f
def cd_u (s : Nat → Nat) (k v : Nat) : Nat → Nat := fun j => if j = k then v else s j
theorem cd_us {s : Nat → Nat} {k v : Nat} : cd_u s k v k = v := if_pos rfl
theorem cd_un {s : Nat → Nat} {k v j : Nat} (h : j ≠ k) : cd_u s k v j = s j := if_neg h
theorem cd_uI {a : Nat → Int32} {s : Nat → Nat} (h : ∀ j, a j = nI (s j)) (k v : Nat) : ∀ j, upd a k (nI v) j = nI (cd_u s k v j) := by
  intro j
  by_cases e : j = k
  · subst e; rw [pk_us, cd_us]
  · rw [pk_un e, cd_un e]; exact h j
theorem cd_Tapp {n : Nat} {s l r : Nat → Nat} {t : Nat → Int32} {x y z : Nat} {v : Int32} (wf : cd_wf n s l r) (h : cd_T n s l r t) (hx : x < 3 → y < n ∧ z < n)
    (hv : ∀ c, c < 16 → bt v c = cd_tv (cd_u s n x) (cd_u l n y) (cd_u r n z) (fun j => bt (t j) c) c n) : cd_T (n + 1) (cd_u s n x) (cd_u l n y) (cd_u r n z) (upd t n v) := by
  intro f hf c hc
  by_cases e : f = n
  · subst e
    rw [pk_us, hv c hc]
    refine (cd_tvc rfl rfl (fun _ => rfl) (fun w => ?_)).symm
    rw [cd_us] at w
    rw [cd_us, cd_us, pk_un (by have := (hx w).1; omega), pk_un (by have := (hx w).2; omega)]
    exact ⟨rfl, rfl⟩
  · have hf' : f < n := by omega
    rw [pk_un e, h f hf' c hc]
    refine (cd_tvc (cd_un e) (cd_un e) (fun _ => cd_un e) (fun w => ?_)).symm
    have ⟨p, q⟩ := wf f hf' w
    rw [pk_un (by omega), pk_un (by omega)]
    exact ⟨rfl, rfl⟩
theorem cd_wfapp {n : Nat} {s l r : Nat → Nat} {x y z : Nat} (wf : cd_wf n s l r) (hx : x < 3 → y < n ∧ z < n) : cd_wf (n + 1) (cd_u s n x) (cd_u l n y) (cd_u r n z) := by
  intro f hf w
  by_cases e : f = n
  · subst e
    rw [cd_us] at w
    rw [cd_us, cd_us]
    exact hx w
  · rw [cd_un e] at w
    rw [cd_un e, cd_un e]
    exact wf f (by omega) w
def cd_al (x : Int32) (b : Nat → Bool) : Nat → Bool
  | 0 => true
  | n + 1 => cd_al x b n && (!(bt x n) || b n)
theorem cd_alS (x : Int32) (b : Nat → Bool) (n : Nat) : cd_al x b (n + 1) = (cd_al x b n && (!(bt x n) || b n)) := rfl
theorem cd_alc (x : Int32) {b b' : Nat → Bool} (n : Nat) (h : ∀ j, j < n → b j = b' j) : cd_al x b n = cd_al x b' n := by
  induction n with
  | zero => rfl
  | succ n ih => rw [cd_alS, cd_alS, ih (fun j hj => h j (by omega)), h n (by omega)]
theorem cd_m0 : ∀ c, c < 16 → bt 43690 c = c.testBit 0 := by decide +kernel
theorem cd_m1 : ∀ c, c < 16 → bt 52428 c = c.testBit 1 := by decide +kernel
theorem cd_m2 : ∀ c, c < 16 → bt 61680 c = c.testBit 2 := by decide +kernel
theorem cd_m3 : ∀ c, c < 16 → bt 65280 c = c.testBit 3 := by decide +kernel
theorem cd_not (x : Int32) {c : Nat} (hc : c < 32) : bt (x ^^^ (-1)) c = !(bt x c) := by
  rw [b_xor, b_m1 c hc, Bool.xor_true]
theorem cd_imp (x y : Int32) {c : Nat} (hc : c < 16) : bt ((65535 &&& (x ^^^ (-1))) ||| y) c = (!(bt x c) || bt y c) := by
  rw [b_or, b_and, b_65535, decide_eq_true hc, Bool.true_and, cd_not x (by omega)]
theorem cd_cla {K v : Int32} (hK : ∀ c, 16 ≤ c → bt K c = false) : (K &&& (v ^^^ (-1))) = 0 ↔ ∀ c, c < 16 → bt K c = true → bt v c = true := by
  constructor
  · intro h c hc z
    have e : bt (K &&& (v ^^^ (-1))) c = false := by rw [h, b_0]
    rw [b_and, cd_not v (by omega), z, Bool.true_and] at e
    cases w : bt v c
    · rw [w] at e; exact Bool.noConfusion e
    · rfl
  · intro h
    apply b_ext
    intro i hi
    rw [b_and, cd_not v hi, b_0]
    cases w : bt K i
    · rfl
    · rcases Nat.lt_or_ge i 16 with z | z
      · rw [h i z w]; rfl
      · rw [hK i z] at w; exact Bool.noConfusion w
