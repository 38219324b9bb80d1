/-! rows of kit/rows (PURE-ROWS, BITS), pasted -/
theorem pk_us {f : Nat → Int32} {k : Nat} {x : Int32} : upd f k x k = x := if_pos rfl
theorem pk_un {f : Nat → Int32} {k j : Nat} {x : Int32} (h : j ≠ k) : upd f k x j = f j := if_neg h
theorem pk_m1 (n : Nat) : nI (n + 1) + (-1) = nI n := by
  rw [← nI_1, Int32.add_assoc, show (1 : Int32) + (-1) = 0 from rfl, Int32.add_zero]
theorem pk_ix (x : Int32) {n : Nat} (hn : n < 2 ^ 31) : x < 0 ∨ nI n ≤ x ∨ ∃ j : Nat, j < n ∧ x = nI j := by
  by_cases h : x < 0
  · exact Or.inl h
  · obtain ⟨j, hj, rfl⟩ := nI_of h
    by_cases h2 : j < n
    · exact Or.inr (Or.inr ⟨j, h2, rfl⟩)
    · exact Or.inr (Or.inl (nI_le (by omega) hj))
theorem pk_le {x y : Int32} {A B : Prop} (a b : Nat) (f : a ≤ b → A) (g : b < a → B) (hx : x = nI a := by rfl) (hy : y = nI b := by rfl) (ha : a < 2 ^ 31 := by omega) (hb : b < 2 ^ 31 := by omega) : (x ≤ y → A) ∧ (¬ x ≤ y → B) := by
  subst hx hy
  rw [nI_leI ha hb]
  exact ⟨f, fun z => g (by omega)⟩
theorem pk_lt {x y : Int32} {A B : Prop} (a b : Nat) (f : a < b → A) (g : b ≤ a → B) (hx : x = nI a := by rfl) (hy : y = nI b := by rfl) (ha : a < 2 ^ 31 := by omega) (hb : b < 2 ^ 31 := by omega) : (x < y → A) ∧ (¬ x < y → B) := by
  subst hx hy
  rw [nI_ltI ha hb]
  exact ⟨f, fun z => g (by omega)⟩
theorem pk_eq {x y : Int32} {A B : Prop} (a b : Nat) (f : a = b → A) (g : a ≠ b → B) (hx : x = nI a := by rfl) (hy : y = nI b := by rfl) (ha : a < 2 ^ 31 := by omega) (hb : b < 2 ^ 31 := by omega) : (x = y → A) ∧ (¬ x = y → B) := by
  subst hx hy
  rw [nI_eq ha hb]
  exact ⟨f, g⟩
theorem pk_in {x : Int32} (n N : Nat) (h : n < N) (hx : x = nI n := by rfl) (hN : N < 2 ^ 31 := by omega) : vp_in x N := by
  subst hx
  exact vp_in_nI h hN
theorem pk_cl {x : Int32} (n : Nat) (hx : x = nI n := by rfl) (h : n < 2 ^ 31 := by omega) : x.toNatClampNeg = n := by
  subst hx
  exact nI_clamp h
theorem pk_tn {n : Nat} (h : n < 2 ^ 32) : (nI n).toBitVec.toNat = n := Nat.mod_eq_of_lt h
theorem pk_and (x : Int32) {m : Int32} (k : Nat) (hm : m.toBitVec.toNat = 2 ^ k - 1) : x &&& m = nI (x.toBitVec.toNat % 2 ^ k) := by
  apply Int32.toBitVec_inj.mp
  apply BitVec.eq_of_toNat_eq
  rw [Int32.toBitVec_and, BitVec.toNat_and, hm, Nat.and_two_pow_sub_one_eq_mod]
  show _ = (BitVec.ofNat 32 _).toNat
  rw [BitVec.toNat_ofNat]
  exact (Nat.mod_eq_of_lt (Nat.lt_of_le_of_lt (Nat.mod_le _ _) x.toBitVec.isLt)).symm
theorem pk_loop {σ : Type} (W : Nat → Nat → σ → Prop) (I : Nat → σ → Prop) (e i0 : Nat) (s : σ) (hi : i0 ≤ e) (h0 : I i0 s) (hx : ∀ n s, I e s → W (n + 1) e s)
    (hs : ∀ n i s, i < e → I i s → (∀ s', I (i + 1) s' → W n (i + 1) s') → W (n + 1) i s) : ∃ n, W n i0 s :=
  ⟨e + 1, loop_i W I e hx hs (e + 1) i0 s hi (by omega) h0⟩
theorem pk_loopD {σ : Type} (W : Nat → Nat → σ → Prop) (I : Nat → σ → Prop) (hx : ∀ n s, I 0 s → W (n + 1) 0 s)
    (hs : ∀ n i s, I (i + 1) s → (∀ s', I i s' → W n i s') → W (n + 1) (i + 1) s) : ∀ (e : Nat) (s : σ), I e s → W (e + 1) e s := by
  intro e
  induction e with
  | zero => exact fun s h => hx 0 s h
  | succ e ih => exact fun s h => hs (e + 1) e s h (fun s' h' => ih s' h')
theorem ek_if {c d A B : Prop} (e : c ↔ d) (f : d → A) (g : ¬ d → B) : (c → A) ∧ (¬ c → B) :=
  ⟨fun z => f (e.mp z), fun z => g (fun y => z (e.mpr y))⟩
theorem ek_v {α : Sort _} {P : α → Prop} {a b : α} (e : a = b) (h : P b) : P a := e ▸ h
def bt (x : Int32) (i : Nat) : Bool := x.toBitVec.getLsbD i
theorem b_ext {x y : Int32} (h : ∀ i, i < 32 → bt x i = bt y i) : x = y := Int32.toBitVec_inj.mp (BitVec.eq_of_getLsbD_eq (fun i hi => h i hi))
theorem b_or (x y : Int32) (i : Nat) : bt (x ||| y) i = (bt x i || bt y i) := by unfold bt; rw [Int32.toBitVec_or, BitVec.getLsbD_or]
theorem b_and (x y : Int32) (i : Nat) : bt (x &&& y) i = (bt x i && bt y i) := by unfold bt; rw [Int32.toBitVec_and, BitVec.getLsbD_and]
theorem b_xor (x y : Int32) (i : Nat) : bt (x ^^^ y) i = (bt x i ^^ bt y i) := by unfold bt; rw [Int32.toBitVec_xor, BitVec.getLsbD_xor]
theorem b_big {x : Int32} {i : Nat} (h : 32 ≤ i) : bt x i = false := BitVec.getLsbD_of_ge _ _ h
theorem b_65535 (i : Nat) : bt 65535 i = decide (i < 16) := by
  rcases Nat.lt_or_ge i 32 with h | h
  · exact (by decide +kernel : ∀ i, i < 32 → bt 65535 i = decide (i < 16)) i h
  · rw [b_big h, decide_eq_false (by omega)]
theorem b_m1 : ∀ i, i < 32 → bt (-1) i = true := by decide +kernel
theorem b_0 (i : Nat) : bt 0 i = false := BitVec.getLsbD_zero
theorem s_l : ∀ n, n < 32 → ((nI n &&& 31).toBitVec.smod 32).toNat = n := by decide +kernel
theorem b_shl (n : Nat) (hn : n < 32) (x : Int32) {i : Nat} (hi : i < 32) : bt (x <<< (nI n &&& 31)) i = (decide (n ≤ i) && bt x (i - n)) := by
  unfold bt
  rw [Int32.toBitVec_shiftLeft]
  show (x.toBitVec <<< ((nI n &&& 31).toBitVec.smod 32).toNat).getLsbD i = _
  rw [s_l n hn, BitVec.getLsbD_shiftLeft]
  rcases Nat.lt_or_ge i n with h | h
  · simp [h, Nat.not_le.mpr h]
  · simp [hi, h, Nat.not_lt.mpr h]
theorem b_sshr (n : Nat) (hn : n < 32) (x : Int32) {i : Nat} (hi : i < 32) : bt (x >>> (nI n &&& 31)) i = if n + i < 32 then bt x (n + i) else bt x 31 := by
  unfold bt
  rw [Int32.toBitVec_shiftRight]
  show (x.toBitVec.sshiftRight ((nI n &&& 31).toBitVec.smod 32).toNat).getLsbD i = _
  rw [s_l n hn, BitVec.getLsbD_sshiftRight, BitVec.msb_eq_getLsbD_last]
  simp [hi]
theorem nf_sh : ∀ l, l < 32 → ((1 : Int32) <<< (nI l &&& 31)).toBitVec = BitVec.twoPow 32 l := by decide +kernel
/-! bits of this claim -/
def cd_b (a : Nat) : Int32 := (1 : Int32) <<< (nI a &&& 31)
theorem cd_btN {m g : Nat} (hg : g < 32) : bt (nI m) g = m.testBit g := by
  unfold bt
  show (BitVec.ofNat 32 m).getLsbD g = _
  rw [BitVec.getLsbD_ofNat, decide_eq_true hg, Bool.true_and]
theorem cd_btM {m : Nat} (hm : m < 2 ^ 32) (g : Nat) : bt (nI m) g = m.testBit g := by
  rcases Nat.lt_or_ge g 32 with h | h
  · exact cd_btN h
  · rw [b_big h, Nat.testBit_lt_two_pow (Nat.lt_of_lt_of_le hm (Nat.pow_le_pow_right (by decide) h))]
theorem cd_bt1 {f : Nat} (hf : f < 32) (g : Nat) : bt (cd_b f) g = decide (g = f) := by
  unfold bt cd_b
  rw [nf_sh f hf, BitVec.getLsbD_twoPow, decide_eq_true hf, Bool.true_and]
  by_cases e : f = g
  · rw [decide_eq_true e, decide_eq_true e.symm]
  · rw [decide_eq_false e, decide_eq_false (fun z => e z.symm)]
theorem cd_has {K : Int32} {f : Nat} (hf : f < 32) : (K &&& cd_b f) = 0 ↔ bt K f = false := by
  constructor
  · intro h
    have e : bt (K &&& cd_b f) f = bt 0 f := by rw [h]
    rw [b_and, cd_bt1 hf, b_0, decide_eq_true rfl, Bool.and_true] at e
    exact e
  · intro h
    apply b_ext
    intro i hi
    rw [b_and, cd_bt1 hf, b_0]
    by_cases e : i = f
    · rw [e, h, Bool.false_and]
    · rw [decide_eq_false e, Bool.and_false]
theorem cd_hasT {K : Int32} {f : Nat} (hf : f < 32) : ¬ (K &&& cd_b f) = 0 ↔ bt K f = true := by
  rw [cd_has hf]
  cases bt K f <;> decide
theorem cd_one : ∀ g, g < 32 → bt 1 g = decide (g = 0) := by decide +kernel
theorem cd_sr {K : Int32} {i : Nat} (hi : i < 32) : (K >>> (nI i &&& 31)) &&& 1 = if bt K i = true then 1 else 0 := by
  apply b_ext
  intro g hg
  rw [b_and, cd_one g hg]
  by_cases e : g = 0
  · subst e
    rw [b_sshr i hi K (by decide : 0 < 32), Nat.add_zero, if_pos hi, decide_eq_true rfl, Bool.and_true]
    cases h : bt K i
    · rw [if_neg (by decide), b_0]
    · rw [if_pos rfl]; exact (cd_one 0 (by decide)).symm
  · rw [decide_eq_false e, Bool.and_false]
    cases h : bt K i
    · rw [if_neg (by decide), b_0]
    · rw [if_pos rfl, cd_one g hg, decide_eq_false e]
theorem cd_srT {K : Int32} {i : Nat} (hi : i < 32) : (K >>> (nI i &&& 31)) &&& 1 = 1 ↔ bt K i = true := by
  rw [cd_sr hi]
  cases bt K i <;> decide
theorem cd_orN {m a : Nat} (ha : a < 31) : nI m ||| cd_b a = nI (m ||| 2 ^ a) := by
  apply b_ext
  intro i hi
  rw [b_or, cd_btN hi, cd_btN hi, cd_bt1 (by omega), Nat.testBit_or, Nat.testBit_two_pow]
  by_cases e : i = a
  · rw [decide_eq_true e, decide_eq_true e.symm]
  · rw [decide_eq_false e, decide_eq_false (fun z => e z.symm)]
theorem cd_bN : ∀ n, n < 12 → cd_b n = nI (2 ^ n) := by decide +kernel
theorem cd_fullN : ∀ n, n < 12 → cd_b n - 1 = nI (2 ^ n - 1) := by decide +kernel
theorem cd_btF {n : Nat} (hn : n < 12) (g : Nat) : bt (nI (2 ^ n - 1)) g = decide (g < n) := by
  have h : 2 ^ n ≤ 2 ^ 11 := Nat.pow_le_pow_right (by decide) (by omega)
  rw [cd_btM (by omega), Nat.testBit_two_pow_sub_one]
theorem cd_p2 {n : Nat} (hn : n < 12) : 2 ^ n ≤ 2048 := by
  have h : 2 ^ n ≤ 2 ^ 11 := Nat.pow_le_pow_right (by decide) (by omega)
  exact h
theorem cd_p2k {n k : Nat} (h : k < n) : 2 ^ k < 2 ^ n := Nat.pow_lt_pow_right (by decide) h
theorem cd_orlt {n m a : Nat} (hm : m < 2 ^ n) (ha : a < n) : m ||| 2 ^ a < 2 ^ n := Nat.or_lt_two_pow hm (cd_p2k ha)
theorem cd_oreq {m a : Nat} (h : m.testBit a = true) : m ||| 2 ^ a = m := by
  apply Nat.eq_of_testBit_eq
  intro i
  rw [Nat.testBit_or, Nat.testBit_two_pow]
  by_cases e : a = i
  · subst e; rw [h, Bool.true_or]
  · rw [decide_eq_false e, Bool.or_false]
theorem cd_orgt {m a : Nat} (h : m.testBit a = false) : m < m ||| 2 ^ a := by
  refine Nat.lt_of_le_of_ne Nat.left_le_or (fun e => ?_)
  have t : m.testBit a = (m ||| 2 ^ a).testBit a := by rw [← e]
  rw [Nat.testBit_or, Nat.testBit_two_pow_self, Bool.or_true, h] at t
  exact Bool.noConfusion t
theorem cd_mlt {n m g : Nat} (hm : m < 2 ^ n) (h : m.testBit g = true) : g < n := by
  rcases Nat.lt_or_ge g n with z | z
  · exact z
  · rw [Nat.testBit_lt_two_pow (Nat.lt_of_lt_of_le hm (Nat.pow_le_pow_right (by decide) z))] at h
    exact Bool.noConfusion h
theorem cd_part (x : Int32) {n : Nat} (hn : n < 12) : ∃ m, m < 2 ^ n ∧ x &&& nI (2 ^ n - 1) = nI m := by
  have h := cd_p2 hn
  exact ⟨_, Nat.mod_lt _ (Nat.two_pow_pos n), pk_and x n (pk_tn (by omega))⟩
/-! counting bits -/
def cd_cn (K : Int32) : Nat → Nat
  | 0 => 0
  | n + 1 => cd_cn K n + (if bt K n = true then 1 else 0)
theorem cd_cnS (K : Int32) (n : Nat) : cd_cn K (n + 1) = cd_cn K n + (if bt K n = true then 1 else 0) := rfl
theorem cd_cnle (K : Int32) (n : Nat) : cd_cn K n ≤ n := by
  induction n with
  | zero => exact Nat.le_refl 0
  | succ n ih => rw [cd_cnS]; split <;> omega
theorem cd_cnmono {K L : Int32} (h : ∀ g, bt K g = true → bt L g = true) (n : Nat) : cd_cn K n ≤ cd_cn L n := by
  induction n with
  | zero => exact Nat.le_refl 0
  | succ n ih =>
    rw [cd_cnS, cd_cnS]
    by_cases z : bt K n = true
    · rw [if_pos z, if_pos (h n z)]; omega
    · rw [if_neg z]; omega
theorem cd_cnlt {K L : Int32} (h : ∀ g, bt K g = true → bt L g = true) {f : Nat} (h1 : bt K f = false) (h2 : bt L f = true) : ∀ n, f < n → cd_cn K n < cd_cn L n := by
  intro n
  induction n with
  | zero => intro z; exact absurd z (Nat.not_lt_zero _)
  | succ n ih =>
    intro hf
    rw [cd_cnS, cd_cnS]
    by_cases e : f = n
    · subst e
      have := cd_cnmono h f
      rw [if_neg (by rw [h1]; decide), if_pos h2]; omega
    · have := ih (by omega)
      by_cases z : bt K n = true
      · rw [if_pos z, if_pos (h n z)]; omega
      · rw [if_neg z]; omega
theorem cd_ne {K L : Int32} (h : ∀ g, bt K g = true → bt L g = true) (hne : ¬ L = K) : ∃ f, f < 32 ∧ bt K f = false ∧ bt L f = true := by
  apply Classical.byContradiction
  intro hn
  apply hne
  apply b_ext
  intro i hi
  cases e : bt K i
  · cases e2 : bt L i
    · rfl
    · exact absurd ⟨i, hi, e, e2⟩ hn
  · exact h i e
theorem cd_sub {K L : Int32} (h : ∀ g, bt K g = true → bt L g = true) (h2 : ∀ g, bt L g = true → bt K g = true) : K = L := by
  apply b_ext
  intro i _
  cases e : bt K i
  · cases e2 : bt L i
    · rfl
    · rw [h2 i e2] at e; exact Bool.noConfusion e
  · exact (h i e).symm
theorem cd_cnz {K : Int32} {n : Nat} (h : ∀ g, bt K g = true → g < n) : ∀ d, cd_cn K (n + d) = cd_cn K n := by
  intro d
  induction d with
  | zero => rfl
  | succ d ih =>
    rw [← Nat.add_assoc, cd_cnS, ih, if_neg (fun z => absurd (h _ z) (by omega))]
    rfl
