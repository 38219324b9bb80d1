section
/-! rows of kit/rows (PURE-ROWS, BITS), pasted -/
theorem pk_us {f : Nat → Int32} {k : Nat} {x : Int32} : upd f k x k = x := if_pos rfl
theorem pk_un {f : Nat → Int32} {k j : Nat} {x : Int32} (h : j ≠ k) : upd f k x j = f j := if_neg h
theorem pk_m1 (n : Nat) : nI (n + 1) + (-1) = nI n := by
  rw [← nI_1, Int32.add_assoc, show (1 : Int32) + (-1) = 0 from rfl, Int32.add_zero]
theorem pk_ix (x : Int32) {n : Nat} (hn : n < 2 ^ 31) : x < 0 ∨ nI n ≤ x ∨ ∃ j : Nat, j < n ∧ x = nI j := by
  by_cases h : x < 0
  · exact Or.inl h
  · obtain ⟨j, hj, rfl⟩ := nI_of h
    by_cases h2 : j < n
    · exact Or.inr (Or.inr ⟨j, h2, rfl⟩)
    · exact Or.inr (Or.inl (nI_le (by omega) hj))
theorem pk_le {x y : Int32} {A B : Prop} (a b : Nat) (f : a ≤ b → A) (g : b < a → B) (hx : x = nI a := by rfl) (hy : y = nI b := by rfl) (ha : a < 2 ^ 31 := by omega) (hb : b < 2 ^ 31 := by omega) : (x ≤ y → A) ∧ (¬ x ≤ y → B) := by
  subst hx hy
  rw [nI_leI ha hb]
  exact ⟨f, fun z => g (by omega)⟩
theorem pk_lt {x y : Int32} {A B : Prop} (a b : Nat) (f : a < b → A) (g : b ≤ a → B) (hx : x = nI a := by rfl) (hy : y = nI b := by rfl) (ha : a < 2 ^ 31 := by omega) (hb : b < 2 ^ 31 := by omega) : (x < y → A) ∧ (¬ x < y → B) := by
  subst hx hy
  rw [nI_ltI ha hb]
  exact ⟨f, fun z => g (by omega)⟩
theorem pk_eq {x y : Int32} {A B : Prop} (a b : Nat) (f : a = b → A) (g : a ≠ b → B) (hx : x = nI a := by rfl) (hy : y = nI b := by rfl) (ha : a < 2 ^ 31 := by omega) (hb : b < 2 ^ 31 := by omega) : (x = y → A) ∧ (¬ x = y → B) := by
  subst hx hy
  rw [nI_eq ha hb]
  exact ⟨f, g⟩
theorem pk_in {x : Int32} (n N : Nat) (h : n < N) (hx : x = nI n := by rfl) (hN : N < 2 ^ 31 := by omega) : vp_in x N := by
  subst hx
  exact vp_in_nI h hN
theorem pk_cl {x : Int32} (n : Nat) (hx : x = nI n := by rfl) (h : n < 2 ^ 31 := by omega) : x.toNatClampNeg = n := by
  subst hx
  exact nI_clamp h
theorem pk_tn {n : Nat} (h : n < 2 ^ 32) : (nI n).toBitVec.toNat = n := Nat.mod_eq_of_lt h
theorem pk_and (x : Int32) {m : Int32} (k : Nat) (hm : m.toBitVec.toNat = 2 ^ k - 1) : x &&& m = nI (x.toBitVec.toNat % 2 ^ k) := by
  apply Int32.toBitVec_inj.mp
  apply BitVec.eq_of_toNat_eq
  rw [Int32.toBitVec_and, BitVec.toNat_and, hm, Nat.and_two_pow_sub_one_eq_mod]
  show _ = (BitVec.ofNat 32 _).toNat
  rw [BitVec.toNat_ofNat]
  exact (Nat.mod_eq_of_lt (Nat.lt_of_le_of_lt (Nat.mod_le _ _) x.toBitVec.isLt)).symm
theorem pk_loop {σ : Type} (W : Nat → Nat → σ → Prop) (I : Nat → σ → Prop) (e i0 : Nat) (s : σ) (hi : i0 ≤ e) (h0 : I i0 s) (hx : ∀ n s, I e s → W (n + 1) e s)
    (hs : ∀ n i s, i < e → I i s → (∀ s', I (i + 1) s' → W n (i + 1) s') → W (n + 1) i s) : ∃ n, W n i0 s :=
  ⟨e + 1, loop_i W I e hx hs (e + 1) i0 s hi (by omega) h0⟩
theorem pk_loopD {σ : Type} (W : Nat → Nat → σ → Prop) (I : Nat → σ → Prop) (hx : ∀ n s, I 0 s → W (n + 1) 0 s)
    (hs : ∀ n i s, I (i + 1) s → (∀ s', I i s' → W n i s') → W (n + 1) (i + 1) s) : ∀ (e : Nat) (s : σ), I e s → W (e + 1) e s := by
  intro e
  induction e with
  | zero => exact fun s h => hx 0 s h
  | succ e ih => exact fun s h => hs (e + 1) e s h (fun s' h' => ih s' h')
theorem ek_if {c d A B : Prop} (e : c ↔ d) (f : d → A) (g : ¬ d → B) : (c → A) ∧ (¬ c → B) :=
  ⟨fun z => f (e.mp z), fun z => g (fun y => z (e.mpr y))⟩
theorem ek_v {α : Sort _} {P : α → Prop} {a b : α} (e : a = b) (h : P b) : P a := e ▸ h
def bt (x : Int32) (i : Nat) : Bool := x.toBitVec.getLsbD i
theorem b_ext {x y : Int32} (h : ∀ i, i < 32 → bt x i = bt y i) : x = y := Int32.toBitVec_inj.mp (BitVec.eq_of_getLsbD_eq (fun i hi => h i hi))
theorem b_or (x y : Int32) (i : Nat) : bt (x ||| y) i = (bt x i || bt y i) := by unfold bt; rw [Int32.toBitVec_or, BitVec.getLsbD_or]
theorem b_and (x y : Int32) (i : Nat) : bt (x &&& y) i = (bt x i && bt y i) := by unfold bt; rw [Int32.toBitVec_and, BitVec.getLsbD_and]
theorem b_xor (x y : Int32) (i : Nat) : bt (x ^^^ y) i = (bt x i ^^ bt y i) := by unfold bt; rw [Int32.toBitVec_xor, BitVec.getLsbD_xor]
theorem b_big {x : Int32} {i : Nat} (h : 32 ≤ i) : bt x i = false := BitVec.getLsbD_of_ge _ _ h
theorem b_65535 (i : Nat) : bt 65535 i = decide (i < 16) := by
  rcases Nat.lt_or_ge i 32 with h | h
  · exact (by decide +kernel : ∀ i, i < 32 → bt 65535 i = decide (i < 16)) i h
  · rw [b_big h, decide_eq_false (by omega)]
theorem b_m1 : ∀ i, i < 32 → bt (-1) i = true := by decide +kernel
theorem b_0 (i : Nat) : bt 0 i = false := BitVec.getLsbD_zero
theorem s_l : ∀ n, n < 32 → ((nI n &&& 31).toBitVec.smod 32).toNat = n := by decide +kernel
theorem b_shl (n : Nat) (hn : n < 32) (x : Int32) {i : Nat} (hi : i < 32) : bt (x <<< (nI n &&& 31)) i = (decide (n ≤ i) && bt x (i - n)) := by
  unfold bt
  rw [Int32.toBitVec_shiftLeft]
  show (x.toBitVec <<< ((nI n &&& 31).toBitVec.smod 32).toNat).getLsbD i = _
  rw [s_l n hn, BitVec.getLsbD_shiftLeft]
  rcases Nat.lt_or_ge i n with h | h
  · simp [h, Nat.not_le.mpr h]
  · simp [hi, h, Nat.not_lt.mpr h]
theorem b_sshr (n : Nat) (hn : n < 32) (x : Int32) {i : Nat} (hi : i < 32) : bt (x >>> (nI n &&& 31)) i = if n + i < 32 then bt x (n + i) else bt x 31 := by
  unfold bt
  rw [Int32.toBitVec_shiftRight]
  show (x.toBitVec.sshiftRight ((nI n &&& 31).toBitVec.smod 32).toNat).getLsbD i = _
  rw [s_l n hn, BitVec.getLsbD_sshiftRight, BitVec.msb_eq_getLsbD_last]
  simp [hi]
theorem nf_sh : ∀ l, l < 32 → ((1 : Int32) <<< (nI l &&& 31)).toBitVec = BitVec.twoPow 32 l := by decide +kernel
/-! bits of this claim -/
def cd_b (a : Nat) : Int32 := (1 : Int32) <<< (nI a &&& 31)
theorem cd_btN {m g : Nat} (hg : g < 32) : bt (nI m) g = m.testBit g := by
  unfold bt
  show (BitVec.ofNat 32 m).getLsbD g = _
  rw [BitVec.getLsbD_ofNat, decide_eq_true hg, Bool.true_and]
theorem cd_btM {m : Nat} (hm : m < 2 ^ 32) (g : Nat) : bt (nI m) g = m.testBit g := by
  rcases Nat.lt_or_ge g 32 with h | h
  · exact cd_btN h
  · rw [b_big h, Nat.testBit_lt_two_pow (Nat.lt_of_lt_of_le hm (Nat.pow_le_pow_right (by decide) h))]
theorem cd_bt1 {f : Nat} (hf : f < 32) (g : Nat) : bt (cd_b f) g = decide (g = f) := by
  unfold bt cd_b
  rw [nf_sh f hf, BitVec.getLsbD_twoPow, decide_eq_true hf, Bool.true_and]
  by_cases e : f = g
  · rw [decide_eq_true e, decide_eq_true e.symm]
  · rw [decide_eq_false e, decide_eq_false (fun z => e z.symm)]
theorem cd_has {K : Int32} {f : Nat} (hf : f < 32) : (K &&& cd_b f) = 0 ↔ bt K f = false := by
  constructor
  · intro h
    have e : bt (K &&& cd_b f) f = bt 0 f := by rw [h]
    rw [b_and, cd_bt1 hf, b_0, decide_eq_true rfl, Bool.and_true] at e
    exact e
  · intro h
    apply b_ext
    intro i hi
    rw [b_and, cd_bt1 hf, b_0]
    by_cases e : i = f
    · rw [e, h, Bool.false_and]
    · rw [decide_eq_false e, Bool.and_false]
theorem cd_hasT {K : Int32} {f : Nat} (hf : f < 32) : ¬ (K &&& cd_b f) = 0 ↔ bt K f = true := by
  rw [cd_has hf]
  cases bt K f <;> decide
theorem cd_one : ∀ g, g < 32 → bt 1 g = decide (g = 0) := by decide +kernel
theorem cd_sr {K : Int32} {i : Nat} (hi : i < 32) : (K >>> (nI i &&& 31)) &&& 1 = if bt K i = true then 1 else 0 := by
  apply b_ext
  intro g hg
  rw [b_and, cd_one g hg]
  by_cases e : g = 0
  · subst e
    rw [b_sshr i hi K (by decide : 0 < 32), Nat.add_zero, if_pos hi, decide_eq_true rfl, Bool.and_true]
    cases h : bt K i
    · rw [if_neg (by decide), b_0]
    · rw [if_pos rfl]; exact (cd_one 0 (by decide)).symm
  · rw [decide_eq_false e, Bool.and_false]
    cases h : bt K i
    · rw [if_neg (by decide), b_0]
    · rw [if_pos rfl, cd_one g hg, decide_eq_false e]
theorem cd_srT {K : Int32} {i : Nat} (hi : i < 32) : (K >>> (nI i &&& 31)) &&& 1 = 1 ↔ bt K i = true := by
  rw [cd_sr hi]
  cases bt K i <;> decide
theorem cd_orN {m a : Nat} (ha : a < 31) : nI m ||| cd_b a = nI (m ||| 2 ^ a) := by
  apply b_ext
  intro i hi
  rw [b_or, cd_btN hi, cd_btN hi, cd_bt1 (by omega), Nat.testBit_or, Nat.testBit_two_pow]
  by_cases e : i = a
  · rw [decide_eq_true e, decide_eq_true e.symm]
  · rw [decide_eq_false e, decide_eq_false (fun z => e z.symm)]
theorem cd_bN : ∀ n, n < 12 → cd_b n = nI (2 ^ n) := by decide +kernel
theorem cd_fullN : ∀ n, n < 12 → cd_b n - 1 = nI (2 ^ n - 1) := by decide +kernel
theorem cd_btF {n : Nat} (hn : n < 12) (g : Nat) : bt (nI (2 ^ n - 1)) g = decide (g < n) := by
  have h : 2 ^ n ≤ 2 ^ 11 := Nat.pow_le_pow_right (by decide) (by omega)
  rw [cd_btM (by omega), Nat.testBit_two_pow_sub_one]
theorem cd_p2 {n : Nat} (hn : n < 12) : 2 ^ n ≤ 2048 := by
  have h : 2 ^ n ≤ 2 ^ 11 := Nat.pow_le_pow_right (by decide) (by omega)
  exact h
theorem cd_p2k {n k : Nat} (h : k < n) : 2 ^ k < 2 ^ n := Nat.pow_lt_pow_right (by decide) h
theorem cd_orlt {n m a : Nat} (hm : m < 2 ^ n) (ha : a < n) : m ||| 2 ^ a < 2 ^ n := Nat.or_lt_two_pow hm (cd_p2k ha)
theorem cd_oreq {m a : Nat} (h : m.testBit a = true) : m ||| 2 ^ a = m := by
  apply Nat.eq_of_testBit_eq
  intro i
  rw [Nat.testBit_or, Nat.testBit_two_pow]
  by_cases e : a = i
  · subst e; rw [h, Bool.true_or]
  · rw [decide_eq_false e, Bool.or_false]
theorem cd_orgt {m a : Nat} (h : m.testBit a = false) : m < m ||| 2 ^ a := by
  refine Nat.lt_of_le_of_ne Nat.left_le_or (fun e => ?_)
  have t : m.testBit a = (m ||| 2 ^ a).testBit a := by rw [← e]
  rw [Nat.testBit_or, Nat.testBit_two_pow_self, Bool.or_true, h] at t
  exact Bool.noConfusion t
theorem cd_mlt {n m g : Nat} (hm : m < 2 ^ n) (h : m.testBit g = true) : g < n := by
  rcases Nat.lt_or_ge g n with z | z
  · exact z
  · rw [Nat.testBit_lt_two_pow (Nat.lt_of_lt_of_le hm (Nat.pow_le_pow_right (by decide) z))] at h
    exact Bool.noConfusion h
theorem cd_part (x : Int32) {n : Nat} (hn : n < 12) : ∃ m, m < 2 ^ n ∧ x &&& nI (2 ^ n - 1) = nI m := by
  have h := cd_p2 hn
  exact ⟨_, Nat.mod_lt _ (Nat.two_pow_pos n), pk_and x n (pk_tn (by omega))⟩
/-! counting bits -/
def cd_cn (K : Int32) : Nat → Nat
  | 0 => 0
  | n + 1 => cd_cn K n + (if bt K n = true then 1 else 0)
theorem cd_cnS (K : Int32) (n : Nat) : cd_cn K (n + 1) = cd_cn K n + (if bt K n = true then 1 else 0) := rfl
theorem cd_cnle (K : Int32) (n : Nat) : cd_cn K n ≤ n := by
  induction n with
  | zero => exact Nat.le_refl 0
  | succ n ih => rw [cd_cnS]; split <;> omega
theorem cd_cnmono {K L : Int32} (h : ∀ g, bt K g = true → bt L g = true) (n : Nat) : cd_cn K n ≤ cd_cn L n := by
  induction n with
  | zero => exact Nat.le_refl 0
  | succ n ih =>
    rw [cd_cnS, cd_cnS]
    by_cases z : bt K n = true
    · rw [if_pos z, if_pos (h n z)]; omega
    · rw [if_neg z]; omega
theorem cd_cnlt {K L : Int32} (h : ∀ g, bt K g = true → bt L g = true) {f : Nat} (h1 : bt K f = false) (h2 : bt L f = true) : ∀ n, f < n → cd_cn K n < cd_cn L n := by
  intro n
  induction n with
  | zero => intro z; exact absurd z (Nat.not_lt_zero _)
  | succ n ih =>
    intro hf
    rw [cd_cnS, cd_cnS]
    by_cases e : f = n
    · subst e
      have := cd_cnmono h f
      rw [if_neg (by rw [h1]; decide), if_pos h2]; omega
    · have := ih (by omega)
      by_cases z : bt K n = true
      · rw [if_pos z, if_pos (h n z)]; omega
      · rw [if_neg z]; omega
theorem cd_ne {K L : Int32} (h : ∀ g, bt K g = true → bt L g = true) (hne : ¬ L = K) : ∃ f, f < 32 ∧ bt K f = false ∧ bt L f = true := by
  apply Classical.byContradiction
  intro hn
  apply hne
  apply b_ext
  intro i hi
  cases e : bt K i
  · cases e2 : bt L i
    · rfl
    · exact absurd ⟨i, hi, e, e2⟩ hn
  · exact h i e
theorem cd_sub {K L : Int32} (h : ∀ g, bt K g = true → bt L g = true) (h2 : ∀ g, bt L g = true → bt K g = true) : K = L := by
  apply b_ext
  intro i _
  cases e : bt K i
  · cases e2 : bt L i
    · rfl
    · rw [h2 i e2] at e; exact Bool.noConfusion e
  · exact (h i e).symm
theorem cd_cnz {K : Int32} {n : Nat} (h : ∀ g, bt K g = true → g < n) : ∀ d, cd_cn K (n + d) = cd_cn K n := by
  intro d
  induction d with
  | zero => rfl
  | succ d ih =>
    rw [← Nat.add_assoc, cd_cnS, ih, if_neg (fun z => absurd (h _ z) (by omega))]
    rfl
end
section
/-! what is closed: the rules at one set m, over a table A of the greater sets -/
def cd_wd (A : Nat → Int32) (m : Nat) (S : Nat → Prop) (a g : Nat) : Prop :=
  (m.testBit a = true ∧ S g) ∨ (m.testBit a = false ∧ bt (A (m ||| 2 ^ a)) g = true)
def cd_cf (n : Nat) (s l r : Nat → Nat) (A : Nat → Int32) (m : Nat) (S : Nat → Prop) (f : Nat) : Prop :=
  (s f = 0 → (S (l f) → S (r f) → S f) ∧ (S f → S (l f)) ∧ (S f → S (r f))) ∧
  (s f = 1 → (S (l f) → S f) ∧ (S (r f) → S f) ∧ (S f → ∀ g, cd_wd A m S (l f) g → cd_wd A m S (r f) g → S g)) ∧
  (s f = 2 → (cd_wd A m S (l f) (r f) → S f) ∧ (S f → S (l f) → S (r f))) ∧
  (s f = 4 → S f → ∀ g, g < n → S g)
def cd_C (n : Nat) (s l r : Nat → Nat) (A : Nat → Int32) (m : Nat) (S : Nat → Prop) : Prop := ∀ f, f < n → cd_cf n s l r A m S f
def cd_G (n : Nat) (s l r : Nat → Nat) (A : Nat → Int32) (m : Nat) : Prop :=
  (∀ g, m.testBit g = true → bt (A m) g = true) ∧ cd_C n s l r A m (fun g => bt (A m) g = true) ∧
  (∀ S : Nat → Prop, (∀ g, m.testBit g = true → S g) → cd_C n s l r A m S → ∀ g, bt (A m) g = true → S g) ∧
  (∀ g, bt (A m) g = true → g < n)
/-- the list: a joined formula's parts stand before it -/
def cd_wf (n : Nat) (s l r : Nat → Nat) : Prop := ∀ f, f < n → s f < 3 → l f < f ∧ r f < f
theorem cd_wdmono {A : Nat → Int32} {m : Nat} {S T : Nat → Prop} (h : ∀ g, S g → T g) {a g : Nat} (w : cd_wd A m S a g) : cd_wd A m T a g :=
  w.elim (fun z => Or.inl ⟨z.1, h g z.2⟩) (fun z => Or.inr z)
theorem cd_wdcong {A B : Nat → Int32} {m : Nat} {S : Nat → Prop} {a g : Nat} (h : m.testBit a = false → A (m ||| 2 ^ a) = B (m ||| 2 ^ a)) : cd_wd A m S a g ↔ cd_wd B m S a g := by
  constructor
  · intro w
    exact w.elim (fun z => Or.inl z) (fun z => Or.inr ⟨z.1, by rw [← h z.1]; exact z.2⟩)
  · intro w
    exact w.elim (fun z => Or.inl z) (fun z => Or.inr ⟨z.1, by rw [h z.1]; exact z.2⟩)
theorem cd_wdA {A B : Nat → Int32} {m : Nat} {K : Int32} (h1 : B m = K) (h2 : ∀ k, k ≠ m → B k = A k) (a g : Nat) : cd_wd A m (fun g => bt K g = true) a g ↔ bt (B (m ||| 2 ^ a)) g = true := by
  unfold cd_wd
  cases e : m.testBit a
  · have := cd_orgt e
    rw [h2 _ (by omega)]
    constructor
    · intro w
      exact w.elim (fun z => Bool.noConfusion z.1) (fun z => z.2)
    · intro w
      exact Or.inr ⟨rfl, w⟩
  · rw [cd_oreq e, h1]
    constructor
    · intro w
      exact w.elim (fun z => z.2) (fun z => Bool.noConfusion z.1)
    · intro w
      exact Or.inl ⟨rfl, w⟩
theorem cd_Ccong {n : Nat} {s l r : Nat → Nat} {A B : Nat → Int32} {m : Nat} {S : Nat → Prop} (wf : cd_wf n s l r) (hm : m < 2 ^ n) (h : ∀ k, m < k → k < 2 ^ n → A k = B k) (c : cd_C n s l r A m S) : cd_C n s l r B m S := by
  intro f hf
  have cf := c f hf
  have hw : ∀ a g, a < n → (cd_wd A m S a g ↔ cd_wd B m S a g) := fun a g ha => cd_wdcong (fun z => h _ (cd_orgt z) (cd_orlt hm ha))
  refine ⟨cf.1, fun e => ?_, fun e => ?_, cf.2.2.2⟩
  · have ⟨p, q⟩ := wf f hf (by omega)
    have c1 := cf.2.1 e
    exact ⟨c1.1, c1.2.1, fun sf g w1 w2 => c1.2.2 sf g ((hw _ g (by omega)).mpr w1) ((hw _ g (by omega)).mpr w2)⟩
  · have ⟨p, q⟩ := wf f hf (by omega)
    have c1 := cf.2.2.1 e
    exact ⟨fun w => c1.1 ((hw _ _ (by omega)).mpr w), c1.2⟩
theorem cd_Gcong {n : Nat} {s l r : Nat → Nat} {A B : Nat → Int32} {m : Nat} (wf : cd_wf n s l r) (hm : m < 2 ^ n) (h : ∀ k, m ≤ k → k < 2 ^ n → A k = B k) (c : cd_G n s l r A m) : cd_G n s l r B m := by
  have e : A m = B m := h m (Nat.le_refl m) hm
  unfold cd_G at c ⊢
  rw [← e]
  refine ⟨c.1, cd_Ccong wf hm (fun k z => h k (by omega)) c.2.1, fun S hS hC => c.2.2.1 S hS ?_, c.2.2.2⟩
  exact cd_Ccong wf hm (fun k z y => (h k (by omega) y).symm) hC
theorem cd_uniq {n : Nat} {s l r : Nat → Nat} {A B : Nat → Int32} (wf : cd_wf n s l r) (hA : ∀ m, m < 2 ^ n → cd_G n s l r A m) (hB : ∀ m, m < 2 ^ n → cd_G n s l r B m) : ∀ d m, m < 2 ^ n → 2 ^ n - m ≤ d → A m = B m := by
  intro d
  induction d with
  | zero => intro m hm hd; omega
  | succ d ih =>
    intro m hm hd
    have hk : ∀ k, m < k → k < 2 ^ n → A k = B k := fun k z y => ih k y (by omega)
    have gA := hA m hm
    have gB := hB m hm
    apply cd_sub
    · exact gA.2.2.1 _ gB.1 (cd_Ccong wf hm (fun k z y => (hk k z y).symm) gB.2.1)
    · exact gB.2.2.1 _ gA.1 (cd_Ccong wf hm hk gA.2.1)
theorem cd_Cfull {n : Nat} {s l r : Nat → Nat} {A : Nat → Int32} {m : Nat} (wf : cd_wf n s l r) (hm : m < 2 ^ n) (h : ∀ k, m < k → k < 2 ^ n → ∀ g, bt (A k) g = true → g < n) : cd_C n s l r A m (fun g => g < n) := by
  intro f hf
  refine ⟨fun e => ?_, fun e => ?_, fun e => ?_, fun e _ g hg => hg⟩
  · have ⟨p, q⟩ := wf f hf (by omega)
    exact ⟨fun _ _ => hf, fun _ => Nat.lt_trans p hf, fun _ => Nat.lt_trans q hf⟩
  · have ⟨p, q⟩ := wf f hf (by omega)
    refine ⟨fun _ => hf, fun _ => hf, fun _ g w _ => ?_⟩
    exact w.elim (fun z => z.2) (fun z => h _ (cd_orgt z.1) (cd_orlt hm (Nat.lt_trans p hf)) g z.2)
  · have ⟨p, q⟩ := wf f hf (by omega)
    exact ⟨fun _ => hf, fun _ _ => Nat.lt_trans q hf⟩
/-! one step at a formula, a pass over all, rounds -/
def cd_St (n : Nat) (s l r : Nat → Nat) (A : Nat → Int32) (m f : Nat) (K L : Int32) : Prop :=
  (∀ g, bt K g = true → bt L g = true) ∧
  (∀ S : Nat → Prop, cd_cf n s l r A m S f → (∀ g, bt K g = true → S g) → ∀ g, bt L g = true → S g) ∧
  (L = K → cd_cf n s l r A m (fun g => bt K g = true) f)
def cd_P (n : Nat) (s l r : Nat → Nat) (A : Nat → Int32) (m f : Nat) (K L : Int32) : Prop :=
  (∀ g, bt K g = true → bt L g = true) ∧
  (∀ S : Nat → Prop, cd_C n s l r A m S → (∀ g, bt K g = true → S g) → ∀ g, bt L g = true → S g) ∧
  (L = K → ∀ f', f' < f → cd_cf n s l r A m (fun g => bt K g = true) f')
def cd_R (n : Nat) (s l r : Nat → Nat) (A : Nat → Int32) (m : Nat) (K : Int32) : Prop :=
  (∀ g, m.testBit g = true → bt K g = true) ∧
  (∀ S : Nat → Prop, (∀ g, m.testBit g = true → S g) → cd_C n s l r A m S → ∀ g, bt K g = true → S g)
theorem cd_P0 (n : Nat) (s l r : Nat → Nat) (A : Nat → Int32) (m : Nat) (K : Int32) : cd_P n s l r A m 0 K K :=
  ⟨fun _ h => h, fun _ _ h => h, fun _ f' hf => absurd hf (Nat.not_lt_zero _)⟩
theorem cd_PS {n : Nat} {s l r : Nat → Nat} {A : Nat → Int32} {m f : Nat} {K L M : Int32} (hf : f < n) (p : cd_P n s l r A m f K L) (t : cd_St n s l r A m f L M) : cd_P n s l r A m (f + 1) K M := by
  refine ⟨fun g h => t.1 g (p.1 g h), fun S c h => t.2.1 S (c f hf) (p.2.1 S c h), fun e => ?_⟩
  subst e
  have e2 : M = L := cd_sub p.1 t.1
  subst e2
  intro f' hf'
  by_cases z : f' = f
  · subst z; exact t.2.2 rfl
  · exact p.2.2 rfl f' (by omega)
theorem cd_R0 (n : Nat) (s l r : Nat → Nat) (A : Nat → Int32) {m : Nat} (hm : m < 2 ^ 32) : cd_R n s l r A m (nI m) :=
  ⟨fun g h => by rw [cd_btM hm]; exact h, fun S h _ g z => h g (by rw [cd_btM hm] at z; exact z)⟩
theorem cd_RP {n : Nat} {s l r : Nat → Nat} {A : Nat → Int32} {m : Nat} {K L : Int32} (h : cd_R n s l r A m K) (p : cd_P n s l r A m n K L) : cd_R n s l r A m L :=
  ⟨fun g z => p.1 g (h.1 g z), fun S hS c => p.2.1 S c (h.2 S hS c)⟩
theorem cd_RB {n : Nat} {s l r : Nat → Nat} {A : Nat → Int32} {m : Nat} {K : Int32} (wf : cd_wf n s l r) (hm : m < 2 ^ n) (ha : ∀ k, m < k → k < 2 ^ n → cd_G n s l r A k) (h : cd_R n s l r A m K) : ∀ g, bt K g = true → g < n :=
  h.2 (fun g => g < n) (fun _ z => cd_mlt hm z) (cd_Cfull wf hm (fun k z y => (ha k z y).2.2.2))
theorem cd_RG {n : Nat} {s l r : Nat → Nat} {A B : Nat → Int32} {m : Nat} {K : Int32} (wf : cd_wf n s l r) (hm : m < 2 ^ n) (ha : ∀ k, m < k → k < 2 ^ n → cd_G n s l r A k) (h : cd_R n s l r A m K) (p : cd_P n s l r A m n K K) (hB : B m = K) (hBA : ∀ k, k ≠ m → B k = A k) : cd_G n s l r B m := by
  have hk : ∀ k, m < k → k < 2 ^ n → A k = B k := fun k z _ => (hBA k (by omega)).symm
  unfold cd_G
  rw [hB]
  refine ⟨h.1, cd_Ccong wf hm hk (p.2.2 rfl), fun S hS hC => h.2 S hS ?_, cd_RB wf hm ha h⟩
  exact cd_Ccong wf hm (fun k z y => (hk k z y).symm) hC
theorem cd_Gup {n : Nat} {s l r : Nat → Nat} {A B : Nat → Int32} {m : Nat} (wf : cd_wf n s l r) (ha : ∀ k, m < k → k < 2 ^ n → cd_G n s l r A k) (hBA : ∀ k, k ≠ m → B k = A k) (hg : m < 2 ^ n → cd_G n s l r B m) : ∀ k, m ≤ k → k < 2 ^ n → cd_G n s l r B k := by
  intro k hk hn
  by_cases e : k = m
  · subst e; exact hg hn
  · exact cd_Gcong wf hn (fun j z _ => (hBA j (by omega)).symm) (ha k (by omega) hn)
theorem cd_grow {n : Nat} {s l r : Nat → Nat} {A : Nat → Int32} {m : Nat} {K L : Int32} (wf : cd_wf n s l r) (hm : m < 2 ^ n) (ha : ∀ k, m < k → k < 2 ^ n → cd_G n s l r A k) (h : cd_R n s l r A m K) (p : cd_P n s l r A m n K L) (hne : ¬ L = K) : cd_cn K n < cd_cn L n := by
  obtain ⟨f, _, h1, h2⟩ := cd_ne p.1 hne
  exact cd_cnlt p.1 h1 h2 n (cd_RB wf hm ha (cd_RP h p) f h2)
/-! X's step -/
def cd_mk (s l r : Nat → Nat) (A : Nat → Int32) (m f : Nat) : Bool :=
  if s f = 0 then bt (A m) (l f) && bt (A m) (r f)
  else if s f = 1 then bt (A m) (l f) || bt (A m) (r f)
  else if s f = 2 then bt (A (m ||| 2 ^ l f)) (r f)
  else false
def cd_yd (n : Nat) (s l r : Nat → Nat) (A : Nat → Int32) (m f : Nat) : Int32 :=
  if s f = 0 then cd_b (l f) ||| cd_b (r f)
  else if s f = 1 then A (m ||| 2 ^ l f) &&& A (m ||| 2 ^ r f)
  else if s f = 2 then (if bt (A m) (l f) = true then cd_b (r f) else 0)
  else if s f = 4 then nI (2 ^ n - 1)
  else 0
theorem cd_stX {n : Nat} {s l r : Nat → Nat} {A0 A B : Nat → Int32} {m f : Nat} {K K1 L y : Int32} {mk : Bool} (hn : n < 12) (hl : l f < 32) (hr : r f < 32) (hA : A m = K) (hA0 : ∀ k, k ≠ m → A k = A0 k) (hmk : cd_mk s l r A m f = mk)
    (h1 : ∀ g, bt K1 g = (bt K g || (mk && decide (g = f)))) (hB : B m = K1) (hBA : ∀ k, k ≠ m → B k = A0 k) (hy : cd_yd n s l r B m f = y)
    (h2 : ∀ g, bt L g = (bt K1 g || (bt K1 f && bt y g))) : cd_St n s l r A0 m f K L := by
  have i1 : ∀ g, bt K g = true → bt K1 g = true := fun g z => by rw [h1, z, Bool.true_or]
  have i2 : ∀ g, bt K1 g = true → bt L g = true := fun g z => by rw [h2, z, Bool.true_or]
  have wK : ∀ a g, cd_wd A0 m (fun g => bt K g = true) a g ↔ bt (A (m ||| 2 ^ a)) g = true := fun a g => cd_wdA hA hA0 a g
  have wB : ∀ a g, cd_wd A0 m (fun g => bt K1 g = true) a g ↔ bt (B (m ||| 2 ^ a)) g = true := fun a g => cd_wdA hB hBA a g
  have smk : ∀ S : Nat → Prop, cd_cf n s l r A0 m S f → (∀ g, bt K g = true → S g) → mk = true → S f := by
    intro S c hS e
    rw [← hmk] at e
    unfold cd_mk at e
    rw [hA] at e
    by_cases e0 : s f = 0
    · rw [if_pos e0, Bool.and_eq_true] at e
      exact (c.1 e0).1 (hS _ e.1) (hS _ e.2)
    · rw [if_neg e0] at e
      by_cases e1 : s f = 1
      · rw [if_pos e1, Bool.or_eq_true] at e
        exact e.elim (fun z => (c.2.1 e1).1 (hS _ z)) (fun z => (c.2.1 e1).2.1 (hS _ z))
      · rw [if_neg e1] at e
        by_cases e2 : s f = 2
        · rw [if_pos e2] at e
          exact (c.2.2.1 e2).1 (cd_wdmono hS ((wK _ _).mpr e))
        · rw [if_neg e2] at e
          exact Bool.noConfusion e
  have syd : ∀ S : Nat → Prop, cd_cf n s l r A0 m S f → (∀ g, bt K1 g = true → S g) → S f → ∀ g, bt y g = true → S g := by
    intro S c hS sf g e
    rw [← hy] at e
    unfold cd_yd at e
    rw [hB] at e
    by_cases e0 : s f = 0
    · rw [if_pos e0, b_or, cd_bt1 hl, cd_bt1 hr, Bool.or_eq_true, decide_eq_true_eq, decide_eq_true_eq] at e
      rcases e with z | z
      · subst z; exact (c.1 e0).2.1 sf
      · subst z; exact (c.1 e0).2.2 sf
    · rw [if_neg e0] at e
      by_cases e1 : s f = 1
      · rw [if_pos e1, b_and, Bool.and_eq_true] at e
        exact (c.2.1 e1).2.2 sf g (cd_wdmono hS ((wB _ _).mpr e.1)) (cd_wdmono hS ((wB _ _).mpr e.2))
      · rw [if_neg e1] at e
        by_cases e2 : s f = 2
        · rw [if_pos e2] at e
          by_cases e3 : bt K1 (l f) = true
          · rw [if_pos e3, cd_bt1 hr, decide_eq_true_eq] at e
            subst e
            exact (c.2.2.1 e2).2 sf (hS _ e3)
          · rw [if_neg e3, b_0] at e
            exact Bool.noConfusion e
        · rw [if_neg e2] at e
          by_cases e4 : s f = 4
          · rw [if_pos e4, cd_btF hn, decide_eq_true_eq] at e
            exact c.2.2.2 e4 sf g e
          · rw [if_neg e4, b_0] at e
            exact Bool.noConfusion e
  refine ⟨fun g z => i2 g (i1 g z), fun S c hS => ?_, fun e => ?_⟩
  · have hS1 : ∀ g, bt K1 g = true → S g := by
      intro g z
      rw [h1, Bool.or_eq_true, Bool.and_eq_true, decide_eq_true_eq] at z
      rcases z with z | z
      · exact hS g z
      · rw [z.2]; exact smk S c hS z.1
    intro g z
    rw [h2, Bool.or_eq_true, Bool.and_eq_true] at z
    rcases z with z | z
    · exact hS1 g z
    · exact syd S c hS1 (hS1 f z.1) g z.2
  · subst e
    have e1 : L = K1 := cd_sub i1 i2
    subst e1
    have m1 : mk = true → bt L f = true := by
      intro z
      rw [h1, z, decide_eq_true rfl, Bool.and_self, Bool.or_true]
    have y1 : bt L f = true → ∀ g, bt y g = true → bt L g = true := by
      intro z g w
      rw [h2, z, w, Bool.and_self, Bool.or_true]
    refine ⟨fun e => ?_, fun e => ?_, fun e => ?_, fun e => ?_⟩
    · have hm1 : cd_mk s l r A m f = (bt L (l f) && bt L (r f)) := by unfold cd_mk; rw [if_pos e, hA]
      have hy1 : y = cd_b (l f) ||| cd_b (r f) := by rw [← hy]; unfold cd_yd; rw [if_pos e]
      refine ⟨fun p q => m1 (by rw [← hmk, hm1, p, q]; rfl), fun p => y1 p _ ?_, fun p => y1 p _ ?_⟩
      · rw [hy1, b_or, cd_bt1 hl, decide_eq_true rfl, Bool.true_or]
      · rw [hy1, b_or, cd_bt1 hr, decide_eq_true rfl, Bool.or_true]
    · have e0 : ¬ s f = 0 := by omega
      have hm1 : cd_mk s l r A m f = (bt L (l f) || bt L (r f)) := by unfold cd_mk; rw [if_neg e0, if_pos e, hA]
      have hy1 : y = B (m ||| 2 ^ l f) &&& B (m ||| 2 ^ r f) := by rw [← hy]; unfold cd_yd; rw [if_neg e0, if_pos e]
      refine ⟨fun p => m1 (by rw [← hmk, hm1, p]; rfl), fun p => m1 (by rw [← hmk, hm1, p, Bool.or_true]), fun p g w1 w2 => y1 p g ?_⟩
      rw [hy1, b_and, (wB _ _).mp w1, (wB _ _).mp w2]
      rfl
    · have e0 : ¬ s f = 0 := by omega
      have e1 : ¬ s f = 1 := by omega
      have hm1 : cd_mk s l r A m f = bt (A (m ||| 2 ^ l f)) (r f) := by unfold cd_mk; rw [if_neg e0, if_neg e1, if_pos e]
      have hy1 : y = (if bt L (l f) = true then cd_b (r f) else 0) := by rw [← hy]; unfold cd_yd; rw [if_neg e0, if_neg e1, if_pos e, hB]
      refine ⟨fun p => m1 (by rw [← hmk, hm1]; exact (wK _ _).mp p), fun p q => y1 p _ ?_⟩
      rw [hy1, if_pos q, cd_bt1 hr, decide_eq_true rfl]
    · have hy1 : y = nI (2 ^ n - 1) := by rw [← hy]; unfold cd_yd; rw [if_neg (by omega), if_neg (by omega), if_neg (by omega), if_pos e]
      intro p g hg
      refine y1 p g ?_
      rw [hy1, cd_btF hn, decide_eq_true hg]
end
section
/-! Y's step -/
def cd_W (F : Nat → Int32) (m : Nat) (K : Int32) (a : Nat) : Int32 := if m.testBit a = true then K else F (m ||| 2 ^ a)
def cd_ym (n : Nat) (s l r : Nat → Nat) (F : Nat → Int32) (m : Nat) (K : Int32) (f : Nat) : Int32 :=
  if s f = 4 then (if bt K f = true then nI (2 ^ n - 1) else 0)
  else if s f = 3 then 0
  else if s f = 0 then (if bt K f = true then cd_b (l f) ||| cd_b (r f) else if bt K (l f) = true ∧ bt K (r f) = true then cd_b f else 0)
  else if s f = 2 then (if bt K f = true ∧ bt K (l f) = true then (if bt (cd_W F m K (l f)) (r f) = true then cd_b f else 0) ||| cd_b (r f) else (if bt (cd_W F m K (l f)) (r f) = true then cd_b f else 0))
  else (if bt K f = true then (cd_W F m K (l f) &&& cd_W F m K (r f)) ||| (if bt K (l f) = true ∨ bt K (r f) = true then cd_b f else 0) else (if bt K (l f) = true ∨ bt K (r f) = true then cd_b f else 0))
theorem cd_wdW (F : Nat → Int32) (m : Nat) (K : Int32) (a g : Nat) : cd_wd F m (fun g => bt K g = true) a g ↔ bt (cd_W F m K a) g = true := by
  unfold cd_wd cd_W
  cases e : m.testBit a
  · rw [if_neg (by decide)]
    exact ⟨fun w => w.elim (fun z => Bool.noConfusion z.1) (fun z => z.2), fun w => Or.inr ⟨rfl, w⟩⟩
  · rw [if_pos rfl]
    exact ⟨fun w => w.elim (fun z => z.2) (fun z => Bool.noConfusion z.1), fun w => Or.inl ⟨rfl, w⟩⟩
theorem cd_ifb {c : Prop} (d : Decidable c) {f : Nat} (hf : f < 32) (g : Nat) : bt (@ite _ c d (cd_b f) 0) g = true ↔ c ∧ g = f := by
  by_cases z : c
  · rw [if_pos z, cd_bt1 hf, decide_eq_true_eq]; exact ⟨fun h => ⟨z, h⟩, fun h => h.2⟩
  · rw [if_neg z, b_0]; exact ⟨fun h => Bool.noConfusion h, fun h => absurd h.1 z⟩
theorem cd_ymS {n : Nat} {s l r : Nat → Nat} {F : Nat → Int32} {m f : Nat} {K : Int32} (hn : n < 12) (hf : f < 32) (hl : l f < 32) (hr : r f < 32) (h4 : s f ≤ 4) (S : Nat → Prop) (c : cd_cf n s l r F m S f) (hS : ∀ g, bt K g = true → S g) :
    ∀ g, bt (cd_ym n s l r F m K f) g = true → S g := by
  intro g
  unfold cd_ym
  by_cases e4 : s f = 4
  · rw [if_pos e4]
    by_cases z : bt K f = true
    · rw [if_pos z, cd_btF hn, decide_eq_true_eq]
      exact c.2.2.2 e4 (hS f z) g
    · rw [if_neg z, b_0]; exact fun h => Bool.noConfusion h
  rw [if_neg e4]
  by_cases e3 : s f = 3
  · rw [if_pos e3, b_0]; exact fun h => Bool.noConfusion h
  rw [if_neg e3]
  by_cases e0 : s f = 0
  · rw [if_pos e0]
    have c0 := c.1 e0
    by_cases z : bt K f = true
    · rw [if_pos z, b_or, cd_bt1 hl, cd_bt1 hr, Bool.or_eq_true, decide_eq_true_eq, decide_eq_true_eq]
      intro h
      rcases h with h | h
      · rw [h]; exact c0.2.1 (hS f z)
      · rw [h]; exact c0.2.2 (hS f z)
    · rw [if_neg z, cd_ifb _ hf]
      intro h
      rw [h.2]; exact c0.1 (hS _ h.1.1) (hS _ h.1.2)
  rw [if_neg e0]
  by_cases e2 : s f = 2
  · rw [if_pos e2]
    have c2 := c.2.2.1 e2
    have ad : bt (if bt (cd_W F m K (l f)) (r f) = true then cd_b f else 0) g = true → S g := by
      rw [cd_ifb _ hf]
      intro h
      rw [h.2]; exact c2.1 (cd_wdmono hS ((cd_wdW F m K _ _).mpr h.1))
    by_cases z : bt K f = true ∧ bt K (l f) = true
    · rw [if_pos z, b_or, Bool.or_eq_true, cd_bt1 hr, decide_eq_true_eq]
      intro h
      rcases h with h | h
      · exact ad h
      · rw [h]; exact c2.2 (hS _ z.1) (hS _ z.2)
    · rw [if_neg z]; exact ad
  rw [if_neg e2]
  have e1 : s f = 1 := by omega
  have c1 := c.2.1 e1
  have ad : bt (if bt K (l f) = true ∨ bt K (r f) = true then cd_b f else 0) g = true → S g := by
    rw [cd_ifb _ hf]
    intro h
    rw [h.2]; exact h.1.elim (fun z => c1.1 (hS _ z)) (fun z => c1.2.1 (hS _ z))
  by_cases z : bt K f = true
  · rw [if_pos z, b_or, Bool.or_eq_true, b_and, Bool.and_eq_true]
    intro h
    rcases h with h | h
    · exact c1.2.2 (hS f z) g (cd_wdmono hS ((cd_wdW F m K _ _).mpr h.1)) (cd_wdmono hS ((cd_wdW F m K _ _).mpr h.2))
    · exact ad h
  · rw [if_neg z]; exact ad
theorem cd_ymC {n : Nat} {s l r : Nat → Nat} {F : Nat → Int32} {m f : Nat} {K : Int32} (hn : n < 12) (hf : f < 32) (hl : l f < 32) (hr : r f < 32)
    (h : ∀ g, bt (cd_ym n s l r F m K f) g = true → bt K g = true) : cd_cf n s l r F m (fun g => bt K g = true) f := by
  refine ⟨fun e => ?_, fun e => ?_, fun e => ?_, fun e => ?_⟩
  · have hy : cd_ym n s l r F m K f = (if bt K f = true then cd_b (l f) ||| cd_b (r f) else if bt K (l f) = true ∧ bt K (r f) = true then cd_b f else 0) := by
      unfold cd_ym; rw [if_neg (by omega), if_neg (by omega), if_pos e]
    rw [hy] at h
    refine ⟨fun p q => ?_, fun p => ?_, fun p => ?_⟩
    · by_cases z : bt K f = true
      · exact z
      · rw [if_neg z] at h
        exact h f ((cd_ifb _ hf f).mpr ⟨⟨p, q⟩, rfl⟩)
    · rw [if_pos p] at h
      exact h _ (by rw [b_or, cd_bt1 hl, decide_eq_true rfl, Bool.true_or])
    · rw [if_pos p] at h
      exact h _ (by rw [b_or, cd_bt1 hr, decide_eq_true rfl, Bool.or_true])
  · have hy : cd_ym n s l r F m K f = (if bt K f = true then (cd_W F m K (l f) &&& cd_W F m K (r f)) ||| (if bt K (l f) = true ∨ bt K (r f) = true then cd_b f else 0) else (if bt K (l f) = true ∨ bt K (r f) = true then cd_b f else 0)) := by
      unfold cd_ym; rw [if_neg (by omega), if_neg (by omega), if_neg (by omega), if_neg (by omega)]
    rw [hy] at h
    have ad : bt K (l f) = true ∨ bt K (r f) = true → bt K f = true := by
      intro p
      by_cases z : bt K f = true
      · exact z
      · rw [if_neg z] at h
        exact h f ((cd_ifb _ hf f).mpr ⟨p, rfl⟩)
    refine ⟨fun p => ad (Or.inl p), fun p => ad (Or.inr p), fun p g w1 w2 => ?_⟩
    rw [if_pos p] at h
    refine h g ?_
    rw [b_or, b_and, (cd_wdW F m K _ _).mp w1, (cd_wdW F m K _ _).mp w2]
    rfl
  · have hy : cd_ym n s l r F m K f = (if bt K f = true ∧ bt K (l f) = true then (if bt (cd_W F m K (l f)) (r f) = true then cd_b f else 0) ||| cd_b (r f) else (if bt (cd_W F m K (l f)) (r f) = true then cd_b f else 0)) := by
      unfold cd_ym; rw [if_neg (by omega), if_neg (by omega), if_neg (by omega), if_pos e]
    rw [hy] at h
    refine ⟨fun p => ?_, fun p q => ?_⟩
    · have w := (cd_wdW F m K _ _).mp p
      by_cases z : bt K f = true ∧ bt K (l f) = true
      · exact z.1
      · rw [if_neg z] at h
        exact h f ((cd_ifb _ hf f).mpr ⟨w, rfl⟩)
    · rw [if_pos ⟨p, q⟩] at h
      exact h _ (by rw [b_or, cd_bt1 hr, decide_eq_true rfl, Bool.or_true])
  · have hy : cd_ym n s l r F m K f = (if bt K f = true then nI (2 ^ n - 1) else 0) := by
      unfold cd_ym; rw [if_pos e]
    rw [hy] at h
    intro p g hg
    rw [if_pos p] at h
    exact h g (by rw [cd_btF hn, decide_eq_true hg])
theorem cd_stY {n : Nat} {s l r : Nat → Nat} {F : Nat → Int32} {m f : Nat} {K y : Int32} (hn : n < 12) (hf : f < 32) (hl : l f < 32) (hr : r f < 32) (h4 : s f ≤ 4) (hy : y = cd_ym n s l r F m K f) : cd_St n s l r F m f K (K ||| y) := by
  subst hy
  refine ⟨fun g z => by rw [b_or, z, Bool.true_or], fun S c hS g z => ?_, fun e => ?_⟩
  · rw [b_or, Bool.or_eq_true] at z
    exact z.elim (hS g) (cd_ymS hn hf hl hr h4 S c hS g)
  · refine cd_ymC hn hf hl hr (fun g z => ?_)
    rw [← e, b_or, z, Bool.or_true]
theorem cd_both {K : Int32} {a b : Nat} (ha : a < 32) (hb : b < 32) : (K &&& (cd_b a ||| cd_b b)) = (cd_b a ||| cd_b b) ↔ bt K a = true ∧ bt K b = true := by
  constructor
  · intro h
    constructor
    · have e : bt (K &&& (cd_b a ||| cd_b b)) a = bt (cd_b a ||| cd_b b) a := by rw [h]
      rw [b_and, b_or, cd_bt1 ha, decide_eq_true rfl, Bool.true_or, Bool.and_true] at e
      exact e
    · have e : bt (K &&& (cd_b a ||| cd_b b)) b = bt (cd_b a ||| cd_b b) b := by rw [h]
      rw [b_and, b_or, cd_bt1 hb, decide_eq_true rfl, Bool.or_true, Bool.and_true] at e
      exact e
  · intro h
    apply b_ext
    intro i _
    rw [b_and, b_or, cd_bt1 ha, cd_bt1 hb]
    by_cases e1 : i = a
    · rw [e1, h.1, Bool.true_and]
    · by_cases e2 : i = b
      · rw [e2, h.2, Bool.true_and]
      · rw [decide_eq_false e1, decide_eq_false e2, Bool.or_self, Bool.and_false]
theorem cd_any {K : Int32} {a b : Nat} (ha : a < 32) (hb : b < 32) : (K &&& (cd_b a ||| cd_b b)) = 0 ↔ ¬ (bt K a = true ∨ bt K b = true) := by
  constructor
  · intro h z
    have e : ∀ g, bt (K &&& (cd_b a ||| cd_b b)) g = false := fun g => by rw [h, b_0]
    rcases z with z | z
    · have e1 := e a
      rw [b_and, b_or, cd_bt1 ha, decide_eq_true rfl, Bool.true_or, Bool.and_true, z] at e1
      exact Bool.noConfusion e1
    · have e1 := e b
      rw [b_and, b_or, cd_bt1 hb, decide_eq_true rfl, Bool.or_true, Bool.and_true, z] at e1
      exact Bool.noConfusion e1
  · intro h
    apply b_ext
    intro i _
    rw [b_and, b_or, cd_bt1 ha, cd_bt1 hb, b_0]
    by_cases e1 : i = a
    · have z : bt K i = false := by cases e : bt K i with
        | false => rfl
        | true => exact absurd (Or.inl (e1 ▸ e)) h
      rw [z, Bool.false_and]
    · by_cases e2 : i = b
      · have z : bt K i = false := by cases e : bt K i with
          | false => rfl
          | true => exact absurd (Or.inr (e2 ▸ e)) h
        rw [z, Bool.false_and]
      · rw [decide_eq_false e1, decide_eq_false e2, Bool.or_self, Bool.and_false]
end
section
/-! truth for the sixteen choices -/
def cd_tv (s l r : Nat → Nat) (b : Nat → Bool) (c f : Nat) : Bool :=
  if s f = 0 then b (l f) && b (r f)
  else if s f = 1 then b (l f) || b (r f)
  else if s f = 2 then !(b (l f)) || b (r f)
  else if s f = 3 then c.testBit (l f)
  else false
theorem cd_tvc {s l r s' l' r' : Nat → Nat} {b b' : Nat → Bool} {c f : Nat} (hs : s' f = s f) (hl : l' f = l f) (hr : s f < 3 → r' f = r f) (h : s f < 3 → b' (l f) = b (l f) ∧ b' (r f) = b (r f)) : cd_tv s' l' r' b' c f = cd_tv s l r b c f := by
  unfold cd_tv
  rw [hs, hl]
  by_cases e0 : s f = 0
  · have z : s f < 3 := by omega
    rw [if_pos e0, if_pos e0, hr z, (h z).1, (h z).2]
  rw [if_neg e0, if_neg e0]
  by_cases e1 : s f = 1
  · have z : s f < 3 := by omega
    rw [if_pos e1, if_pos e1, hr z, (h z).1, (h z).2]
  rw [if_neg e1, if_neg e1]
  by_cases e2 : s f = 2
  · have z : s f < 3 := by omega
    rw [if_pos e2, if_pos e2, hr z, (h z).1, (h z).2]
  rw [if_neg e2, if_neg e2]
def cd_T (n : Nat) (s l r : Nat → Nat) (t : Nat → Int32) : Prop := ∀ f, f < n → ∀ c, c < 16 → bt (t f) c = cd_tv s l r (fun j => bt (t j) c) c f
def cd_u (s : Nat → Nat) (k v : Nat) : Nat → Nat := fun j => if j = k then v else s j
theorem cd_us {s : Nat → Nat} {k v : Nat} : cd_u s k v k = v := if_pos rfl
theorem cd_un {s : Nat → Nat} {k v j : Nat} (h : j ≠ k) : cd_u s k v j = s j := if_neg h
theorem cd_uI {a : Nat → Int32} {s : Nat → Nat} (h : ∀ j, a j = nI (s j)) (k v : Nat) : ∀ j, upd a k (nI v) j = nI (cd_u s k v j) := by
  intro j
  by_cases e : j = k
  · subst e; rw [pk_us, cd_us]
  · rw [pk_un e, cd_un e]; exact h j
theorem cd_Tapp {n : Nat} {s l r : Nat → Nat} {t : Nat → Int32} {x y z : Nat} {v : Int32} (wf : cd_wf n s l r) (h : cd_T n s l r t) (hx : x < 3 → y < n ∧ z < n)
    (hv : ∀ c, c < 16 → bt v c = cd_tv (cd_u s n x) (cd_u l n y) (cd_u r n z) (fun j => bt (t j) c) c n) : cd_T (n + 1) (cd_u s n x) (cd_u l n y) (cd_u r n z) (upd t n v) := by
  intro f hf c hc
  by_cases e : f = n
  · subst e
    rw [pk_us, hv c hc]
    refine (cd_tvc rfl rfl (fun _ => rfl) (fun w => ?_)).symm
    rw [cd_us] at w
    rw [cd_us, cd_us, pk_un (by have := (hx w).1; omega), pk_un (by have := (hx w).2; omega)]
    exact ⟨rfl, rfl⟩
  · have hf' : f < n := by omega
    rw [pk_un e, h f hf' c hc]
    refine (cd_tvc (cd_un e) (cd_un e) (fun _ => cd_un e) (fun w => ?_)).symm
    have ⟨p, q⟩ := wf f hf' w
    rw [pk_un (by omega), pk_un (by omega)]
    exact ⟨rfl, rfl⟩
theorem cd_wfapp {n : Nat} {s l r : Nat → Nat} {x y z : Nat} (wf : cd_wf n s l r) (hx : x < 3 → y < n ∧ z < n) : cd_wf (n + 1) (cd_u s n x) (cd_u l n y) (cd_u r n z) := by
  intro f hf w
  by_cases e : f = n
  · subst e
    rw [cd_us] at w
    rw [cd_us, cd_us]
    exact hx w
  · rw [cd_un e] at w
    rw [cd_un e, cd_un e]
    exact wf f (by omega) w
def cd_al (x : Int32) (b : Nat → Bool) : Nat → Bool
  | 0 => true
  | n + 1 => cd_al x b n && (!(bt x n) || b n)
theorem cd_alS (x : Int32) (b : Nat → Bool) (n : Nat) : cd_al x b (n + 1) = (cd_al x b n && (!(bt x n) || b n)) := rfl
theorem cd_alc (x : Int32) {b b' : Nat → Bool} (n : Nat) (h : ∀ j, j < n → b j = b' j) : cd_al x b n = cd_al x b' n := by
  induction n with
  | zero => rfl
  | succ n ih => rw [cd_alS, cd_alS, ih (fun j hj => h j (by omega)), h n (by omega)]
theorem cd_m0 : ∀ c, c < 16 → bt 43690 c = c.testBit 0 := by decide +kernel
theorem cd_m1 : ∀ c, c < 16 → bt 52428 c = c.testBit 1 := by decide +kernel
theorem cd_m2 : ∀ c, c < 16 → bt 61680 c = c.testBit 2 := by decide +kernel
theorem cd_m3 : ∀ c, c < 16 → bt 65280 c = c.testBit 3 := by decide +kernel
theorem cd_not (x : Int32) {c : Nat} (hc : c < 32) : bt (x ^^^ (-1)) c = !(bt x c) := by
  rw [b_xor, b_m1 c hc, Bool.xor_true]
theorem cd_imp (x y : Int32) {c : Nat} (hc : c < 16) : bt ((65535 &&& (x ^^^ (-1))) ||| y) c = (!(bt x c) || bt y c) := by
  rw [b_or, b_and, b_65535, decide_eq_true hc, Bool.true_and, cd_not x (by omega)]
theorem cd_cla {K v : Int32} (hK : ∀ c, 16 ≤ c → bt K c = false) : (K &&& (v ^^^ (-1))) = 0 ↔ ∀ c, c < 16 → bt K c = true → bt v c = true := by
  constructor
  · intro h c hc z
    have e : bt (K &&& (v ^^^ (-1))) c = false := by rw [h, b_0]
    rw [b_and, cd_not v (by omega), z, Bool.true_and] at e
    cases w : bt v c
    · rw [w] at e; exact Bool.noConfusion e
    · rfl
  · intro h
    apply b_ext
    intro i hi
    rw [b_and, cd_not v hi, b_0]
    cases w : bt K i
    · rfl
    · rcases Nat.lt_or_ge i 16 with z | z
      · rw [h i z w]; rfl
      · rw [hK i z] at w; exact Bool.noConfusion w
end
section
/-! X: the private methods -/
/-- what X keeps: the list as naturals -/
def cd_L (n : Nat) (s l r : Nat → Nat) (sh lf rt : Nat → Int32) : Prop :=
  n < 12 ∧ (∀ j, sh j = nI (s j)) ∧ (∀ j, lf j = nI (l j)) ∧ (∀ j, rt j = nI (r j)) ∧ (∀ j, s j ≤ 4) ∧ (∀ j, l j < 11) ∧ (∀ j, r j < 11) ∧ cd_wf n s l r
theorem cx_has {post : Int32 → Prop} {K : Int32} {f : Nat} (hf : f < 32) (h1 : bt K f = true → post 1) (h0 : bt K f = false → post 0) : wpX_has post K (nI f) := by
  unfold wpX_has
  exact ⟨fun z => h0 ((cd_has hf).mp z), fun z => h1 ((cd_hasT hf).mp z)⟩
section
variable {n m f : Nat} {s l r : Nat → Nat} {sh lf rt tr co : Nat → Int32}
theorem cx_is0 {post : Int32 → Prop} {x : Int32} (h : x < 0 ∨ nI n ≤ x) (p : post 0) : wpX_isListed post (nI n, sh, lf, rt, tr, co) x := by
  unfold wpX_isListed
  refine br_c (fun _ => p) (fun z => br_c (fun _ => p) (fun w => ?_))
  exact h.elim (fun y => absurd y z) (fun y => absurd y w)
theorem cx_is1 {post : Int32 → Prop} {j : Nat} (hn : n < 12) (hj : j < n) (p : post 1) : wpX_isListed post (nI n, sh, lf, rt, tr, co) (nI j) := by
  unfold wpX_isListed
  exact br_f (nI_pos (by omega)) (br_f (nI_ge hj (by omega)) p)
theorem cx_lp {post : Int32 → Prop} {x : Int32} (hn : n < 12) (e : x &&& nI (2 ^ n - 1) = nI m) (p : post (nI m)) : wpX_listedPart post (nI n, sh, lf, rt, tr, co) x := by
  show post (x &&& (cd_b n - 1))
  rw [cd_fullN n hn, e]
  exact p
theorem cx_mem4 {post : Int32 → Prop} {K : Int32} (p : post (nI (cd_cn K 11))) : ∀ d j, j + d = 11 → wX_membersOf_4 post K (d + 1) (nI (cd_cn K j)) (nI j) := by
  intro d
  induction d with
  | zero =>
    intro j hj
    have e : j = 11 := by omega
    subst e
    exact br_t (Int32.le_refl _) p
  | succ d ih =>
    intro j hj
    refine br_f (nI_ge (b := 11) (by omega) (by decide)) (cx_has (by omega) (fun z => ?_) (fun z => ?_))
    · refine br_f (by decide) (nm_r (nI_1 _) (nm_r (nI_1 _) ?_))
      have h := ih (j + 1) (by omega)
      rw [cd_cnS, if_pos z] at h
      exact h
    · refine br_t rfl (nm_r (nI_1 _) ?_)
      have h := ih (j + 1) (by omega)
      rw [cd_cnS, if_neg (by rw [z]; decide)] at h
      exact h
theorem cx_mem {post : Int32 → Prop} {K : Int32} (p : post (nI (cd_cn K 11))) : wpX_membersOf post K := ⟨12, cx_mem4 p 11 0 rfl⟩
theorem cx_s5 {P : Nat → Prop} {a : Nat} (h : a ≤ 4) (h0 : a = 0 → P a) (h1 : a = 1 → P a) (h2 : a = 2 → P a) (h3 : a = 3 → P a) (h4 : a = 4 → P a) : P a := by
  have : a = 0 ∨ a = 1 ∨ a = 2 ∨ a = 3 ∨ a = 4 := by omega
  rcases this with e | e | e | e | e
  · exact h0 e
  · exact h1 e
  · exact h2 e
  · exact h3 e
  · exact h4 e
theorem cx_can {post : Int32 → Prop} (H : cd_L n s l r sh lf rt) (hm : m < 2 ^ n) (hf : f < n) (p1 : cd_mk s l r co m f = true → post 1) (p0 : cd_mk s l r co m f = false → post 0) : wpX_canBeMade post (nI n, sh, lf, rt, tr, co) (nI m) (nI f) := by
  obtain ⟨hn, hsh, hlf, hrt, hs4, hl, hr, wf⟩ := H
  have h2 := cd_p2 hn
  have cf : (nI f).toNatClampNeg = f := nI_clamp (by omega)
  have cm : (nI m).toNatClampNeg = m := nI_clamp (by omega)
  have vf : vp_in (nI f) 11 := vp_in_nI (by omega) (by omega)
  have hlf' := hl f
  have hrf' := hr f
  unfold wpX_canBeMade
  refine ⟨vp_in_nI (by omega) (by omega), nm_r (e' := co m) (by rw [cm]) ⟨vf, nm_r (e' := cd_b (l f)) (by rw [cf, hlf]; rfl) ⟨vf, nm_r (e' := cd_b (r f)) (by rw [cf, hrt]; rfl) ⟨vf, nm_r (e' := nI (s f)) (by rw [cf, hsh]) ?_⟩⟩⟩⟩
  unfold cd_mk at p1 p0
  rcases (show s f = 0 ∨ s f = 1 ∨ s f = 2 ∨ s f = 3 ∨ s f = 4 from by have := hs4 f; omega) with e | e | e | e | e
  · rw [e] at p1 p0 ⊢
    rw [if_pos rfl] at p1 p0
    refine br_f (by decide) (br_f (by decide) (br_t rfl ?_))
    refine br_c (fun z => p0 ?_) (fun z => br_c (fun w => p0 ?_) (fun w => p1 ?_))
    · rw [(cd_has (by omega)).mp z, Bool.false_and]
    · rw [(cd_has (by omega)).mp w, Bool.and_false]
    · rw [(cd_hasT (by omega)).mp z, (cd_hasT (by omega)).mp w]; rfl
  · rw [e] at p1 p0 ⊢
    rw [if_neg (by decide), if_pos rfl] at p1 p0
    refine br_f (by decide) (br_f (by decide) (br_f (by decide) (br_t rfl ?_)))
    refine br_c (fun z => br_c (fun w => p0 ?_) (fun w => p1 ?_)) (fun z => p1 ?_)
    · rw [(cd_has (by omega)).mp z, (cd_has (by omega)).mp w]; rfl
    · rw [(cd_hasT (by omega)).mp w, Bool.or_true]
    · rw [(cd_hasT (by omega)).mp z, Bool.true_or]
  · have hw := wf f hf (by omega)
    rw [e] at p1 p0 ⊢
    rw [if_neg (by decide), if_neg (by decide), if_pos rfl] at p1 p0
    have ho : m ||| 2 ^ l f < 2 ^ n := cd_orlt hm (by omega)
    have eo : nI m ||| cd_b (l f) = nI (m ||| 2 ^ l f) := cd_orN (by omega)
    refine br_f (by decide) (br_f (by decide) (br_f (by decide) (br_f (by decide) (br_t rfl ?_))))
    rw [eo, nI_clamp (by omega)]
    exact ⟨vp_in_nI (by omega) (by omega), br_c (fun z => p0 ((cd_has (by omega)).mp z)) (fun z => p1 ((cd_hasT (by omega)).mp z))⟩
  · rw [e] at p1 p0 ⊢
    rw [if_neg (by decide), if_neg (by decide), if_neg (by decide)] at p0
    exact br_f (by decide) (br_t (by decide) (p0 rfl))
  · rw [e] at p1 p0 ⊢
    rw [if_neg (by decide), if_neg (by decide), if_neg (by decide)] at p0
    exact br_f (by decide) (br_t (by decide) (p0 rfl))
theorem cx_yield {post : Int32 → Prop} (H : cd_L n s l r sh lf rt) (hm : m < 2 ^ n) (hf : f < n) (p : post (cd_yd n s l r co m f)) : wpX_yieldOf post (nI n, sh, lf, rt, tr, co) (nI m) (nI f) := by
  obtain ⟨hn, hsh, hlf, hrt, hs4, hl, hr, wf⟩ := H
  have h2 := cd_p2 hn
  have cf : (nI f).toNatClampNeg = f := nI_clamp (by omega)
  have cm : (nI m).toNatClampNeg = m := nI_clamp (by omega)
  have vf : vp_in (nI f) 11 := vp_in_nI (by omega) (by omega)
  have hlf' := hl f
  have hrf' := hr f
  unfold wpX_yieldOf
  refine ⟨vf, nm_r (e' := cd_b (l f)) (by rw [cf, hlf]; rfl) ⟨vf, nm_r (e' := cd_b (r f)) (by rw [cf, hrt]; rfl) ⟨vf, nm_r (e' := nI (s f)) (by rw [cf, hsh]) ?_⟩⟩⟩
  unfold cd_yd at p
  rcases (show s f = 0 ∨ s f = 1 ∨ s f = 2 ∨ s f = 3 ∨ s f = 4 from by have := hs4 f; omega) with e | e | e | e | e
  · rw [e] at p ⊢
    rw [if_pos rfl] at p
    exact br_f (by decide) (br_f (by decide) (br_t rfl p))
  · have hw := wf f hf (by omega)
    rw [e] at p ⊢
    rw [if_neg (by decide), if_pos rfl] at p
    have ho : m ||| 2 ^ l f < 2 ^ n := cd_orlt hm (by omega)
    have ho' : m ||| 2 ^ r f < 2 ^ n := cd_orlt hm (by omega)
    have eo : nI m ||| cd_b (l f) = nI (m ||| 2 ^ l f) := cd_orN (by omega)
    have eo' : nI m ||| cd_b (r f) = nI (m ||| 2 ^ r f) := cd_orN (by omega)
    refine br_f (by decide) (br_f (by decide) (br_f (by decide) (br_t rfl ?_)))
    rw [eo, eo', nI_clamp (by omega), nI_clamp (by omega)]
    exact ⟨vp_in_nI (by omega) (by omega), vp_in_nI (by omega) (by omega), p⟩
  · rw [e] at p ⊢
    rw [if_neg (by decide), if_neg (by decide), if_pos rfl] at p
    refine br_f (by decide) (br_f (by decide) (br_f (by decide) (br_f (by decide) (br_t rfl ⟨vp_in_nI (by omega) (by omega), ?_⟩))))
    rw [cm]
    refine br_c (fun z => ?_) (fun z => ?_)
    · rw [if_neg (by rw [(cd_has (by omega)).mp z]; decide)] at p; exact p
    · rw [if_pos ((cd_hasT (by omega)).mp z)] at p; exact p
  · rw [e] at p ⊢
    rw [if_neg (by decide), if_neg (by decide), if_neg (by decide), if_neg (by decide)] at p
    exact br_f (by decide) (br_f (by decide) (br_f (by decide) (br_f (by decide) (br_f (by decide) (br_t rfl p)))))
  · rw [e] at p ⊢
    rw [if_neg (by decide), if_neg (by decide), if_neg (by decide), if_pos rfl] at p
    refine br_f (by decide) (br_f (by decide) (br_f (by decide) (br_f (by decide) (br_f (by decide) (br_f (by decide) (br_t rfl ?_))))))
    show post (cd_b n - 1)
    rw [cd_fullN n hn]
    exact p
end
end
section
/-! X: applyRules, settle -/
section
variable {n m f : Nat} {s l r : Nat → Nat} {sh lf rt tr co A : Nat → Int32}
theorem cx_31 {post : SX → Prop} {J : Int32 → (Nat → Int32) → (Nat → Int32) → (Nat → Int32) → (Nat → Int32) → (Nat → Int32) → Prop} (H : cd_L n s l r sh lf rt) (hm : m < 2 ^ n) (hf : f < n)
    (h : ∀ c2 : Nat → Int32, (∀ k, k ≠ m → c2 k = co k) → (∀ g, bt (c2 m) g = (bt (co m) g || (bt (co m) f && bt (cd_yd n s l r co m f) g))) → J (nI (f + 1)) sh lf rt tr c2) :
    wX_applyRules_31 post J (nI m) (nI f) (nI n) sh lf rt tr co := by
  have hn := H.1
  have h2 := cd_p2 hn
  have cm : (nI m).toNatClampNeg = m := nI_clamp (by omega)
  have vm : vp_in (nI m) 2048 := vp_in_nI (by omega) (by omega)
  unfold wX_applyRules_31
  rw [cm]
  refine ⟨vm, br_c (fun z => nm_r (nI_1 f) (h co (fun _ _ => rfl) (fun g => ?_))) (fun z => ⟨vm, cx_yield H hm hf ⟨vm, nm_e (nm_r (nI_1 f) (h _ (fun k hk => pk_un hk) (fun g => ?_)))⟩⟩)⟩
  · rw [(cd_has (f := f) (by omega)).mp z, Bool.false_and, Bool.or_false]
  · rw [pk_us, b_or, (cd_hasT (f := f) (by omega)).mp z, Bool.true_and]
theorem cx_app {post : SX → Prop} {K : Int32} (H : cd_L n s l r sh lf rt) (hm : m < 2 ^ n)
    (k : ∀ c2 : Nat → Int32, (∀ k, k ≠ m → c2 k = A k) → cd_P n s l r A m n K (c2 m) → post (nI n, sh, lf, rt, tr, c2)) :
    ∀ d f (co : Nat → Int32), f + d = n → (∀ k, k ≠ m → co k = A k) → cd_P n s l r A m f K (co m) → wX_applyRules_2 post (nI m) (nI n) (d + 1) (nI f) sh lf rt tr co := by
  have hn := H.1
  have h2 := cd_p2 hn
  have cm : (nI m).toNatClampNeg = m := nI_clamp (by omega)
  have vm : vp_in (nI m) 2048 := vp_in_nI (by omega) (by omega)
  intro d
  induction d with
  | zero =>
    intro f co hf hA hP
    have e : f = n := by omega
    subst e
    exact br_t (Int32.le_refl _) (k co hA hP)
  | succ d ih =>
    intro f co hf hA hP
    have hfn : f < n := by omega
    have hl32 : l f < 32 := by have := H.2.2.2.2.2.1 f; omega
    have hr32 : r f < 32 := by have := H.2.2.2.2.2.2.1 f; omega
    refine br_f (nI_ge hfn (by omega)) (cx_can H hm hfn (fun z => ?_) (fun z => ?_))
    · refine br_f (by decide) ⟨vm, vm, nm_r (e' := upd co m (co m ||| cd_b f)) (by rw [cm]; rfl) (cx_31 H hm hfn (fun c2 h1 h3 => ?_))⟩
      refine ih (f + 1) c2 (by omega) (fun k hk => by rw [h1 k hk, pk_un hk, hA k hk]) (cd_PS hfn hP ?_)
      refine cd_stX (A0 := A) (A := co) (B := upd co m (co m ||| cd_b f)) (K1 := co m ||| cd_b f) (mk := true) hn hl32 hr32 rfl hA z (fun g => ?_) pk_us (fun k hk => by rw [pk_un hk, hA k hk]) rfl (fun g => ?_)
      · rw [b_or, cd_bt1 (by omega), Bool.true_and]
      · rw [h3 g, pk_us]
    · refine br_t rfl (cx_31 H hm hfn (fun c2 h1 h3 => ?_))
      refine ih (f + 1) c2 (by omega) (fun k hk => by rw [h1 k hk, hA k hk]) (cd_PS hfn hP ?_)
      refine cd_stX (A0 := A) (A := co) (B := co) (K1 := co m) (mk := false) hn hl32 hr32 rfl hA z (fun g => ?_) rfl hA rfl (fun g => ?_)
      · rw [Bool.false_and, Bool.or_false]
      · rw [h3 g]
theorem cx_24 {post : SX → Prop} {J : Int32 → Int32 → (Nat → Int32) → (Nat → Int32) → (Nat → Int32) → (Nat → Int32) → (Nat → Int32) → Prop} (H : cd_L n s l r sh lf rt) (hm : m < 2 ^ n) (ha : ∀ k, m < k → k < 2 ^ n → cd_G n s l r A k)
    (k : ∀ c2 : Nat → Int32, (∀ k, k ≠ m → c2 k = A k) → cd_R n s l r A m (c2 m) → cd_P n s l r A m n (c2 m) (c2 m) → J (nI m + (-1)) (nI n) sh lf rt tr c2) :
    ∀ d q (co : Nat → Int32), q + d = 12 → (∀ k, k ≠ m → co k = A k) → cd_R n s l r A m (co m) → q ≤ cd_cn (co m) n → wX_settle_24 post J (nI m) (d + 1) 1 (nI q) (nI n) sh lf rt tr co := by
  have hn := H.1
  have h2 := cd_p2 hn
  have wf := H.2.2.2.2.2.2.2
  have cm : (nI m).toNatClampNeg = m := nI_clamp (by omega)
  have vm : vp_in (nI m) 2048 := vp_in_nI (by omega) (by omega)
  intro d
  induction d with
  | zero =>
    intro q co hq hA hR hc
    have := cd_cnle (co m) n
    omega
  | succ d ih =>
    intro q co hq hA hR hc
    have hc2 := cd_cnle (co m) n
    refine br_f (by decide) (br_f (nI_nlt (b := q) (a := 11) (by omega) (by decide)) ⟨vm, nm_r (e' := co m) (by rw [cm]) ?_⟩)
    refine ⟨n + 1, cx_app (K := co m) H hm (fun c2 h1 h3 => ?_) n 0 co (by omega) hA (cd_P0 n s l r A m (co m))⟩
    refine ⟨vm, ?_⟩
    rw [cm]
    refine br_c (fun z => nm_r (nI_1 q) ?_) (fun z => nm_r (nI_1 q) ?_)
    · rw [← z] at h3
      exact br_t rfl (nm_e (k c2 h1 (cd_RP hR (by rw [← z]; exact h3)) h3))
    · exact ih (q + 1) c2 (by omega) h1 (cd_RP hR h3) (by have := cd_grow wf hm ha hR h3 z; omega)
theorem cx_9 {post : SX → Prop} (H : cd_L n s l r sh lf rt) (k : ∀ c2 : Nat → Int32, (∀ j, j < 2 ^ n → cd_G n s l r c2 j) → post (nI n, sh, lf, rt, tr, c2)) :
    ∀ M (co : Nat → Int32), M ≤ 2 ^ n → (∀ j, M ≤ j → j < 2 ^ n → cd_G n s l r co j) → wX_settle_9 post (M + 1) (nI M + (-1)) (nI n) sh lf rt tr co := by
  have hn := H.1
  have h2 := cd_p2 hn
  have wf := H.2.2.2.2.2.2.2
  intro M
  induction M with
  | zero =>
    intro co hM hG
    exact br_t (by decide) (k co (fun j hj => hG j (by omega) hj))
  | succ M ih =>
    intro co hM hG
    have hm : M < 2 ^ n := by omega
    have cm : (nI M).toNatClampNeg = M := nI_clamp (by omega)
    have vm : vp_in (nI M) 2048 := vp_in_nI (by omega) (by omega)
    rw [pk_m1]
    refine br_f (nI_pos (by omega)) ⟨vm, nm_r (e' := upd co M (nI M)) (by rw [cm]) ⟨13, ?_⟩⟩
    refine cx_24 (A := co) H hm hG (fun c2 h1 h3 h4 => ?_) 12 0 _ rfl (fun k hk => pk_un hk) ?_ (Nat.zero_le _)
    · refine ih c2 (by omega) (cd_Gup wf hG h1 (fun _ => cd_RG wf hm hG h3 h4 rfl h1))
    · rw [pk_us]
      exact cd_R0 n s l r co (by omega)
theorem cx_settle {post : SX → Prop} (H : cd_L n s l r sh lf rt) (k : ∀ c2 : Nat → Int32, (∀ j, j < 2 ^ n → cd_G n s l r c2 j) → post (nI n, sh, lf, rt, tr, c2)) : wpX_settle post (nI n, sh, lf, rt, tr, co) := by
  have hn := H.1
  have h2 : 0 < 2 ^ n := Nat.two_pow_pos n
  have e : cd_b n - 1 = nI (2 ^ n) + (-1) := by
    rw [cd_fullN n hn]
    obtain ⟨p, hp⟩ : ∃ p, 2 ^ n = p + 1 := ⟨2 ^ n - 1, by omega⟩
    rw [hp, pk_m1, Nat.add_sub_cancel]
  unfold wpX_settle
  exact nm_r e ⟨2 ^ n + 1, cx_9 H k (2 ^ n) co (Nat.le_refl _) (fun j h1 h3 => absurd h3 (by omega))⟩
end
end
section
/-! Y: the private methods, work -/
def cd_Ly (n : Nat) (s l r : Nat → Nat) (sh lf ri : Nat → Int32) : Prop :=
  n < 12 ∧ (∀ j, sh j = nI (s j)) ∧ (∀ j, lf j = nI (l j)) ∧ (∀ j, s j < 3 → ri j = nI (r j)) ∧ (∀ j, s j ≤ 4) ∧ (∀ j, l j < 11) ∧ (∀ j, r j < 11) ∧ cd_wf n s l r
theorem cy_has {post : Int32 → Prop} {v : SY} {K : Int32} {f : Nat} (hf : f < 32) (h1 : bt K f = true → post 1) (h0 : bt K f = false → post 0) : wpY_has post v K (nI f) := by
  obtain ⟨a, b, c, d, e, g, h⟩ := v
  unfold wpY_has
  refine br_c (fun z => h1 ((cd_srT hf).mp z)) (fun z => h0 ?_)
  cases w : bt K f
  · rfl
  · exact absurd ((cd_srT hf).mpr w) z
section
variable {n m f : Nat} {s l r : Nat → Nat} {kn : Int32} {sh lf ri fo ty : Nat → Int32}
theorem cy_is0 {post : Int32 → Prop} {x : Int32} (h : x < 0 ∨ nI n ≤ x) (p : post 0) : wpY_is post (nI n, kn, sh, lf, ri, fo, ty) x := by
  unfold wpY_is
  refine br_c (fun _ => p) (fun z => br_c (fun _ => p) (fun w => ?_))
  exact h.elim (fun y => absurd y z) (fun y => absurd y w)
theorem cy_is1 {post : Int32 → Prop} {j : Nat} (hn : n < 12) (hj : j < n) (p : post 1) : wpY_is post (nI n, kn, sh, lf, ri, fo, ty) (nI j) := by
  unfold wpY_is
  exact br_f (nI_pos (by omega)) (br_f (nI_ge hj (by omega)) p)
theorem cy_with {post : Int32 → Prop} {K : Int32} {a : Nat} (hn : n < 12) (hm : m < 2 ^ n) (ha : a < n) (p : post (cd_W fo m K a)) : wpY_with post (nI n, kn, sh, lf, ri, fo, ty) (nI m) (nI a) K := by
  have h2 := cd_p2 hn
  unfold wpY_with
  refine cy_has (by omega) (fun z => ?_) (fun z => ?_)
  · rw [cd_btM (by omega)] at z
    unfold cd_W at p
    rw [if_pos z] at p
    exact br_f (by decide) p
  · rw [cd_btM (by omega)] at z
    unfold cd_W at p
    rw [if_neg (by rw [z]; decide)] at p
    have ho : m ||| 2 ^ a < 2 ^ n := cd_orlt hm ha
    refine br_t rfl ?_
    show vp_in (nI m ||| cd_b a) 2048 ∧ post (fo (nI m ||| cd_b a).toNatClampNeg)
    rw [cd_orN (by omega), nI_clamp (by omega)]
    exact ⟨vp_in_nI (by omega) (by omega), p⟩
theorem cy_more {post : Int32 → Prop} {K : Int32} (H : cd_Ly n s l r sh lf ri) (hm : m < 2 ^ n) (hf : f < n) (p : post (cd_ym n s l r fo m K f)) : wpY_more post (nI n, kn, sh, lf, ri, fo, ty) (nI m) K (nI f) := by
  obtain ⟨hn, hsh, hlf, hri, hs4, hl, hr, wf⟩ := H
  have h2 := cd_p2 hn
  have cf : (nI f).toNatClampNeg = f := nI_clamp (by omega)
  have vf : vp_in (nI f) 11 := vp_in_nI (by omega) (by omega)
  have hlf' := hl f
  have hrf' := hr f
  unfold wpY_more
  refine ⟨vf, nm_r (e' := nI (s f)) (by rw [cf, hsh]) ⟨vf, nm_r (e' := nI (l f)) (by rw [cf, hlf]) ⟨vf, nm_r (e' := ri f) (by rw [cf]) ?_⟩⟩⟩
  unfold cd_ym at p
  by_cases e4 : s f = 4
  · rw [if_pos e4] at p
    rw [e4]
    refine br_t rfl (cy_has (by omega) (fun z => br_f (by decide) ?_) (fun z => br_t rfl ?_))
    · rw [if_pos z] at p
      show post (cd_b n - 1)
      rw [cd_fullN n hn]
      exact p
    · rw [if_neg (by rw [z]; decide)] at p
      exact p
  rw [if_neg e4] at p
  by_cases e3 : s f = 3
  · rw [if_pos e3] at p
    rw [e3]
    exact br_f (by decide) (br_t rfl p)
  rw [if_neg e3] at p
  have h3 : s f < 3 := by have := hs4 f; omega
  have hw := wf f hf h3
  rw [hri f h3]
  by_cases e0 : s f = 0
  · rw [if_pos e0] at p
    rw [e0]
    refine br_f (by decide) (br_f (by decide) (cy_has (by omega) (fun z => ?_) (fun z => ?_)))
    · rw [if_pos z] at p
      exact nm_r (e' := cd_b (l f) ||| cd_b (r f)) rfl (br_t rfl (br_f (by decide) p))
    · rw [if_neg (by rw [z]; decide)] at p
      refine nm_r (e' := cd_b (l f) ||| cd_b (r f)) rfl (br_t rfl (br_t rfl (br_c (fun w => ?_) (fun w => ?_))))
      · rw [if_pos ((cd_both (by omega) (by omega)).mp w)] at p; exact p
      · rw [if_neg (fun y => w ((cd_both (by omega) (by omega)).mpr y))] at p; exact p
  rw [if_neg e0] at p
  by_cases e2 : s f = 2
  · rw [if_pos e2] at p
    rw [e2]
    have fin : ∀ (t x7 : Int32), (x7 = 0 → bt K f = false) → (¬ x7 = 0 → bt K f = true) → (if bt (cd_W fo m K (l f)) (r f) = true then cd_b f else 0) = t → wY_more_145 post K (nI (l f)) (nI (r f)) x7 t (nI n) kn sh lf ri fo ty := by
      intro t x7 g0 g1 ht
      rw [ht] at p
      unfold wY_more_145
      refine br_c (fun z => ?_) (fun z => cy_has (by omega) (fun w => br_f (by decide) ?_) (fun w => br_t rfl ?_))
      · rw [if_neg (fun y => by rw [g0 z] at y; exact Bool.noConfusion y.1)] at p; exact p
      · rw [if_pos ⟨g1 z, w⟩] at p; exact p
      · rw [if_neg (fun y => by rw [w] at y; exact Bool.noConfusion y.2)] at p; exact p
    have go : ∀ x7 : Int32, (x7 = 0 → bt K f = false) → (¬ x7 = 0 → bt K f = true) → wpY_with (fun r_19 => (((nI 2 = 2 → (wpY_has (fun r_38 => (((r_38 = 0 → (wY_more_145 post K (nI (l f)) (nI (r f)) x7 0 (nI n) kn sh lf ri fo ty)) ∧ (¬ r_38 = 0 → (wY_more_145 post K (nI (l f)) (nI (r f)) x7 ((1 : Int32) <<< (nI f &&& 31)) (nI n) kn sh lf ri fo ty))))) (nI n, kn, sh, lf, ri, fo, ty) r_19 (nI (r f)))) ∧ (¬ nI 2 = 2 → (wpY_with (fun r_28 => ((((K &&& (cd_b (l f) ||| cd_b (r f))) = 0 → (wY_more_199 post x7 r_19 r_28 0 (nI n) kn sh lf ri fo ty)) ∧ (¬ (K &&& (cd_b (l f) ||| cd_b (r f))) = 0 → (wY_more_199 post x7 r_19 r_28 ((1 : Int32) <<< (nI f &&& 31)) (nI n) kn sh lf ri fo ty))))) (nI n, kn, sh, lf, ri, fo, ty) (nI m) (nI (r f)) K))))) (nI n, kn, sh, lf, ri, fo, ty) (nI m) (nI (l f)) K := by
      intro x7 g0 g1
      refine cy_with hn hm (by omega) (br_t rfl (cy_has (by omega) (fun z => br_f (by decide) ?_) (fun z => br_t rfl ?_)))
      · exact fin _ x7 g0 g1 (by rw [if_pos z]; rfl)
      · exact fin _ x7 g0 g1 (by rw [if_neg (by rw [z]; decide)])
    refine br_f (by decide) (br_f (by decide) (cy_has (by omega) (fun z => ?_) (fun z => ?_)))
    · exact nm_r (e' := cd_b (l f) ||| cd_b (r f)) rfl (br_f (by decide) (go 1 (fun y => absurd y (by decide)) (fun _ => z)))
    · exact nm_r (e' := cd_b (l f) ||| cd_b (r f)) rfl (br_f (by decide) (go 0 (fun _ => z) (fun y => absurd rfl y)))
  rw [if_neg e2] at p
  have e1 : s f = 1 := by omega
  rw [e1]
  have fin : ∀ (t x7 : Int32), (x7 = 0 → bt K f = false) → (¬ x7 = 0 → bt K f = true) → (if bt K (l f) = true ∨ bt K (r f) = true then cd_b f else 0) = t → wY_more_199 post x7 (cd_W fo m K (l f)) (cd_W fo m K (r f)) t (nI n) kn sh lf ri fo ty := by
    intro t x7 g0 g1 ht
    rw [ht] at p
    unfold wY_more_199
    refine br_c (fun z => ?_) (fun z => ?_)
    · rw [if_neg (fun y => by rw [g0 z] at y; exact Bool.noConfusion y)] at p; exact p
    · rw [if_pos (g1 z)] at p; exact p
  have go : ∀ x7 : Int32, (x7 = 0 → bt K f = false) → (¬ x7 = 0 → bt K f = true) → wpY_with (fun r_19 => (((nI 1 = 2 → (wpY_has (fun r_38 => (((r_38 = 0 → (wY_more_145 post K (nI (l f)) (nI (r f)) x7 0 (nI n) kn sh lf ri fo ty)) ∧ (¬ r_38 = 0 → (wY_more_145 post K (nI (l f)) (nI (r f)) x7 ((1 : Int32) <<< (nI f &&& 31)) (nI n) kn sh lf ri fo ty))))) (nI n, kn, sh, lf, ri, fo, ty) r_19 (nI (r f)))) ∧ (¬ nI 1 = 2 → (wpY_with (fun r_28 => ((((K &&& (cd_b (l f) ||| cd_b (r f))) = 0 → (wY_more_199 post x7 r_19 r_28 0 (nI n) kn sh lf ri fo ty)) ∧ (¬ (K &&& (cd_b (l f) ||| cd_b (r f))) = 0 → (wY_more_199 post x7 r_19 r_28 ((1 : Int32) <<< (nI f &&& 31)) (nI n) kn sh lf ri fo ty))))) (nI n, kn, sh, lf, ri, fo, ty) (nI m) (nI (r f)) K))))) (nI n, kn, sh, lf, ri, fo, ty) (nI m) (nI (l f)) K := by
    intro x7 g0 g1
    refine cy_with hn hm (by omega) (br_f (by decide) (cy_with hn hm (by omega) (br_c (fun z => ?_) (fun z => ?_))))
    · exact fin _ x7 g0 g1 (by rw [if_neg ((cd_any (by omega) (by omega)).mp z)])
    · exact fin _ x7 g0 g1 (by rw [if_pos (Classical.byContradiction (fun y => z ((cd_any (by omega) (by omega)).mpr y)))]; rfl)
  refine br_f (by decide) (br_f (by decide) (cy_has (by omega) (fun z => ?_) (fun z => ?_)))
  · exact nm_r (e' := cd_b (l f) ||| cd_b (r f)) rfl (br_f (by decide) (go 1 (fun y => absurd y (by decide)) (fun _ => z)))
  · exact nm_r (e' := cd_b (l f) ||| cd_b (r f)) rfl (br_f (by decide) (go 0 (fun _ => z) (fun y => absurd rfl y)))
end
end
section
section
variable {n m f : Nat} {s l r : Nat → Nat} {kn : Int32} {sh lf ri fo ty : Nat → Int32}
theorem cy_40 {post : SY → Prop} {J22 : Int32 → (Nat → Int32) → (Nat → Int32) → (Nat → Int32) → (Nat → Int32) → (Nat → Int32) → Prop} {J30 : Int32 → Int32 → Prop} {K0 x3 : Int32} (H : cd_Ly n s l r sh lf ri) (hm : m < 2 ^ n)
    (k : ∀ L, cd_P n s l r fo m n K0 L → J30 L x3) :
    ∀ d f K, f + d = n → cd_P n s l r fo m f K0 K → wY_work_40 post J22 J30 (nI m) x3 (nI n) kn sh lf ri fo ty (d + 1) K (nI f) := by
  have hn := H.1
  intro d
  induction d with
  | zero =>
    intro f K hf hP
    have e : f = n := by omega
    subst e
    exact br_t (Int32.le_refl _) (k K hP)
  | succ d ih =>
    intro f K hf hP
    have hfn : f < n := by omega
    have hl32 : l f < 32 := by have := H.2.2.2.2.2.1 f; omega
    have hr32 : r f < 32 := by have := H.2.2.2.2.2.2.1 f; omega
    refine br_f (nI_ge hfn (by omega)) (cy_more H hm hfn (nm_e (nm_r (nI_1 f) (ih (f + 1) _ (by omega) (cd_PS hfn hP ?_)))))
    exact cd_stY hn (by omega) hl32 hr32 (H.2.2.2.2.1 f) rfl
theorem cy_30 {post : SY → Prop} {J22 : Int32 → (Nat → Int32) → (Nat → Int32) → (Nat → Int32) → (Nat → Int32) → (Nat → Int32) → Prop} (H : cd_Ly n s l r sh lf ri) (hm : m < 2 ^ n) (ha : ∀ k, m < k → k < 2 ^ n → cd_G n s l r fo k)
    (k : ∀ K, cd_R n s l r fo m K → cd_P n s l r fo m n K K → J22 (nI m + (-1)) sh lf ri (upd fo m K) ty) :
    ∀ d K x3, n - cd_cn K n ≤ d → cd_R n s l r fo m K → (K = x3 → cd_P n s l r fo m n K K) → wY_work_30 post J22 (nI m) (nI n) kn sh lf ri fo ty (d + 2) K x3 := by
  have hn := H.1
  have h2 := cd_p2 hn
  have wf := H.2.2.2.2.2.2.2
  have cm : (nI m).toNatClampNeg = m := nI_clamp (by omega)
  have vm : vp_in (nI m) 2048 := vp_in_nI (by omega) (by omega)
  have ex : ∀ q K x3, cd_R n s l r fo m K → cd_P n s l r fo m n K K → K = x3 → wY_work_30 post J22 (nI m) (nI n) kn sh lf ri fo ty (q + 1) K x3 := by
    intro q K x3 hR hP e
    exact br_t e ⟨vm, nm_r (e' := upd fo m K) (by rw [cm]) (nm_e (k K hR hP))⟩
  intro d
  induction d with
  | zero =>
    intro K x3 hd hR hP
    by_cases e : K = x3
    · exact ex _ K x3 hR (hP e) e
    · refine br_f e ⟨n + 1, cy_40 (K0 := K) H hm (fun L hL => ?_) n 0 K (by omega) (cd_P0 n s l r fo m K)⟩
      by_cases e2 : L = K
      · subst e2
        exact ex 0 L L hR hL rfl
      · have := cd_grow wf hm ha hR hL e2
        have := cd_cnle L n
        omega
  | succ d ih =>
    intro K x3 hd hR hP
    by_cases e : K = x3
    · exact ex _ K x3 hR (hP e) e
    · refine br_f e ⟨n + 1, cy_40 (K0 := K) H hm (fun L hL => ?_) n 0 K (by omega) (cd_P0 n s l r fo m K)⟩
      by_cases e2 : L = K
      · subst e2
        exact ex (d + 1) L L hR hL rfl
      · have := cd_grow wf hm ha hR hL e2
        exact ih L K (by omega) (cd_RP hR hL) (fun z => absurd z e2)
theorem cy_22 {post : SY → Prop} (H : cd_Ly n s l r sh lf ri) (k : ∀ c2 : Nat → Int32, (∀ j, j < 2 ^ n → cd_G n s l r c2 j) → post (nI n, kn, sh, lf, ri, c2, ty)) :
    ∀ M (fo : Nat → Int32), M ≤ 2 ^ n → (∀ j, M ≤ j → j < 2 ^ n → cd_G n s l r fo j) → wY_work_22 post (nI n) kn (M + 1) (nI M + (-1)) sh lf ri fo ty := by
  have hn := H.1
  have h2 := cd_p2 hn
  have wf := H.2.2.2.2.2.2.2
  intro M
  induction M with
  | zero =>
    intro fo hM hG
    exact br_t (by decide) (k fo (fun j hj => hG j (by omega) hj))
  | succ M ih =>
    intro fo hM hG
    have hm : M < 2 ^ n := by omega
    rw [pk_m1]
    refine br_f (nI_pos (by omega)) ⟨n + 2, ?_⟩
    refine cy_30 H hm hG (fun K hR hP => ?_) n (nI M) (-1) (by omega) (cd_R0 n s l r fo (by omega)) (fun z => ?_)
    · exact ih _ (by omega) (cd_Gup wf hG (fun k hk => pk_un hk) (fun _ => cd_RG wf hm hG hR hP pk_us (fun k hk => pk_un hk)))
    · exact absurd z (fun y => by
        have h0 : ¬ nI M < 0 := nI_pos (by omega)
        rw [y] at h0
        exact h0 (by decide))
theorem cy_work0 {post : SY → Prop} (H : cd_Ly n s l r sh lf ri) (k : ∀ c2 : Nat → Int32, (∀ j, j < 2 ^ n → cd_G n s l r c2 j) → post (nI n, 1, sh, lf, ri, c2, ty)) : wpY_work post (nI n, 0, sh, lf, ri, fo, ty) := by
  have hn := H.1
  have h2 : 0 < 2 ^ n := Nat.two_pow_pos n
  have e : cd_b n - 1 = nI (2 ^ n) + (-1) := by
    rw [cd_fullN n hn]
    obtain ⟨p, hp⟩ : ∃ p, 2 ^ n = p + 1 := ⟨2 ^ n - 1, by omega⟩
    rw [hp, pk_m1, Nat.add_sub_cancel]
  unfold wpY_work
  exact br_t rfl (nm_r e ⟨2 ^ n + 1, cy_22 H k (2 ^ n) fo (Nat.le_refl _) (fun j h1 h3 => absurd h3 (by omega))⟩)
theorem cy_work {post : SY → Prop} {co : Nat → Int32} (H : cd_Ly n s l r sh lf ri) (hG : ∀ j, j < 2 ^ n → cd_G n s l r co j) (hK : kn = 0 ∨ (¬ kn = 0 ∧ ∀ j, j < 2 ^ n → fo j = co j))
    (k : ∀ (k2 : Int32) (c2 : Nat → Int32), ¬ k2 = 0 → (∀ j, j < 2 ^ n → c2 j = co j) → post (nI n, k2, sh, lf, ri, c2, ty)) : wpY_work post (nI n, kn, sh, lf, ri, fo, ty) := by
  rcases hK with e | e
  · subst e
    exact cy_work0 H (fun c2 h => k 1 c2 (by decide) (fun j hj => cd_uniq H.2.2.2.2.2.2.2 h hG (2 ^ n) j hj (by omega)))
  · unfold wpY_work
    exact br_f e.1 (k kn fo e.1 e.2)
end
end
section
/-! the relation, finding and putting a formula -/
def cd_I (n : Nat) (s l r : Nat → Nat) (sh lf rt tr co ri : Nat → Int32) : Prop :=
  cd_L n s l r sh lf rt ∧ cd_T n s l r tr ∧ (∀ j, j < 2 ^ n → cd_G n s l r co j) ∧ (∀ j, s j ≠ 3 → ri j = rt j) ∧ (∀ j, s j = 3 → ri j = 0 ∧ r j = l j)
def cd_K (n : Nat) (kn : Int32) (co fo : Nat → Int32) : Prop := kn = 0 ∨ (¬ kn = 0 ∧ ∀ j, j < 2 ^ n → fo j = co j)
def i_Rel (k : Nat) (u : SX) (v : SY) : Prop := ∃ (n : Nat) (kn : Int32) (s l r : Nat → Nat) (sh lf rt tr co ri fo ty : Nat → Int32), u = (nI n, sh, lf, rt, tr, co) ∧ v = (nI n, kn, sh, lf, ri, fo, ty) ∧ cd_I n s l r sh lf rt tr co ri ∧ cd_K n kn co fo ∧ 0 ≤ k
theorem cd_rel {k n : Nat} {kn : Int32} {s l r : Nat → Nat} {sh lf rt tr co ri fo ty : Nat → Int32} (h : cd_I n s l r sh lf rt tr co ri) (hk : cd_K n kn co fo) : i_Rel k (nI n, sh, lf, rt, tr, co) (nI n, kn, sh, lf, ri, fo, ty) :=
  ⟨n, kn, s, l, r, sh, lf, rt, tr, co, ri, fo, ty, rfl, rfl, h, hk, Nat.zero_le k⟩
theorem cd_Iy {n : Nat} {s l r : Nat → Nat} {sh lf rt tr co ri : Nat → Int32} (h : cd_I n s l r sh lf rt tr co ri) : cd_Ly n s l r sh lf ri := by
  obtain ⟨⟨hn, hsh, hlf, hrt, hs4, hl, hr, wf⟩, hT, hG, h1, h3⟩ := h
  exact ⟨hn, hsh, hlf, fun j hj => by rw [h1 j (by omega), hrt j], hs4, hl, hr, wf⟩
section
variable {n : Nat} {s l r : Nat → Nat} {kn : Int32} {sh lf rt tr co ri fo ty : Nat → Int32}
theorem cd_find {x1 x2 x3 y3 : Int32} (hn : n < 12) (hm : ∀ j, sh j = x1 → lf j = x2 → (rt j = x3 ↔ ri j = y3)) : ∀ d j, j + d = n →
    (∃ i, i < n ∧ (∀ post : Int32 → SX → Prop, post (nI i) (nI n, sh, lf, rt, tr, co) → wX_numberOf_3 post x1 x2 x3 (nI n) sh lf rt tr co (d + 1) (nI j)) ∧ (∀ post : Int32 → Prop, post (nI i) → wY_find_3 post x1 x2 y3 (nI n) kn sh lf ri fo ty (d + 1) (nI j))) ∨
    ((∀ post : Int32 → SX → Prop, wX_numberOf_3 post x1 x2 x3 (nI n) sh lf rt tr co 1 (nI n) → wX_numberOf_3 post x1 x2 x3 (nI n) sh lf rt tr co (d + 1) (nI j)) ∧ (∀ post : Int32 → Prop, post (-1) → wY_find_3 post x1 x2 y3 (nI n) kn sh lf ri fo ty (d + 1) (nI j))) := by
  intro d
  induction d with
  | zero =>
    intro j hj
    have e : j = n := by omega
    subst e
    exact Or.inr ⟨fun _ h => h, fun _ h => br_t (Int32.le_refl _) h⟩
  | succ d ih =>
    intro j hj
    have hjn : j < n := by omega
    have hle : ¬ nI n ≤ nI j := nI_ge hjn (by omega)
    have vj : vp_in (nI j) 11 := vp_in_nI (by omega) (by omega)
    have cj : (nI j).toNatClampNeg = j := nI_clamp (by omega)
    by_cases h1 : sh j = x1
    · by_cases h2 : lf j = x2
      · by_cases h3 : rt j = x3
        · have h3' := (hm j h1 h2).mp h3
          refine Or.inl ⟨j, hjn, fun post hp => br_f hle ⟨vj, ?_⟩, fun post hp => br_f hle ⟨vj, ?_⟩⟩
          · rw [cj]; exact br_t h1 ⟨vj, br_t h2 ⟨vj, br_t h3 hp⟩⟩
          · rw [cj]; exact br_t h1 ⟨vj, br_t h2 ⟨vj, br_t h3' hp⟩⟩
        · have h3' : ¬ ri j = y3 := fun z => h3 ((hm j h1 h2).mpr z)
          have sx : ∀ post : Int32 → SX → Prop, wX_numberOf_3 post x1 x2 x3 (nI n) sh lf rt tr co (d + 1) (nI (j + 1)) → wX_numberOf_3 post x1 x2 x3 (nI n) sh lf rt tr co (d + 1 + 1) (nI j) := by
            intro post hp
            refine br_f hle ⟨vj, ?_⟩
            rw [cj]; exact br_t h1 ⟨vj, br_t h2 ⟨vj, br_f h3 (nm_r (nI_1 j) hp)⟩⟩
          have sy : ∀ post : Int32 → Prop, wY_find_3 post x1 x2 y3 (nI n) kn sh lf ri fo ty (d + 1) (nI (j + 1)) → wY_find_3 post x1 x2 y3 (nI n) kn sh lf ri fo ty (d + 1 + 1) (nI j) := by
            intro post hp
            refine br_f hle ⟨vj, ?_⟩
            rw [cj]; exact br_t h1 ⟨vj, br_t h2 ⟨vj, br_f h3' (nm_r (nI_1 j) hp)⟩⟩
          rcases ih (j + 1) (by omega) with ⟨i, hi, a, b⟩ | ⟨a, b⟩
          · exact Or.inl ⟨i, hi, fun post hp => sx post (a post hp), fun post hp => sy post (b post hp)⟩
          · exact Or.inr ⟨fun post hp => sx post (a post hp), fun post hp => sy post (b post hp)⟩
      · have sx : ∀ post : Int32 → SX → Prop, wX_numberOf_3 post x1 x2 x3 (nI n) sh lf rt tr co (d + 1) (nI (j + 1)) → wX_numberOf_3 post x1 x2 x3 (nI n) sh lf rt tr co (d + 1 + 1) (nI j) := by
          intro post hp
          refine br_f hle ⟨vj, ?_⟩
          rw [cj]; exact br_t h1 ⟨vj, br_f h2 (nm_r (nI_1 j) hp)⟩
        have sy : ∀ post : Int32 → Prop, wY_find_3 post x1 x2 y3 (nI n) kn sh lf ri fo ty (d + 1) (nI (j + 1)) → wY_find_3 post x1 x2 y3 (nI n) kn sh lf ri fo ty (d + 1 + 1) (nI j) := by
          intro post hp
          refine br_f hle ⟨vj, ?_⟩
          rw [cj]; exact br_t h1 ⟨vj, br_f h2 (nm_r (nI_1 j) hp)⟩
        rcases ih (j + 1) (by omega) with ⟨i, hi, a, b⟩ | ⟨a, b⟩
        · exact Or.inl ⟨i, hi, fun post hp => sx post (a post hp), fun post hp => sy post (b post hp)⟩
        · exact Or.inr ⟨fun post hp => sx post (a post hp), fun post hp => sy post (b post hp)⟩
    · have sx : ∀ post : Int32 → SX → Prop, wX_numberOf_3 post x1 x2 x3 (nI n) sh lf rt tr co (d + 1) (nI (j + 1)) → wX_numberOf_3 post x1 x2 x3 (nI n) sh lf rt tr co (d + 1 + 1) (nI j) := by
        intro post hp
        refine br_f hle ⟨vj, ?_⟩
        rw [cj]; exact br_f h1 (nm_r (nI_1 j) hp)
      have sy : ∀ post : Int32 → Prop, wY_find_3 post x1 x2 y3 (nI n) kn sh lf ri fo ty (d + 1) (nI (j + 1)) → wY_find_3 post x1 x2 y3 (nI n) kn sh lf ri fo ty (d + 1 + 1) (nI j) := by
        intro post hp
        refine br_f hle ⟨vj, ?_⟩
        rw [cj]; exact br_f h1 (nm_r (nI_1 j) hp)
      rcases ih (j + 1) (by omega) with ⟨i, hi, a, b⟩ | ⟨a, b⟩
      · exact Or.inl ⟨i, hi, fun post hp => sx post (a post hp), fun post hp => sy post (b post hp)⟩
      · exact Or.inr ⟨fun post hp => sx post (a post hp), fun post hp => sy post (b post hp)⟩
theorem cx_truth {post : Int32 → Prop} {x y z : Nat} (hx4 : x ≤ 4) (hy : y < 11) (hz : z < 11) (h3 : x = 3 → y < 4)
    (p : ∀ v : Int32, (∀ c, c < 16 → bt v c = cd_tv (cd_u s n x) (cd_u l n y) (cd_u r n z) (fun j => bt (tr j) c) c n) → post v) : wpX_truthOf post (nI n, sh, lf, rt, tr, co) (nI x) (nI y) (nI z) := by
  have cy : (nI y).toNatClampNeg = y := nI_clamp (by omega)
  have cz : (nI z).toNatClampNeg = z := nI_clamp (by omega)
  have vy : vp_in (nI y) 11 := vp_in_nI (by omega) (by omega)
  have vz : vp_in (nI z) 11 := vp_in_nI (by omega) (by omega)
  unfold wpX_truthOf
  unfold cd_tv at p
  rw [cd_us, cd_us, cd_us] at p
  rcases (show x = 0 ∨ x = 1 ∨ x = 2 ∨ x = 3 ∨ x = 4 from by omega) with e | e | e | e | e
  · subst e
    refine br_f (by decide) (br_f (by decide) (br_t rfl ⟨vy, vz, p _ (fun c hc => ?_)⟩))
    rw [cy, cz, if_pos rfl, b_and]
  · subst e
    refine br_f (by decide) (br_f (by decide) (br_f (by decide) (br_t rfl ⟨vy, vz, p _ (fun c hc => ?_)⟩)))
    rw [cy, cz, if_neg (by decide), if_pos rfl, b_or]
  · subst e
    refine br_f (by decide) (br_f (by decide) (br_f (by decide) (br_f (by decide) (br_t rfl ⟨vy, vz, p _ (fun c hc => ?_)⟩))))
    rw [cy, cz, if_neg (by decide), if_neg (by decide), if_pos rfl, cd_imp _ _ hc]
  · subst e
    refine br_f (by decide) (br_f (by decide) (br_f (by decide) (br_f (by decide) (br_f (by decide) (br_t rfl ?_)))))
    have hy4 := h3 rfl
    unfold wpX_truthOfAtom
    rcases (show y = 0 ∨ y = 1 ∨ y = 2 ∨ y = 3 from by omega) with e | e | e | e
    · subst e
      refine br_f (by decide) (br_f (by decide) (br_t rfl (p _ (fun c hc => ?_))))
      rw [if_neg (by decide), if_neg (by decide), if_neg (by decide), if_pos rfl]; exact cd_m0 c hc
    · subst e
      refine br_f (by decide) (br_f (by decide) (br_f (by decide) (br_t rfl (p _ (fun c hc => ?_)))))
      rw [if_neg (by decide), if_neg (by decide), if_neg (by decide), if_pos rfl]; exact cd_m1 c hc
    · subst e
      refine br_f (by decide) (br_f (by decide) (br_f (by decide) (br_f (by decide) (br_t rfl (p _ (fun c hc => ?_))))))
      rw [if_neg (by decide), if_neg (by decide), if_neg (by decide), if_pos rfl]; exact cd_m2 c hc
    · subst e
      refine br_f (by decide) (br_t (by decide) (p _ (fun c hc => ?_)))
      rw [if_neg (by decide), if_neg (by decide), if_neg (by decide), if_pos rfl]; exact cd_m3 c hc
  · subst e
    refine br_f (by decide) (br_t (by decide) (p _ (fun c hc => ?_)))
    rw [if_neg (by decide), if_neg (by decide), if_neg (by decide), if_neg (by decide), b_0]
theorem cd_Lapp {x y z : Nat} (H : cd_L n s l r sh lf rt) (hn : n < 11) (hx4 : x ≤ 4) (hy : y < 11) (hz : z < 11) (hx : x < 3 → y < n ∧ z < n) :
    cd_L (n + 1) (cd_u s n x) (cd_u l n y) (cd_u r n z) (upd sh n (nI x)) (upd lf n (nI y)) (upd rt n (nI z)) := by
  obtain ⟨_, hsh, hlf, hrt, hs4, hl, hr, wf⟩ := H
  refine ⟨by omega, cd_uI hsh n x, cd_uI hlf n y, cd_uI hrt n z, fun j => ?_, fun j => ?_, fun j => ?_, cd_wfapp wf hx⟩
  · by_cases e : j = n
    · subst e; rw [cd_us]; exact hx4
    · rw [cd_un e]; exact hs4 j
  · by_cases e : j = n
    · subst e; rw [cd_us]; exact hy
    · rw [cd_un e]; exact hl j
  · by_cases e : j = n
    · subst e; rw [cd_us]; exact hz
    · rw [cd_un e]; exact hr j
theorem cd_put {k x y z z' : Nat} (H : cd_I n s l r sh lf rt tr co ri) (hK : cd_K n kn co fo) (hx4 : x ≤ 4) (hy : y < 11) (hz : z < 11) (hx : x < 3 → y < n ∧ z < n) (h3 : x = 3 → y < 4 ∧ z = y ∧ z' = 0) (h3' : x ≠ 3 → z' = z) :
    ∃ (a : Int32) (v' : SY), (∀ post : Int32 → SY → Prop, post a v' → wpY_put post (nI n, kn, sh, lf, ri, fo, ty) (nI x) (nI y) (nI z')) ∧ (∀ post : Int32 → SX → Prop, (∀ u', i_Rel k u' v' → post a u') → wpX_numberOf post (nI n, sh, lf, rt, tr, co) (nI x) (nI y) (nI z)) := by
  have hI := H
  obtain ⟨HL, hT, hG, h1, h2⟩ := H
  have hL := HL
  obtain ⟨hn, hsh, hlf, hrt, hs4, hl, hr, wf⟩ := HL
  have hm : ∀ j, sh j = nI x → lf j = nI y → (rt j = nI z ↔ ri j = nI z') := by
    intro j e1 e2
    have es : s j = x := by
      rw [hsh j, nI_eq (by have := hs4 j; omega) (by omega)] at e1
      exact e1
    have el : l j = y := by
      rw [hlf j, nI_eq (by have := hl j; omega) (by omega)] at e2
      exact e2
    by_cases w : x = 3
    · have ⟨_, b, c⟩ := h3 w
      have ⟨d, e⟩ := h2 j (by omega)
      rw [d, hrt j, e, el, b, c]
      exact ⟨fun _ => rfl, fun _ => rfl⟩
    · rw [h1 j (by omega), h3' w]
  rcases cd_find (kn := kn) (fo := fo) (ty := ty) (tr := tr) (co := co) hn hm n 0 (by omega) with ⟨i, hi, a, b⟩ | ⟨a, b⟩
  · refine ⟨nI i, (nI n, kn, sh, lf, ri, fo, ty), fun post hp => ?_, fun post hp => ⟨n + 1, a post (hp _ (cd_rel hI hK))⟩⟩
    unfold wpY_put
    exact ⟨n + 1, b _ (br_f (nI_pos (by omega)) hp)⟩
  · by_cases hf : n = 11
    · refine ⟨-2, (nI n, kn, sh, lf, ri, fo, ty), fun post hp => ?_, fun post hp => ⟨n + 1, a post ?_⟩⟩
      · unfold wpY_put
        refine ⟨n + 1, b _ (br_t (by decide) (br_t (by rw [hf]; rfl) hp))⟩
      · exact br_t (Int32.le_refl _) (br_f (nI_nlt (a := n) (b := 11) (by omega) (by omega)) (hp _ (cd_rel hI hK)))
    · have cn : (nI n).toNatClampNeg = n := nI_clamp (by omega)
      have vn : vp_in (nI n) 11 := vp_in_nI (by omega) (by omega)
      refine ⟨nI (n + 1) - 1, (nI (n + 1), 0, upd sh n (nI x), upd lf n (nI y), upd ri n (nI z'), fo, ty), fun post hp => ?_, fun post hp => ⟨n + 1, a post ?_⟩⟩
      · unfold wpY_put
        refine ⟨n + 1, b _ (br_t (by decide) (br_f (fun e => hf ?_) ?_))⟩
        · exact (nI_eq (a := n) (b := 11) (by omega) (by omega)).mp e
        · rw [cn]
          exact ⟨vn, nm_e ⟨vn, nm_e ⟨vn, nm_e (nm_r (nI_1 n) hp)⟩⟩⟩
      · refine br_t (Int32.le_refl _) (br_t (nI_lt (a := n) (b := 11) (by omega) (by omega)) ?_)
        rw [cn]
        refine ⟨vn, nm_e ⟨vn, nm_e ⟨vn, nm_e (cx_truth (s := s) (l := l) (r := r) hx4 hy hz (fun w => (h3 w).1) (fun v hv => ?_))⟩⟩⟩
        have hL' := cd_Lapp hL (by omega) hx4 hy hz hx
        refine ⟨vn, nm_e (nm_r (nI_1 n) (cx_settle hL' (fun c2 hG2 => hp _ (cd_rel ⟨hL', cd_Tapp wf hT hx hv, hG2, fun j hj => ?_, fun j hj => ?_⟩ (Or.inl rfl)))))⟩
        · by_cases e : j = n
          · subst e
            rw [cd_us] at hj
            rw [pk_us, pk_us, h3' hj]
          · rw [cd_un e] at hj
            rw [pk_un e, pk_un e]
            exact h1 j hj
        · by_cases e : j = n
          · subst e
            rw [cd_us] at hj
            rw [pk_us, cd_us, cd_us, (h3 hj).2.2]
            exact ⟨rfl, (h3 hj).2.1⟩
          · rw [cd_un e] at hj
            rw [pk_un e, cd_un e, cd_un e]
            exact h2 j hj
end
end
section
/-! the owed statements of the list -/
theorem i_up {k : Nat} {u : SX} {v : SY} (h : i_Rel k u v) : i_Rel (k + 4) u v := by
  obtain ⟨n, kn, s, l, r, sh, lf, rt, tr, co, ri, fo, ty, rfl, rfl, h, hk, _⟩ := h
  exact cd_rel h hk
theorem i_vc0 : wpX_init (fun u => wpY_init (fun v => i_Rel 0 u v)) := by
  show i_Rel 0 (0, (fun _ => 0), (fun _ => 0), (fun _ => 0), (fun _ => 0), (fun _ => 0)) (0, 0, (fun _ => 0), (fun _ => 0), (fun _ => 0), (fun _ => 0), (fun _ => 0))
  refine cd_rel (n := 0) (s := fun _ => 0) (l := fun _ => 0) (r := fun _ => 0) ⟨⟨by decide, fun _ => rfl, fun _ => rfl, fun _ => rfl, fun _ => Nat.zero_le 4, fun _ => (by decide : 0 < 11), fun _ => (by decide : 0 < 11), fun f hf => absurd hf (Nat.not_lt_zero _)⟩, fun f hf => absurd hf (Nat.not_lt_zero _), fun j hj => ?_, fun _ _ => rfl, fun j hj => absurd hj (by decide : ¬ (0 : Nat) = 3)⟩ (Or.inl rfl)
  have e : j = 0 := by
    have : (2 : Nat) ^ 0 = 1 := rfl
    omega
  subst e
  refine ⟨fun g z => ?_, fun f hf => absurd hf (Nat.not_lt_zero _), fun S hS hC g z => ?_, fun g z => ?_⟩
  · rw [Nat.zero_testBit] at z
    exact Bool.noConfusion z
  · have z' : bt 0 g = true := z
    rw [b_0] at z'
    exact Bool.noConfusion z'
  · have z' : bt 0 g = true := z
    rw [b_0] at z'
    exact Bool.noConfusion z'
theorem i_vc_atom {k : Nat} {u : SX} {v : SY} (I : i_Rel k u v) (hk : k + 4 ≤ 2048) (v1 : Int32) : wpX_atom (fun r u' => wpY_atom (fun r' v' => r' = r ∧ i_Rel (k + 4) u' v') v v1) u v1 := by
  have hR := i_up I
  obtain ⟨n, kn, s, l, r, sh, lf, rt, tr, co, ri, fo, ty, rfl, rfl, h, hK, _⟩ := I
  have hn := h.1.1
  rcases pk_ix v1 (n := 4) (by decide) with z | z | ⟨j, hj, rfl⟩
  · unfold wpX_atom wpY_atom
    exact br_t z (br_t z ⟨rfl, hR⟩)
  · have h0 : ¬ v1 < 0 := fun y => by
      have y1 := Int32.lt_iff_toInt_lt.mp y
      have z1 := Int32.le_iff_toInt_le.mp z
      rw [show (nI 4).toInt = 4 from by decide] at z1
      rw [show (0 : Int32).toInt = 0 from by decide] at y1
      omega
    have h4 : ¬ v1 < 4 := fun y => Int32.lt_irrefl (Int32.lt_of_lt_of_le y z)
    have h3 : ¬ v1 ≤ 3 := fun y => by
      have y1 := Int32.le_iff_toInt_le.mp y
      have z1 := Int32.le_iff_toInt_le.mp z
      rw [show (nI 4).toInt = 4 from by decide] at z1
      rw [show (3 : Int32).toInt = 3 from by decide] at y1
      omega
    unfold wpX_atom wpY_atom
    exact br_f h0 (br_f h4 (br_f h0 (br_f h3 ⟨rfl, hR⟩)))
  · have h0 : ¬ nI j < 0 := nI_pos (by omega)
    have h4 : nI j < 4 := nI_lt (b := 4) (by omega) (by decide)
    have h3 : nI j ≤ 3 := nI_le (b := 3) (by omega) (by decide)
    obtain ⟨a, ⟨w1, w2, w3, w4, w5, w6, w7⟩, hY, hX⟩ := cd_put (k := k + 4) (ty := ty) (x := 3) (y := j) (z := j) (z' := 0) h hK (by decide) (by omega) (by omega) (fun w => absurd w (by decide)) (fun _ => ⟨by omega, rfl, rfl⟩) (fun w => absurd rfl w)
    unfold wpX_atom
    refine br_f h0 (br_t h4 (hX _ (fun u' hu => ?_)))
    obtain ⟨a1, a2, a3, a4, a5, a6⟩ := u'
    show wpY_atom _ _ _
    unfold wpY_atom
    exact br_f h0 (br_t h3 (hY _ ⟨rfl, hu⟩))
theorem i_vc_falsum {k : Nat} {u : SX} {v : SY} (I : i_Rel k u v) (hk : k + 4 ≤ 2048) : wpX_falsum (fun r u' => wpY_falsum (fun r' v' => r' = r ∧ i_Rel (k + 4) u' v') v) u := by
  obtain ⟨n, kn, s, l, r, sh, lf, rt, tr, co, ri, fo, ty, rfl, rfl, h, hK, _⟩ := I
  obtain ⟨a, ⟨w1, w2, w3, w4, w5, w6, w7⟩, hY, hX⟩ := cd_put (k := k + 4) (ty := ty) (x := 4) (y := 0) (z := 0) (z' := 0) h hK (by decide) (by omega) (by omega) (fun w => absurd w (by decide)) (fun w => absurd w (by decide)) (fun _ => rfl)
  unfold wpX_falsum
  refine hX _ (fun u' hu => ?_)
  obtain ⟨a1, a2, a3, a4, a5, a6⟩ := u'
  show wpY_falsum _ _
  unfold wpY_falsum
  exact hY _ ⟨rfl, hu⟩
theorem i_vc_join {k : Nat} {u : SX} {v : SY} (I : i_Rel k u v) (hk : k + 4 ≤ 2048) (v1 : Int32) (v2 : Int32) (v3 : Int32) : wpX_join (fun r u' => wpY_join (fun r' v' => r' = r ∧ i_Rel (k + 4) u' v') v v1 v2 v3) u v1 v2 v3 := by
  have hR := i_up I
  obtain ⟨n, kn, s, l, r, sh, lf, rt, tr, co, ri, fo, ty, rfl, rfl, h, hK, _⟩ := I
  have hn := h.1.1
  by_cases z0 : v1 < 0
  · unfold wpX_join wpY_join
    exact br_t z0 (br_t z0 ⟨rfl, hR⟩)
  obtain ⟨x, hx, rfl⟩ := nI_of z0
  by_cases z2 : 2 < nI x
  · unfold wpX_join wpY_join
    exact br_f z0 (br_t z2 (br_f z0 (br_t z2 ⟨rfl, hR⟩)))
  have hx2 : x < 3 := by
    rcases Nat.lt_or_ge x 3 with w | w
    · exact w
    · exact absurd (nI_lt (a := 2) (b := x) (by omega) hx) z2
  have o2 : v2 < 0 ∨ nI n ≤ v2 ∨ ∃ j, j < n ∧ v2 = nI j := pk_ix v2 (by omega)
  have o3 : v3 < 0 ∨ nI n ≤ v3 ∨ ∃ j, j < n ∧ v3 = nI j := pk_ix v3 (by omega)
  by_cases q2 : v2 < 0 ∨ nI n ≤ v2
  · unfold wpX_join wpY_join
    exact br_f z0 (br_f z2 (cx_is0 q2 (br_t rfl (br_f z0 (br_f z2 (cy_is0 q2 (br_t rfl ⟨rfl, hR⟩)))))))
  obtain ⟨i, hi, rfl⟩ : ∃ j, j < n ∧ v2 = nI j := by
    rcases o2 with w | w | w
    · exact absurd (Or.inl w) q2
    · exact absurd (Or.inr w) q2
    · exact w
  by_cases q3 : v3 < 0 ∨ nI n ≤ v3
  · unfold wpX_join wpY_join
    exact br_f z0 (br_f z2 (cx_is1 hn hi (br_f (by decide) (cx_is0 q3 (br_t rfl (br_f z0 (br_f z2 (cy_is1 hn hi (br_f (by decide) (cy_is0 q3 (br_t rfl ⟨rfl, hR⟩)))))))))))
  obtain ⟨j, hj, rfl⟩ : ∃ j, j < n ∧ v3 = nI j := by
    rcases o3 with w | w | w
    · exact absurd (Or.inl w) q3
    · exact absurd (Or.inr w) q3
    · exact w
  obtain ⟨a, ⟨w1, w2, w3, w4, w5, w6, w7⟩, hY, hX⟩ := cd_put (k := k + 4) (ty := ty) (x := x) (y := i) (z := j) (z' := j) h hK (by omega) (by omega) (by omega) (fun _ => ⟨hi, hj⟩) (fun w => by omega) (fun _ => rfl)
  unfold wpX_join
  refine br_f z0 (br_f z2 (cx_is1 hn hi (br_f (by decide) (cx_is1 hn hj (br_f (by decide) (hX _ (fun u' hu => ?_)))))))
  obtain ⟨a1, a2, a3, a4, a5, a6⟩ := u'
  show wpY_join _ _ _ _ _
  unfold wpY_join
  exact br_f z0 (br_f z2 (cy_is1 hn hi (br_f (by decide) (cy_is1 hn hj (br_f (by decide) (hY _ ⟨rfl, hu⟩))))))
theorem i_vc_drop {k : Nat} {u : SX} {v : SY} (I : i_Rel k u v) (hk : k + 4 ≤ 2048) : wpX_drop (fun r u' => wpY_drop (fun r' v' => r' = r ∧ i_Rel (k + 4) u' v') v) u := by
  have hR := i_up I
  obtain ⟨n, kn, s, l, r, sh, lf, rt, tr, co, ri, fo, ty, rfl, rfl, h, hK, _⟩ := I
  obtain ⟨⟨hn, hsh, hlf, hrt, hs4, hl, hr, wf⟩, hT, hG, h1, h2⟩ := h
  cases n with
  | zero =>
    unfold wpX_drop wpY_drop
    exact br_t rfl (br_t rfl ⟨rfl, hR⟩)
  | succ n =>
    have e : ¬ nI (n + 1) = 0 := nI_ne0 (by omega) (by omega)
    have hL : cd_L n s l r sh lf rt := ⟨by omega, hsh, hlf, hrt, hs4, hl, hr, fun f hf => wf f (by omega)⟩
    unfold wpX_drop
    refine br_f e (nm_r (nI_pred n) (cx_settle hL (fun c2 hG2 => ?_)))
    show wpY_drop _ _
    unfold wpY_drop
    exact br_f e (nm_r (nI_pred n) ⟨rfl, cd_rel ⟨hL, fun f hf => hT f (by omega), hG2, h1, h2⟩ (Or.inl rfl)⟩)
theorem i_vc_size {k : Nat} {u : SX} {v : SY} (I : i_Rel k u v) (hk : k + 4 ≤ 2048) : wpX_size (fun r => wpY_size (fun r' => r' = r ∧ i_Rel (k + 4) u v) v) u := by
  have hR := i_up I
  obtain ⟨n, kn, s, l, r, sh, lf, rt, tr, co, ri, fo, ty, rfl, rfl, h, hK, _⟩ := I
  unfold wpX_size wpY_size
  exact ⟨rfl, hR⟩
end
section
/-! the table is read: follows, all, alike -/
theorem cx_hasT {post : Int32 → Prop} {K : Int32} {f : Nat} (hf : f < 32) (h : bt K f = true) (p : post 1) : wpX_has post K (nI f) :=
  cx_has hf (fun _ => p) (fun z => by rw [h] at z; exact Bool.noConfusion z)
theorem cx_hasF {post : Int32 → Prop} {K : Int32} {f : Nat} (hf : f < 32) (h : bt K f = false) (p : post 0) : wpX_has post K (nI f) :=
  cx_has hf (fun z => by rw [h] at z; exact Bool.noConfusion z) (fun _ => p)
theorem cy_hasT {post : Int32 → Prop} {v : SY} {K : Int32} {f : Nat} (hf : f < 32) (h : bt K f = true) (p : post 1) : wpY_has post v K (nI f) :=
  cy_has hf (fun _ => p) (fun z => by rw [h] at z; exact Bool.noConfusion z)
theorem cy_hasF {post : Int32 → Prop} {v : SY} {K : Int32} {f : Nat} (hf : f < 32) (h : bt K f = false) (p : post 0) : wpY_has post v K (nI f) :=
  cy_has hf (fun z => by rw [h] at z; exact Bool.noConfusion z) (fun _ => p)
theorem cd_lst (x : Int32) {n : Nat} (hn : n < 12) : (x < 0 ∨ nI n ≤ x) ∨ ∃ j, j < n ∧ x = nI j := by
  rcases pk_ix x (n := n) (by omega) with w | w | w
  · exact Or.inl (Or.inl w)
  · exact Or.inl (Or.inr w)
  · exact Or.inr w
section
variable {n m : Nat} {s l r : Nat → Nat} {kn : Int32} {sh lf rt tr co ri fo ty : Nat → Int32}
theorem cy_taken {post : Int32 → SY → Prop} {x : Int32} (H : cd_I n s l r sh lf rt tr co ri) (hK : cd_K n kn co fo) (e : x &&& nI (2 ^ n - 1) = nI m)
    (k : ∀ (k2 : Int32) (c2 : Nat → Int32), ¬ k2 = 0 → (∀ j, j < 2 ^ n → c2 j = co j) → post (nI m) (nI n, k2, sh, lf, ri, c2, ty)) : wpY_taken post (nI n, kn, sh, lf, ri, fo, ty) x := by
  unfold wpY_taken
  refine cy_work (cd_Iy H) H.2.2.1 hK (fun k2 c2 h1 h2 => ?_)
  show post (x &&& (cd_b n - 1)) _
  rw [cd_fullN n H.1.1, e]
  exact k k2 c2 h1 h2
end
theorem i_vc_follows {k : Nat} {u : SX} {v : SY} (I : i_Rel k u v) (hk : k + 4 ≤ 2048) (v1 : Int32) (v2 : Int32) : wpX_follows (fun r => wpY_follows (fun r' v' => r' = r ∧ i_Rel (k + 4) u v') v v1 v2) u v1 v2 := by
  have hR := i_up I
  obtain ⟨n, kn, s, l, r, sh, lf, rt, tr, co, ri, fo, ty, rfl, rfl, h, hK, _⟩ := I
  have hn := h.1.1
  have h2 := cd_p2 hn
  rcases cd_lst v2 hn with q | ⟨c, hc, rfl⟩
  · unfold wpX_follows
    refine cx_is0 q (br_t rfl ?_)
    unfold wpY_follows
    exact cy_is0 q (br_t rfl ⟨rfl, hR⟩)
  obtain ⟨m, hm, em⟩ := cd_part v1 hn
  have cm : (nI m).toNatClampNeg = m := nI_clamp (by omega)
  have vm : vp_in (nI m) 2048 := vp_in_nI (by omega) (by omega)
  unfold wpX_follows
  refine cx_is1 hn hc (br_f (by decide) (cx_lp hn em ⟨vm, ?_⟩))
  rw [cm]
  refine cx_has (by omega) (fun z => br_f (by decide) ?_) (fun z => br_t rfl ?_)
  · unfold wpY_follows
    refine cy_is1 hn hc (br_f (by decide) (cy_taken h hK em (fun k2 c2 h3 h4 => ⟨vm, ?_⟩)))
    rw [cm, h4 m hm]
    exact cy_hasT (by omega) z (br_f (by decide) ⟨rfl, cd_rel h (Or.inr ⟨h3, h4⟩)⟩)
  · unfold wpY_follows
    refine cy_is1 hn hc (br_f (by decide) (cy_taken h hK em (fun k2 c2 h3 h4 => ⟨vm, ?_⟩)))
    rw [cm, h4 m hm]
    exact cy_hasF (by omega) z (br_t rfl ⟨rfl, cd_rel h (Or.inr ⟨h3, h4⟩)⟩)
theorem i_vc_all {k : Nat} {u : SX} {v : SY} (I : i_Rel k u v) (hk : k + 4 ≤ 2048) (v1 : Int32) : wpX_all (fun r => wpY_all (fun r' v' => r' = r ∧ i_Rel (k + 4) u v') v v1) u v1 := by
  obtain ⟨n, kn, s, l, r, sh, lf, rt, tr, co, ri, fo, ty, rfl, rfl, h, hK, _⟩ := I
  have hn := h.1.1
  have h2 := cd_p2 hn
  obtain ⟨m, hm, em⟩ := cd_part v1 hn
  have cm : (nI m).toNatClampNeg = m := nI_clamp (by omega)
  have vm : vp_in (nI m) 2048 := vp_in_nI (by omega) (by omega)
  unfold wpX_all
  refine cx_lp hn em ⟨vm, ?_⟩
  rw [cm]
  unfold wpY_all
  refine cy_taken h hK em (fun k2 c2 h3 h4 => ⟨vm, ?_⟩)
  refine ⟨?_, cd_rel h (Or.inr ⟨h3, h4⟩)⟩
  rw [cm, h4 m hm]
theorem i_vc_alike {k : Nat} {u : SX} {v : SY} (I : i_Rel k u v) (hk : k + 4 ≤ 2048) (v1 : Int32) (v2 : Int32) : wpX_alike (fun r => wpY_alike (fun r' v' => r' = r ∧ i_Rel (k + 4) u v') v v1 v2) u v1 v2 := by
  have hR := i_up I
  obtain ⟨n, kn, s, l, r, sh, lf, rt, tr, co, ri, fo, ty, rfl, rfl, h, hK, _⟩ := I
  have hn := h.1.1
  have h2 := cd_p2 hn
  rcases cd_lst v1 hn with q | ⟨i, hi, rfl⟩
  · unfold wpX_alike
    refine cx_is0 q (br_t rfl ?_)
    unfold wpY_alike
    exact cy_is0 q (br_t rfl ⟨rfl, hR⟩)
  rcases cd_lst v2 hn with q | ⟨j, hj, rfl⟩
  · unfold wpX_alike
    refine cx_is1 hn hi (br_f (by decide) (cx_is0 q (br_t rfl ?_)))
    unfold wpY_alike
    exact cy_is1 hn hi (br_f (by decide) (cy_is0 q (br_t rfl ⟨rfl, hR⟩)))
  have pi := cd_p2k hi
  have pj := cd_p2k hj
  have bi : (1 : Int32) <<< (nI i &&& 31) = nI (2 ^ i) := cd_bN i (by omega)
  have bj : (1 : Int32) <<< (nI j &&& 31) = nI (2 ^ j) := cd_bN j (by omega)
  have ci : (nI (2 ^ i)).toNatClampNeg = 2 ^ i := nI_clamp (by omega)
  have cj : (nI (2 ^ j)).toNatClampNeg = 2 ^ j := nI_clamp (by omega)
  have vi : vp_in (nI (2 ^ i)) 2048 := vp_in_nI (by omega) (by omega)
  have vj : vp_in (nI (2 ^ j)) 2048 := vp_in_nI (by omega) (by omega)
  have Y : ∀ (post : Int32 → SY → Prop) (b : Int32), (∀ (k2 : Int32) (c2 : Nat → Int32), ¬ k2 = 0 → (∀ j, j < 2 ^ n → c2 j = co j) → post b (nI n, k2, sh, lf, ri, c2, ty)) → (b = if bt (co (2 ^ i)) j = true ∧ bt (co (2 ^ j)) i = true then 1 else 0) → wpY_alike post (nI n, kn, sh, lf, ri, fo, ty) (nI i) (nI j) := by
    intro post b hp hb
    unfold wpY_alike
    refine cy_is1 hn hi (br_f (by decide) (cy_is1 hn hj (br_f (by decide) (cy_work (cd_Iy h) h.2.2.1 hK (fun k2 c2 h3 h4 => ?_)))))
    have hp' := hp k2 c2 h3 h4
    show vp_in ((1 : Int32) <<< (nI i &&& 31)) 2048 ∧ _
    rw [bi, bj, ci, cj, h4 _ pi, h4 _ pj]
    refine ⟨vi, cy_has (by omega) (fun z => br_f (by decide) ⟨vj, cy_has (by omega) (fun w => br_f (by decide) ?_) (fun w => br_t rfl ?_)⟩) (fun z => br_t rfl ?_)⟩
    · rw [if_pos ⟨z, w⟩] at hb; rw [hb] at hp'; exact hp'
    · rw [if_neg (fun y => by rw [w] at y; exact Bool.noConfusion y.2)] at hb; rw [hb] at hp'; exact hp'
    · rw [if_neg (fun y => by rw [z] at y; exact Bool.noConfusion y.1)] at hb; rw [hb] at hp'; exact hp'
  unfold wpX_alike
  refine cx_is1 hn hi (br_f (by decide) (cx_is1 hn hj (br_f (by decide) ?_)))
  rw [bi, bj, ci, cj]
  refine ⟨vi, cx_has (by omega) (fun z => br_f (by decide) ⟨vj, cx_has (by omega) (fun w => br_f (by decide) ?_) (fun w => br_t rfl ?_)⟩) (fun z => br_t rfl ?_)⟩
  · exact Y _ 1 (fun k2 c2 h3 h4 => ⟨rfl, cd_rel h (Or.inr ⟨h3, h4⟩)⟩) (by rw [if_pos ⟨z, w⟩])
  · exact Y _ 0 (fun k2 c2 h3 h4 => ⟨rfl, cd_rel h (Or.inr ⟨h3, h4⟩)⟩) (by rw [if_neg (fun y => by rw [w] at y; exact Bool.noConfusion y.2)])
  · exact Y _ 0 (fun k2 c2 h3 h4 => ⟨rfl, cd_rel h (Or.inr ⟨h3, h4⟩)⟩) (by rw [if_neg (fun y => by rw [z] at y; exact Bool.noConfusion y.1)])
end
section
/-! saturated sets -/
section
variable {n m : Nat} {s l r : Nat → Nat} {kn : Int32} {sh lf rt tr co ri fo ty : Nat → Int32}
theorem cy_43n {post J : Int32 → Prop} {j : Nat} (H : cd_I n s l r sh lf rt tr co ri) (hj : j < n)
    (h : bt (nI m) j = false ∨ s j ≠ 1 ∨ bt (nI m) (l j) = true ∨ bt (nI m) (r j) = true) (p : J (nI (j + 1))) : wY_isWorld_43 post J (nI m) (nI j) (nI n) kn sh lf ri fo ty := by
  have Hy := cd_Iy H
  obtain ⟨hn, hsh, hlf, hri, hs4, hl, hr, wf⟩ := Hy
  have vj : vp_in (nI j) 11 := vp_in_nI (by omega) (by omega)
  have cj : (nI j).toNatClampNeg = j := nI_clamp (by omega)
  have hl' := hl j
  have hr' := hr j
  have hs' := hs4 j
  unfold wY_isWorld_43
  refine cy_has (by omega) (fun z => br_f (by decide) ⟨vj, ?_⟩) (fun z => br_t rfl (nm_r (nI_1 j) p))
  rw [cj, hsh j, hlf j]
  by_cases e : s j = 1
  · rw [e, hri j (by omega)]
    refine br_t rfl ⟨vj, cy_has (by omega) (fun w => br_f (by decide) (nm_r (nI_1 j) p)) (fun w => br_t rfl ⟨vj, cy_has (by omega) (fun y => br_f (by decide) (nm_r (nI_1 j) p)) (fun y => ?_)⟩)⟩
    rw [z, w, y] at h
    rcases h with h | h | h | h
    · exact Bool.noConfusion h
    · exact absurd e h
    · exact Bool.noConfusion h
    · exact Bool.noConfusion h
  · exact br_f (fun y => e ((nI_eq (a := s j) (b := 1) (by omega) (by decide)).mp y)) (nm_r (nI_1 j) p)
theorem cy_43z {post J : Int32 → Prop} {j : Nat} (H : cd_I n s l r sh lf rt tr co ri) (hj : j < n)
    (h1 : bt (nI m) j = true) (e : s j = 1) (h2 : bt (nI m) (l j) = false) (h3 : bt (nI m) (r j) = false) (p : post 0) : wY_isWorld_43 post J (nI m) (nI j) (nI n) kn sh lf ri fo ty := by
  have Hy := cd_Iy H
  obtain ⟨hn, hsh, hlf, hri, hs4, hl, hr, wf⟩ := Hy
  have vj : vp_in (nI j) 11 := vp_in_nI (by omega) (by omega)
  have cj : (nI j).toNatClampNeg = j := nI_clamp (by omega)
  have hl' := hl j
  have hr' := hr j
  unfold wY_isWorld_43
  refine cy_hasT (by omega) h1 (br_f (by decide) ⟨vj, ?_⟩)
  rw [cj, hsh j, hlf j, e, hri j (by omega)]
  exact br_t rfl ⟨vj, cy_hasF (by omega) h2 (br_t rfl ⟨vj, cy_hasF (by omega) h3 (br_t rfl p)⟩)⟩
theorem cd_sat14 (H : cd_I n s l r sh lf rt tr co ri) : ∀ d j, j + d = n → ∃ b : Int32,
    (∀ post : Int32 → Prop, post b → wX_isSaturated_14 post (nI m) (nI n) sh lf rt tr co (d + 1) (nI j)) ∧ (∀ (kn : Int32) (fo ty : Nat → Int32) (post : Int32 → Prop), post b → wY_isWorld_14 post (nI m) (nI n) kn sh lf ri fo ty (d + 1) (nI j)) := by
  have HI := H
  obtain ⟨⟨hn, hsh, hlf, hrt, hs4, hl, hr, wf⟩, hT, hG, q1, q2⟩ := H
  intro d
  induction d with
  | zero =>
    intro j hj
    have e : j = n := by omega
    subst e
    exact ⟨1, fun _ h => br_t (Int32.le_refl _) h, fun _ _ _ _ h => br_t (Int32.le_refl _) h⟩
  | succ d ih =>
    intro j hj
    have hjn : j < n := by omega
    have hle : ¬ nI n ≤ nI j := nI_ge hjn (by omega)
    have vj : vp_in (nI j) 11 := vp_in_nI (by omega) (by omega)
    have cj : (nI j).toNatClampNeg = j := nI_clamp (by omega)
    have hl' := hl j
    have hr' := hr j
    have hs' := hs4 j
    obtain ⟨b, hX, hY⟩ := ih (j + 1) (by omega)
    cases z : bt (nI m) j
    · exact ⟨b, fun post hp => br_f hle (cx_hasF (by omega) z (br_t rfl (nm_r (nI_1 j) (hX post hp)))), fun kn fo ty post hp => br_f hle (cy_hasF (by omega) z (br_t rfl (cy_43n HI hjn (Or.inl z) (hY kn fo ty post hp))))⟩
    · by_cases e4 : s j = 4
      · refine ⟨0, fun post hp => br_f hle (cx_hasT (by omega) z (br_f (by decide) ⟨vj, ?_⟩)), fun kn fo ty post hp => br_f hle (cy_hasT (by omega) z (br_f (by decide) ⟨vj, ?_⟩))⟩
        · rw [cj, hsh j, e4]; exact br_t rfl hp
        · rw [cj, hsh j, e4]; exact br_t rfl hp
      · have n4 : ¬ nI (s j) = 4 := fun y => e4 ((nI_eq (a := s j) (b := 4) (by omega) (by decide)).mp y)
        have fy : ∀ (kn : Int32) (fo ty : Nat → Int32) (post : Int32 → Prop), wY_isWorld_43 post (wY_isWorld_14 post (nI m) (nI n) kn sh lf ri fo ty (d + 1)) (nI m) (nI j) (nI n) kn sh lf ri fo ty → wY_isWorld_14 post (nI m) (nI n) kn sh lf ri fo ty (d + 1 + 1) (nI j) := by
          intro kn fo ty post hp
          refine br_f hle (cy_hasT (by omega) z (br_f (by decide) ⟨vj, ?_⟩))
          rw [cj, hsh j]
          exact br_f n4 hp
        by_cases e1 : s j = 1
        · cases w : bt (nI m) (l j)
          · cases y : bt (nI m) (r j)
            · refine ⟨0, fun post hp => br_f hle (cx_hasT (by omega) z (br_f (by decide) ⟨vj, ?_⟩)), fun kn fo ty post hp => fy kn fo ty post (cy_43z HI hjn z e1 w y hp)⟩
              rw [cj, hsh j, hlf j, hrt j]
              refine br_f n4 ⟨vj, br_t (by rw [e1]; rfl) ⟨vj, cx_hasF (by omega) w (br_t rfl ⟨vj, cx_hasF (by omega) y (br_t rfl hp)⟩)⟩⟩
            · refine ⟨b, fun post hp => br_f hle (cx_hasT (by omega) z (br_f (by decide) ⟨vj, ?_⟩)), fun kn fo ty post hp => fy kn fo ty post (cy_43n HI hjn (Or.inr (Or.inr (Or.inr y))) (hY kn fo ty post hp))⟩
              rw [cj, hsh j, hlf j, hrt j]
              refine br_f n4 ⟨vj, br_t (by rw [e1]; rfl) ⟨vj, cx_hasF (by omega) w (br_t rfl ⟨vj, cx_hasT (by omega) y (br_f (by decide) (nm_r (nI_1 j) (hX post hp)))⟩)⟩⟩
          · refine ⟨b, fun post hp => br_f hle (cx_hasT (by omega) z (br_f (by decide) ⟨vj, ?_⟩)), fun kn fo ty post hp => fy kn fo ty post (cy_43n HI hjn (Or.inr (Or.inr (Or.inl w))) (hY kn fo ty post hp))⟩
            rw [cj, hsh j, hlf j, hrt j]
            refine br_f n4 ⟨vj, br_t (by rw [e1]; rfl) ⟨vj, cx_hasT (by omega) w (br_f (by decide) (nm_r (nI_1 j) (hX post hp)))⟩⟩
        · have n1 : ¬ nI (s j) = 1 := fun y => e1 ((nI_eq (a := s j) (b := 1) (by omega) (by decide)).mp y)
          refine ⟨b, fun post hp => br_f hle (cx_hasT (by omega) z (br_f (by decide) ⟨vj, ?_⟩)), fun kn fo ty post hp => fy kn fo ty post (cy_43n HI hjn (Or.inr (Or.inl e1)) (hY kn fo ty post hp))⟩
          rw [cj, hsh j, hlf j, hrt j]
          exact br_f n4 ⟨vj, br_f n1 (nm_r (nI_1 j) (hX post hp))⟩
theorem cd_sat (H : cd_I n s l r sh lf rt tr co ri) (hm : m < 2 ^ n) : ∃ b : Int32,
    (∀ post : Int32 → Prop, post b → wpX_isSaturated post (nI n, sh, lf, rt, tr, co) (nI m)) ∧ (∀ (kn : Int32) (fo ty : Nat → Int32), fo m = co m → ∀ post : Int32 → Prop, post b → wpY_isWorld post (nI n, kn, sh, lf, ri, fo, ty) (nI m)) := by
  have hn := H.1.1
  have h2 := cd_p2 hn
  have cm : (nI m).toNatClampNeg = m := nI_clamp (by omega)
  have vm : vp_in (nI m) 2048 := vp_in_nI (by omega) (by omega)
  by_cases e : co m = nI m
  · obtain ⟨b, hX, hY⟩ := cd_sat14 (m := m) H n 0 (by omega)
    refine ⟨b, fun post hp => ?_, fun kn fo ty hfo post hp => ?_⟩
    · unfold wpX_isSaturated
      refine ⟨vm, ?_⟩
      rw [cm]
      exact br_t e ⟨n + 1, hX post hp⟩
    · unfold wpY_isWorld
      refine ⟨vm, ?_⟩
      rw [cm, hfo]
      exact br_t e ⟨n + 1, hY kn fo ty post hp⟩
  · refine ⟨0, fun post hp => ?_, fun kn fo ty hfo post hp => ?_⟩
    · unfold wpX_isSaturated
      refine ⟨vm, ?_⟩
      rw [cm]
      exact br_f e hp
    · unfold wpY_isWorld
      refine ⟨vm, ?_⟩
      rw [cm, hfo]
      exact br_f e hp
theorem cd_wor (H : cd_I n s l r sh lf rt tr co ri) : ∀ d j (c : Int32), j + d = 2 ^ n → ∃ b : Int32,
    (∀ post : Int32 → Prop, post b → wX_worlds_4 post (nI n) sh lf rt tr co (d + 1) c (nI j)) ∧ (∀ (kn : Int32) (fo ty : Nat → Int32), (∀ i, i < 2 ^ n → fo i = co i) → ∀ post : Int32 → SY → Prop, post b (nI n, kn, sh, lf, ri, fo, ty) → wY_worlds_8 post (nI n) kn sh lf ri fo ty (d + 1) c (nI j)) := by
  have hn := H.1.1
  have h2 := cd_p2 hn
  have bn : (1 : Int32) <<< (nI n &&& 31) = nI (2 ^ n) := cd_bN n hn
  intro d
  induction d with
  | zero =>
    intro j c hj
    have e : j = 2 ^ n := by omega
    subst e
    have hle : (1 : Int32) <<< (nI n &&& 31) ≤ nI (2 ^ n) := by rw [bn]; exact Int32.le_refl _
    exact ⟨c, fun _ h => br_t hle h, fun _ _ _ _ _ h => br_t hle h⟩
  | succ d ih =>
    intro j c hj
    have hle : ¬ (1 : Int32) <<< (nI n &&& 31) ≤ nI j := by rw [bn]; exact nI_ge (by omega) (by omega)
    obtain ⟨t, tX, tY⟩ := cd_sat (m := j) H (by omega)
    by_cases e : t = 0
    · obtain ⟨b, hX, hY⟩ := ih (j + 1) c (by omega)
      exact ⟨b, fun post hp => br_f hle (tX _ (br_t e (nm_r (nI_1 j) (hX post hp)))), fun kn fo ty hf post hp => br_f hle (tY kn fo ty (hf j (by omega)) _ (br_t e (nm_r (nI_1 j) (hY kn fo ty hf post hp))))⟩
    · obtain ⟨b, hX, hY⟩ := ih (j + 1) (c + 1) (by omega)
      exact ⟨b, fun post hp => br_f hle (tX _ (br_f e (nm_e (nm_r (nI_1 j) (hX post hp))))), fun kn fo ty hf post hp => br_f hle (tY kn fo ty (hf j (by omega)) _ (br_f e (nm_e (nm_r (nI_1 j) (hY kn fo ty hf post hp)))))⟩
theorem cd_clo (H : cd_I n s l r sh lf rt tr co ri) : ∀ d j (c : Int32), j + d = 2 ^ n → ∃ b : Int32,
    (∀ post : Int32 → Prop, post b → wX_closedSets_4 post (nI n) sh lf rt tr co (d + 1) c (nI j)) ∧ (∀ (kn : Int32) (fo ty : Nat → Int32), (∀ i, i < 2 ^ n → fo i = co i) → ∀ post : Int32 → SY → Prop, post b (nI n, kn, sh, lf, ri, fo, ty) → wY_closedSets_8 post (nI n) kn sh lf ri fo ty (d + 1) c (nI j)) := by
  have hn := H.1.1
  have h2 := cd_p2 hn
  have bn : (1 : Int32) <<< (nI n &&& 31) = nI (2 ^ n) := cd_bN n hn
  intro d
  induction d with
  | zero =>
    intro j c hj
    have e : j = 2 ^ n := by omega
    subst e
    have hle : (1 : Int32) <<< (nI n &&& 31) ≤ nI (2 ^ n) := by rw [bn]; exact Int32.le_refl _
    exact ⟨c, fun _ h => br_t hle h, fun _ _ _ _ _ h => br_t hle h⟩
  | succ d ih =>
    intro j c hj
    have hle : ¬ (1 : Int32) <<< (nI n &&& 31) ≤ nI j := by rw [bn]; exact nI_ge (by omega) (by omega)
    have cj : (nI j).toNatClampNeg = j := nI_clamp (by omega)
    have vj : vp_in (nI j) 2048 := vp_in_nI (by omega) (by omega)
    by_cases e : co j = nI j
    · obtain ⟨b, hX, hY⟩ := ih (j + 1) (c + 1) (by omega)
      refine ⟨b, fun post hp => br_f hle ⟨vj, ?_⟩, fun kn fo ty hf post hp => br_f hle ⟨vj, ?_⟩⟩
      · rw [cj]; exact br_t e (nm_e (nm_r (nI_1 j) (hX post hp)))
      · rw [cj, hf j (by omega)]; exact br_t e (nm_e (nm_r (nI_1 j) (hY kn fo ty hf post hp)))
    · obtain ⟨b, hX, hY⟩ := ih (j + 1) c (by omega)
      refine ⟨b, fun post hp => br_f hle ⟨vj, ?_⟩, fun kn fo ty hf post hp => br_f hle ⟨vj, ?_⟩⟩
      · rw [cj]; exact br_f e (nm_r (nI_1 j) (hX post hp))
      · rw [cj, hf j (by omega)]; exact br_f e (nm_r (nI_1 j) (hY kn fo ty hf post hp))
theorem cd_aga {x3 : Int32} {c : Nat} (H : cd_I n s l r sh lf rt tr co ri) (hc : c < n) : ∀ d j, j + d = 2 ^ n → ∃ b : Int32,
    (∀ post : Int32 → Prop, post b → wX_against_19 post (nI c) x3 (nI n) sh lf rt tr co (d + 1) (nI j)) ∧ (∀ (kn : Int32) (fo ty : Nat → Int32), (∀ i, i < 2 ^ n → fo i = co i) → ∀ post : Int32 → SY → Prop, post b (nI n, kn, sh, lf, ri, fo, ty) → wY_against_19 post (nI c) x3 (nI n) kn sh lf ri fo ty (d + 1) (nI j)) := by
  have hn := H.1.1
  have h2 := cd_p2 hn
  have bn : (1 : Int32) <<< (nI n &&& 31) = nI (2 ^ n) := cd_bN n hn
  intro d
  induction d with
  | zero =>
    intro j hj
    have e : j = 2 ^ n := by omega
    subst e
    have hle : (1 : Int32) <<< (nI n &&& 31) ≤ nI (2 ^ n) := by rw [bn]; exact Int32.le_refl _
    exact ⟨-4, fun _ h => br_t hle h, fun _ _ _ _ _ h => br_t hle h⟩
  | succ d ih =>
    intro j hj
    have hle : ¬ (1 : Int32) <<< (nI n &&& 31) ≤ nI j := by rw [bn]; exact nI_ge (by omega) (by omega)
    obtain ⟨t, tX, tY⟩ := cd_sat (m := j) H (by omega)
    obtain ⟨b, hX, hY⟩ := ih (j + 1) (by omega)
    by_cases e : (x3 &&& (nI j ^^^ (-1))) = 0
    · cases z : bt (nI j) c
      · by_cases w : t = 0
        · exact ⟨b, fun post hp => br_f hle (br_t e (cx_hasF (by omega) z (br_t rfl (tX _ (br_t w (nm_r (nI_1 j) (hX post hp))))))), fun kn fo ty hf post hp => br_f hle (br_t e (cy_hasF (by omega) z (br_t rfl (tY kn fo ty (hf j (by omega)) _ (br_t w (nm_r (nI_1 j) (hY kn fo ty hf post hp)))))))⟩
        · exact ⟨nI j, fun post hp => br_f hle (br_t e (cx_hasF (by omega) z (br_t rfl (tX _ (br_f w hp))))), fun kn fo ty hf post hp => br_f hle (br_t e (cy_hasF (by omega) z (br_t rfl (tY kn fo ty (hf j (by omega)) _ (br_f w hp)))))⟩
      · exact ⟨b, fun post hp => br_f hle (br_t e (cx_hasT (by omega) z (br_f (by decide) (nm_r (nI_1 j) (hX post hp))))), fun kn fo ty hf post hp => br_f hle (br_t e (cy_hasT (by omega) z (br_f (by decide) (nm_r (nI_1 j) (hY kn fo ty hf post hp)))))⟩
    · exact ⟨b, fun post hp => br_f hle (br_f e (nm_r (nI_1 j) (hX post hp))), fun kn fo ty hf post hp => br_f hle (br_f e (nm_r (nI_1 j) (hY kn fo ty hf post hp)))⟩
end
theorem i_vc_saturated {k : Nat} {u : SX} {v : SY} (I : i_Rel k u v) (hk : k + 4 ≤ 2048) (v1 : Int32) : wpX_saturated (fun r => wpY_saturated (fun r' v' => r' = r ∧ i_Rel (k + 4) u v') v v1) u v1 := by
  obtain ⟨n, kn, s, l, r, sh, lf, rt, tr, co, ri, fo, ty, rfl, rfl, h, hK, _⟩ := I
  have hn := h.1.1
  obtain ⟨m, hm, em⟩ := cd_part v1 hn
  obtain ⟨b, hX, hY⟩ := cd_sat h hm
  unfold wpX_saturated
  refine cx_lp hn em (hX _ ?_)
  by_cases e : b = 0
  · refine br_t e ?_
    unfold wpY_saturated
    exact cy_taken h hK em (fun k2 c2 h3 h4 => hY k2 c2 ty (h4 m hm) _ (br_t e ⟨rfl, cd_rel h (Or.inr ⟨h3, h4⟩)⟩))
  · refine br_f e ?_
    unfold wpY_saturated
    exact cy_taken h hK em (fun k2 c2 h3 h4 => hY k2 c2 ty (h4 m hm) _ (br_f e ⟨rfl, cd_rel h (Or.inr ⟨h3, h4⟩)⟩))
theorem i_vc_worlds {k : Nat} {u : SX} {v : SY} (I : i_Rel k u v) (hk : k + 4 ≤ 2048) : wpX_worlds (fun r => wpY_worlds (fun r' v' => r' = r ∧ i_Rel (k + 4) u v') v) u := by
  obtain ⟨n, kn, s, l, r, sh, lf, rt, tr, co, ri, fo, ty, rfl, rfl, h, hK, _⟩ := I
  obtain ⟨b, hX, hY⟩ := cd_wor h (2 ^ n) 0 0 (by omega)
  unfold wpX_worlds
  refine ⟨2 ^ n + 1, hX _ ?_⟩
  unfold wpY_worlds
  exact cy_work (cd_Iy h) h.2.2.1 hK (fun k2 c2 h3 h4 => ⟨2 ^ n + 1, hY k2 c2 ty h4 _ ⟨rfl, cd_rel h (Or.inr ⟨h3, h4⟩)⟩⟩)
theorem i_vc_closedSets {k : Nat} {u : SX} {v : SY} (I : i_Rel k u v) (hk : k + 4 ≤ 2048) : wpX_closedSets (fun r => wpY_closedSets (fun r' v' => r' = r ∧ i_Rel (k + 4) u v') v) u := by
  obtain ⟨n, kn, s, l, r, sh, lf, rt, tr, co, ri, fo, ty, rfl, rfl, h, hK, _⟩ := I
  obtain ⟨b, hX, hY⟩ := cd_clo h (2 ^ n) 0 0 (by omega)
  unfold wpX_closedSets
  refine ⟨2 ^ n + 1, hX _ ?_⟩
  unfold wpY_closedSets
  exact cy_work (cd_Iy h) h.2.2.1 hK (fun k2 c2 h3 h4 => ⟨2 ^ n + 1, hY k2 c2 ty h4 _ ⟨rfl, cd_rel h (Or.inr ⟨h3, h4⟩)⟩⟩)
theorem i_vc_against {k : Nat} {u : SX} {v : SY} (I : i_Rel k u v) (hk : k + 4 ≤ 2048) (v1 : Int32) (v2 : Int32) : wpX_against (fun r => wpY_against (fun r' v' => r' = r ∧ i_Rel (k + 4) u v') v v1 v2) u v1 v2 := by
  have hR := i_up I
  obtain ⟨n, kn, s, l, r, sh, lf, rt, tr, co, ri, fo, ty, rfl, rfl, h, hK, _⟩ := I
  have hn := h.1.1
  rcases cd_lst v2 hn with q | ⟨c, hc, rfl⟩
  · unfold wpX_against
    refine cx_is0 q (br_t rfl ?_)
    unfold wpY_against
    exact cy_is0 q (br_t rfl ⟨rfl, hR⟩)
  obtain ⟨m, hm, em⟩ := cd_part v1 hn
  obtain ⟨b, hX, hY⟩ := cd_aga (x3 := nI m) h hc (2 ^ n - m) m (by omega)
  unfold wpX_against
  refine cx_is1 hn hc (br_f (by decide) (cx_lp hn em ⟨2 ^ n - m + 1, hX _ ?_⟩))
  unfold wpY_against
  exact cy_is1 hn hc (br_f (by decide) (cy_taken h hK em (fun k2 c2 h3 h4 => ⟨2 ^ n - m + 1, hY k2 c2 ty h4 _ ⟨rfl, cd_rel h (Or.inr ⟨h3, h4⟩)⟩⟩)))
end
section
/-! enough -/
section
variable {n m : Nat} {s l r : Nat → Nat} {kn : Int32} {sh lf rt tr co ri fo ty : Nat → Int32}
theorem cy_cnt4 {post : Int32 → Prop} {K : Int32} (hn : n < 12) (p : post (nI (cd_cn K n))) : ∀ d j, j + d = n → wY_count_4 post K (nI n) kn sh lf ri fo ty (d + 1) (nI (cd_cn K j)) (nI j) := by
  intro d
  induction d with
  | zero =>
    intro j hj
    have e : j = n := by omega
    subst e
    exact br_t (Int32.le_refl _) p
  | succ d ih =>
    intro j hj
    refine br_f (nI_ge (by omega) (by omega)) (nm_r (e' := nI (cd_cn K (j + 1))) ?_ (nm_r (nI_1 j) (ih (j + 1) (by omega))))
    rw [cd_sr (by omega), cd_cnS]
    by_cases z : bt K j = true
    · rw [if_pos z, if_pos z, nI_1]
    · rw [if_neg z, if_neg z, Int32.add_zero, Nat.add_zero]
theorem cy_cnt {post : Int32 → Prop} {K : Int32} (hn : n < 12) (p : post (nI (cd_cn K n))) : wpY_count post (nI n, kn, sh, lf, ri, fo, ty) K := by
  unfold wpY_count
  exact ⟨n + 1, cy_cnt4 hn p n 0 (by omega)⟩
theorem cd_cn11 {j : Nat} (hn : n < 12) (hj : j < 2 ^ n) : cd_cn (nI j) 11 = cd_cn (nI j) n := by
  have h2 := cd_p2 hn
  have h := cd_cnz (K := nI j) (n := n) (fun g z => by rw [cd_btM (by omega)] at z; exact cd_mlt hj z) (11 - n)
  rw [show n + (11 - n) = 11 from by omega] at h
  exact h
theorem cy_66z {post : Int32 → SY → Prop} {J : Int32 → Int32 → Prop} {x2 x3 x4 x6 : Int32} {j : Nat} (p : J x4 (nI (j + 1))) : wY_enough_66 post J x2 x3 x4 (nI j) x6 0 (nI n) kn sh lf ri fo ty := by
  unfold wY_enough_66
  exact br_t rfl (nm_r (nI_1 j) p)
theorem cy_65z {post : Int32 → SY → Prop} {J : Int32 → Int32 → Prop} {x2 x3 x4 x6 : Int32} {j : Nat} (p : J x4 (nI (j + 1))) : wY_enough_65 post J x2 x3 x4 (nI j) x6 (nI n) kn sh lf ri fo ty := by
  unfold wY_enough_65
  exact cy_66z p
theorem cd_eno {c : Nat} (H : cd_I n s l r sh lf rt tr co ri) (hm : m < 2 ^ n) (hc : c < n) : ∀ d j (x : Int32), j + d = m + 1 → (x = -4 ∨ ∃ q, q < 12 ∧ x = nI q) → ∃ b : Int32,
    (∀ post : Int32 → Prop, post b → wX_enough_23 post (nI c) (nI m) (nI n) sh lf rt tr co (d + 1) x (nI j)) ∧ (∀ (kn : Int32) (fo ty : Nat → Int32), (∀ i, i < 2 ^ n → fo i = co i) → ∀ post : Int32 → SY → Prop, post b (nI n, kn, sh, lf, ri, fo, ty) → wY_enough_23 post (nI c) (nI m) (nI n) kn sh lf ri fo ty (d + 1) x (nI j)) := by
  have hn := H.1.1
  have h2 := cd_p2 hn
  intro d
  induction d with
  | zero =>
    intro j x hj hx
    have hlt : nI m < nI j := nI_lt (by omega) (by omega)
    exact ⟨x, fun _ h => br_t hlt h, fun _ _ _ _ _ h => br_t hlt h⟩
  | succ d ih =>
    intro j x hj hx
    have hlt : ¬ nI m < nI j := nI_nlt (by omega) (by omega)
    have cj : (nI j).toNatClampNeg = j := nI_clamp (by omega)
    have vj : vp_in (nI j) 2048 := vp_in_nI (by omega) (by omega)
    have e11 := cd_cn11 (j := j) hn (by omega)
    have hq := cd_cnle (nI j) n
    obtain ⟨b, hX, hY⟩ := ih (j + 1) x (by omega) hx
    by_cases e : (nI j &&& (nI m ^^^ (-1))) = 0
    · cases z : bt (co j) c
      · refine ⟨b, fun post hp => br_f hlt (br_t e ⟨vj, ?_⟩), fun kn fo ty hf post hp => br_f hlt (cy_cnt hn (br_t e ⟨vj, ?_⟩))⟩
        · rw [cj]; exact cx_hasF (by omega) z (br_t rfl (nm_r (nI_1 j) (hX post hp)))
        · rw [cj, hf j (by omega)]; exact cy_hasF (by omega) z (br_t rfl (cy_65z (hY kn fo ty hf post hp)))
      · obtain ⟨b', hX', hY'⟩ := ih (j + 1) (nI (cd_cn (nI j) n)) (by omega) (Or.inr ⟨_, by omega, rfl⟩)
        rcases hx with hx | ⟨q, hq12, hx⟩
        · refine ⟨b', fun post hp => br_f hlt (br_t e ⟨vj, ?_⟩), fun kn fo ty hf post hp => br_f hlt (cy_cnt hn (br_t e ⟨vj, ?_⟩))⟩
          · rw [cj]
            refine cx_hasT (by omega) z (br_f (by decide) (cx_mem (br_t hx (nm_r (nI_1 j) ?_))))
            rw [e11]; exact hX' post hp
          · rw [cj, hf j (by omega)]
            refine cy_hasT (by omega) z (br_f (by decide) ?_)
            unfold wY_enough_66
            exact br_f (by decide) (br_t (by rw [hx]; decide) (nm_r (nI_1 j) (hY' kn fo ty hf post hp)))
        · have nx0 : ¬ x < 0 := by rw [hx]; exact nI_pos (by omega)
          have nx4 : ¬ x = -4 := fun w => nx0 (by rw [w]; decide)
          by_cases w : x ≤ nI (cd_cn (nI j) n)
          · refine ⟨b, fun post hp => br_f hlt (br_t e ⟨vj, ?_⟩), fun kn fo ty hf post hp => br_f hlt (cy_cnt hn (br_t e ⟨vj, ?_⟩))⟩
            · rw [cj]
              refine cx_hasT (by omega) z (br_f (by decide) (cx_mem (br_f nx4 ?_)))
              rw [e11]
              exact br_t w (nm_r (nI_1 j) (hX post hp))
            · rw [cj, hf j (by omega)]
              refine cy_hasT (by omega) z (br_f (by decide) ?_)
              unfold wY_enough_66
              exact br_f (by decide) (br_f nx0 (br_t w (nm_r (nI_1 j) (hY kn fo ty hf post hp))))
          · refine ⟨b', fun post hp => br_f hlt (br_t e ⟨vj, ?_⟩), fun kn fo ty hf post hp => br_f hlt (cy_cnt hn (br_t e ⟨vj, ?_⟩))⟩
            · rw [cj]
              refine cx_hasT (by omega) z (br_f (by decide) (cx_mem (br_f nx4 ?_)))
              rw [e11]
              exact br_f w (nm_r (nI_1 j) (hX' post hp))
            · rw [cj, hf j (by omega)]
              refine cy_hasT (by omega) z (br_f (by decide) ?_)
              unfold wY_enough_66
              exact br_f (by decide) (br_f nx0 (br_f w (nm_r (nI_1 j) (hY' kn fo ty hf post hp))))
    · exact ⟨b, fun post hp => br_f hlt (br_f e (nm_r (nI_1 j) (hX post hp))), fun kn fo ty hf post hp => br_f hlt (cy_cnt hn (br_f e (cy_65z (hY kn fo ty hf post hp))))⟩
end
theorem i_vc_enough {k : Nat} {u : SX} {v : SY} (I : i_Rel k u v) (hk : k + 4 ≤ 2048) (v1 : Int32) (v2 : Int32) : wpX_enough (fun r => wpY_enough (fun r' v' => r' = r ∧ i_Rel (k + 4) u v') v v1 v2) u v1 v2 := by
  have hR := i_up I
  obtain ⟨n, kn, s, l, r, sh, lf, rt, tr, co, ri, fo, ty, rfl, rfl, h, hK, _⟩ := I
  have hn := h.1.1
  rcases cd_lst v2 hn with q | ⟨c, hc, rfl⟩
  · unfold wpX_enough
    refine cx_is0 q (br_t rfl ?_)
    unfold wpY_enough
    exact cy_is0 q (br_t rfl ⟨rfl, hR⟩)
  obtain ⟨m, hm, em⟩ := cd_part v1 hn
  obtain ⟨b, hX, hY⟩ := cd_eno h hm hc (m + 1) 0 (-4) (by omega) (Or.inl rfl)
  unfold wpX_enough
  refine cx_is1 hn hc (br_f (by decide) (cx_lp hn em ⟨m + 1 + 1, hX _ ?_⟩))
  unfold wpY_enough
  exact cy_is1 hn hc (br_f (by decide) (cy_taken h hK em (fun k2 c2 h3 h4 => ⟨m + 1 + 1, hY k2 c2 ty h4 _ ⟨rfl, cd_rel h (Or.inr ⟨h3, h4⟩)⟩⟩)))
end
section
/-! classically -/
def cd_ok (n : Nat) (x : Int32) (tr : Nat → Int32) (c ch : Nat) : Prop := cd_al x (fun f => bt (tr f) ch) n = true → bt (tr c) ch = true
section
variable {n : Nat} {s l r : Nat → Nat} {kn : Int32} {sh lf rt tr co ri fo ty : Nat → Int32}
theorem cx_cla {post : Int32 → Prop} {x : Int32} {c : Nat} (hn : n < 12) (hc : c < n) (p1 : (∀ ch, ch < 16 → cd_ok n x tr c ch) → post 1) (p0 : ¬ (∀ ch, ch < 16 → cd_ok n x tr c ch) → post 0) :
    ∀ d j (K : Int32), j + d = n → (∀ ch, ch < 16 → bt K ch = cd_al x (fun f => bt (tr f) ch) j) → (∀ g, 16 ≤ g → bt K g = false) → wX_classically_16 post x (nI c) (nI n) sh lf rt tr co (d + 1) K (nI j) := by
  have cc : (nI c).toNatClampNeg = c := nI_clamp (by omega)
  have vc : vp_in (nI c) 11 := vp_in_nI (by omega) (by omega)
  intro d
  induction d with
  | zero =>
    intro j K hj hK hK2
    have e : j = n := by omega
    subst e
    refine br_t (Int32.le_refl _) ⟨vc, ?_⟩
    rw [cc]
    have hiff : (K &&& (tr c ^^^ (-1))) = 0 ↔ ∀ ch, ch < 16 → cd_ok j x tr c ch := by
      rw [cd_cla hK2]
      exact ⟨fun h ch hch z => h ch hch (by rw [hK ch hch]; exact z), fun h ch hch z => h ch hch (by rw [hK ch hch] at z; exact z)⟩
    exact br_c (fun z => p1 (hiff.mp z)) (fun z => p0 (fun y => z (hiff.mpr y)))
  | succ d ih =>
    intro j K hj hK hK2
    have cj : (nI j).toNatClampNeg = j := nI_clamp (by omega)
    have vj : vp_in (nI j) 11 := vp_in_nI (by omega) (by omega)
    refine br_f (nI_ge (by omega) (by omega)) (cx_has (by omega) (fun z => br_f (by decide) ⟨vj, nm_r (e' := K &&& tr j) (by rw [cj]) (nm_r (nI_1 j) (ih (j + 1) _ (by omega) (fun ch hch => ?_) (fun g hg => ?_)))⟩) (fun z => br_t rfl (nm_r (nI_1 j) (ih (j + 1) K (by omega) (fun ch hch => ?_) hK2))))
    · rw [b_and, cd_alS, z, hK ch hch]; rfl
    · rw [b_and, hK2 g hg, Bool.false_and]
    · rw [cd_alS, z, hK ch hch, Bool.not_false, Bool.true_or, Bool.and_true]
theorem cd_nb0 : vp_nar .boolean 0 = 0 := rfl
theorem cd_nb1 : vp_nar .boolean 1 = 1 := rfl
theorem cy_judge {post : SY → Prop} {ch : Nat} (H : cd_Ly n s l r sh lf ri) (hT : cd_T n s l r tr) (hch : ch < 16)
    (k : ∀ t2 : Nat → Int32, (∀ j, j < n → t2 j = if bt (tr j) ch = true then 1 else 0) → post (nI n, kn, sh, lf, ri, fo, t2)) :
    ∀ d i (ty : Nat → Int32), i + d = n → (∀ j, j < i → ty j = if bt (tr j) ch = true then 1 else 0) → wY_judge_2 post (nI ch) (nI n) kn (d + 1) (nI i) sh lf ri fo ty := by
  obtain ⟨hn, hsh, hlf, hri, hs4, hl, hr, wf⟩ := H
  intro d
  induction d with
  | zero =>
    intro i ty hi ht
    have e : i = n := by omega
    subst e
    exact br_t (Int32.le_refl _) (k ty ht)
  | succ d ih =>
    intro i ty hi ht
    have hin : i < n := by omega
    have ci : (nI i).toNatClampNeg = i := nI_clamp (by omega)
    have vi : vp_in (nI i) 11 := vp_in_nI (by omega) (by omega)
    have cl : (nI (l i)).toNatClampNeg = l i := nI_clamp (by have := hl i; omega)
    have cr : (nI (r i)).toNatClampNeg = r i := nI_clamp (by have := hr i; omega)
    have vl : vp_in (nI (l i)) 11 := vp_in_nI (hl i) (by omega)
    have vr : vp_in (nI (r i)) 11 := vp_in_nI (hr i) (by omega)
    have hl' := hl i
    have hs' := hs4 i
    have hTi := hT i hin ch hch
    unfold cd_tv at hTi
    dsimp only at hTi
    have nx : ∀ w : Int32, w = (if bt (tr i) ch = true then 1 else 0) → wY_judge_2 post (nI ch) (nI n) kn (d + 1) (nI (i + 1)) sh lf ri fo (upd ty i w) := by
      intro w hw
      refine ih (i + 1) _ (by omega) (fun j hj => ?_)
      by_cases e : j = i
      · subst e; rw [pk_us, hw]
      · rw [pk_un e]; exact ht j (by omega)
    have nx1 : bt (tr i) ch = true → wY_judge_2 post (nI ch) (nI n) kn (d + 1) (nI (i + 1)) sh lf ri fo (upd ty i (vp_nar .boolean 1)) := fun z => nx _ (by rw [if_pos z]; rfl)
    have nx0 : bt (tr i) ch = false → wY_judge_2 post (nI ch) (nI n) kn (d + 1) (nI (i + 1)) sh lf ri fo (upd ty i (vp_nar .boolean 0)) := fun z => nx _ (by rw [if_neg (by rw [z]; decide)]; rfl)
    refine br_f (nI_ge hin (by omega)) ⟨vi, nm_r (e' := nI (l i)) (by rw [ci, hlf]) ⟨vi, nm_r (e' := ri i) (by rw [ci]) ⟨vi, ?_⟩⟩⟩
    rw [ci, hsh i]
    by_cases e3 : s i = 3
    · rw [if_neg (by omega), if_neg (by omega), if_neg (by omega), if_pos e3] at hTi
      rw [e3]
      refine br_t rfl (cy_has (by omega) (fun z => ⟨vi, nm_e (nm_r (nI_1 i) (nx1 ?_))⟩) (fun z => ⟨vi, nm_e (nm_r (nI_1 i) (nx0 ?_))⟩))
      · rw [hTi, ← cd_btN (by omega)]; exact z
      · rw [hTi, ← cd_btN (by omega)]; exact z
    by_cases e4 : s i = 4
    · rw [if_neg (by omega), if_neg (by omega), if_neg (by omega), if_neg e3] at hTi
      rw [e4]
      exact br_f (by decide) ⟨vi, br_t rfl ⟨vi, nm_e (nm_r (nI_1 i) (nx0 hTi))⟩⟩
    have h3 : s i < 3 := by omega
    have hw := wf i hin h3
    have tl := ht (l i) hw.1
    have tr' := ht (r i) hw.2
    rw [hri i h3, cl, cr]
    by_cases e0 : s i = 0
    · rw [if_pos e0] at hTi
      rw [e0]
      refine br_f (by decide) ⟨vi, br_f (by decide) ⟨vi, br_t rfl ⟨vl, ?_⟩⟩⟩
      cases z : bt (tr (l i)) ch
      · rw [z, if_neg (by decide)] at tl
        refine br_t tl ⟨vi, nm_e (nm_r (nI_1 i) (nx0 ?_))⟩
        rw [hTi, z, Bool.false_and]
      · rw [z, if_pos rfl] at tl
        refine br_f (by rw [tl]; decide) ⟨vr, ?_⟩
        cases w : bt (tr (r i)) ch
        · rw [w, if_neg (by decide)] at tr'
          refine br_t tr' ⟨vi, nm_e (nm_r (nI_1 i) (nx0 ?_))⟩
          rw [hTi, w, Bool.and_false]
        · rw [w, if_pos rfl] at tr'
          refine br_f (by rw [tr']; decide) ⟨vi, nm_e (nm_r (nI_1 i) (nx1 ?_))⟩
          rw [hTi, z, w]; rfl
    rw [if_neg e0] at hTi
    by_cases e1 : s i = 1
    · rw [if_pos e1] at hTi
      rw [e1]
      refine br_f (by decide) ⟨vi, br_f (by decide) ⟨vi, br_f (by decide) ⟨vi, br_t rfl ⟨vl, ?_⟩⟩⟩⟩
      cases z : bt (tr (l i)) ch
      · rw [z, if_neg (by decide)] at tl
        refine br_t tl ⟨vr, ?_⟩
        cases w : bt (tr (r i)) ch
        · rw [w, if_neg (by decide)] at tr'
          refine br_t tr' ⟨vi, nm_e (nm_r (nI_1 i) (nx0 ?_))⟩
          rw [hTi, z, w]; rfl
        · rw [w, if_pos rfl] at tr'
          refine br_f (by rw [tr']; decide) ⟨vi, nm_e (nm_r (nI_1 i) (nx1 ?_))⟩
          rw [hTi, w, Bool.or_true]
      · rw [z, if_pos rfl] at tl
        refine br_f (by rw [tl]; decide) ⟨vi, nm_e (nm_r (nI_1 i) (nx1 ?_))⟩
        rw [hTi, z, Bool.true_or]
    rw [if_neg e1] at hTi
    have e2 : s i = 2 := by omega
    rw [if_pos e2] at hTi
    rw [e2]
    refine br_f (by decide) ⟨vi, br_f (by decide) ⟨vi, br_f (by decide) ⟨vi, br_f (by decide) ⟨vl, ?_⟩⟩⟩⟩
    cases z : bt (tr (l i)) ch
    · rw [z, if_neg (by decide)] at tl
      refine br_t tl ⟨vi, nm_e (nm_r (nI_1 i) (nx1 ?_))⟩
      rw [hTi, z]; rfl
    · rw [z, if_pos rfl] at tl
      refine br_f (by rw [tl]; decide) ⟨vr, ?_⟩
      cases w : bt (tr (r i)) ch
      · rw [w, if_neg (by decide)] at tr'
        refine br_t tr' ⟨vi, nm_e (nm_r (nI_1 i) (nx0 ?_))⟩
        rw [hTi, z, w]; rfl
      · rw [w, if_pos rfl] at tr'
        refine br_f (by rw [tr']; decide) ⟨vi, nm_e (nm_r (nI_1 i) (nx1 ?_))⟩
        rw [hTi, z, w]; rfl
theorem cy_29 {post : Int32 → SY → Prop} {J : Int32 → Int32 → Int32 → (Nat → Int32) → (Nat → Int32) → (Nat → Int32) → (Nat → Int32) → (Nat → Int32) → Prop} {x : Int32} {c ch : Nat} (hn : n < 12) (hc : c < n)
    (ht : ∀ j, j < n → ty j = if bt (tr j) ch = true then 1 else 0) (kJ : cd_ok n x tr c ch → J (nI (ch + 1)) (nI n) kn sh lf ri fo ty) (k0 : ¬ cd_ok n x tr c ch → post 0 (nI n, kn, sh, lf, ri, fo, ty)) :
    ∀ d i, i + d = n → wY_classically_29 post J x (nI c) (nI ch) (nI n) kn sh lf ri fo ty (d + 1) (if cd_al x (fun f => bt (tr f) ch) i = true then 1 else 0) (nI i) := by
  have cc : (nI c).toNatClampNeg = c := nI_clamp (by omega)
  have vc : vp_in (nI c) 11 := vp_in_nI (by omega) (by omega)
  intro d
  induction d with
  | zero =>
    intro i hi
    have e : i = n := by omega
    subst e
    refine br_t (Int32.le_refl _) ?_
    by_cases z : cd_al x (fun f => bt (tr f) ch) i = true
    · rw [if_pos z]
      refine br_f (by decide) ⟨vc, ?_⟩
      rw [cc, ht c hc]
      by_cases w : bt (tr c) ch = true
      · rw [if_pos w]
        exact br_f (by decide) (nm_r (nI_1 ch) (kJ (fun _ => w)))
      · rw [if_neg w]
        exact br_t rfl (k0 (fun y => w (y z)))
    · rw [if_neg z]
      exact br_t rfl (nm_r (nI_1 ch) (kJ (fun y => absurd y z)))
  | succ d ih =>
    intro i hi
    have hle : ¬ nI n ≤ nI i := nI_ge (by omega) (by omega)
    have ci : (nI i).toNatClampNeg = i := nI_clamp (by omega)
    have vi : vp_in (nI i) 11 := vp_in_nI (by omega) (by omega)
    have h := ih (i + 1) (by omega)
    rw [cd_alS] at h
    by_cases z : cd_al x (fun f => bt (tr f) ch) i = true
    · rw [z, Bool.true_and] at h
      rw [if_pos z]
      refine br_f hle (br_f (by decide) (cy_has (by omega) (fun w => br_f (by decide) ⟨vi, ?_⟩) (fun w => br_t rfl (nm_r (nI_1 i) ?_))))
      · rw [ci, ht i (by omega)]
        by_cases y : bt (tr i) ch = true
        · rw [w, y, if_pos (by decide)] at h
          rw [if_pos y]
          exact br_f (by decide) (nm_r (nI_1 i) h)
        · have y' : bt (tr i) ch = false := by cases e : bt (tr i) ch with
            | false => rfl
            | true => exact absurd e y
          rw [w, y', if_neg (by decide)] at h
          rw [if_neg y]
          exact br_t rfl (nm_r (nI_1 i) h)
      · rw [w, Bool.not_false, Bool.true_or, if_pos rfl] at h
        exact h
    · have z' : cd_al x (fun f => bt (tr f) ch) i = false := by cases e : cd_al x (fun f => bt (tr f) ch) i with
        | false => rfl
        | true => exact absurd e z
      rw [z', Bool.false_and, if_neg (by decide)] at h
      rw [if_neg z]
      exact br_f hle (br_t rfl (nm_r (nI_1 i) h))
theorem cy_12 {post : Int32 → SY → Prop} {x b : Int32} {c : Nat} (H : cd_Ly n s l r sh lf ri) (hT : cd_T n s l r tr) (hc : c < n) (h1 : (∀ ch, ch < 16 → cd_ok n x tr c ch) → b = 1) (h0 : ∀ ch, ch < 16 → ¬ cd_ok n x tr c ch → b = 0)
    (k : ∀ t2 : Nat → Int32, post b (nI n, kn, sh, lf, ri, fo, t2)) :
    ∀ d ch (ty : Nat → Int32), ch + d = 16 → (∀ i, i < ch → cd_ok n x tr c i) → wY_classically_12 post x (nI c) (d + 1) (nI ch) (nI n) kn sh lf ri fo ty := by
  have hn := H.1
  intro d
  induction d with
  | zero =>
    intro ch ty hd hok
    have e : ch = 16 := by omega
    subst e
    refine br_t (Int32.le_refl _) ?_
    have hb := h1 hok
    have hk := k ty
    rw [hb] at hk
    exact hk
  | succ d ih =>
    intro ch ty hd hok
    refine br_f (nI_ge (b := 16) (by omega) (by decide)) ⟨n + 1, cy_judge (ch := ch) H hT (by omega) (fun t2 ht => ?_) n 0 ty (by omega) (fun j hj => absurd hj (Nat.not_lt_zero _))⟩
    refine ⟨n + 1, cy_29 (x := x) (tr := tr) hn hc ht (fun z => ?_) (fun z => ?_) n 0 (by omega)⟩
    · refine ih (ch + 1) t2 (by omega) (fun i hi => ?_)
      by_cases e : i = ch
      · subst e; exact z
      · exact hok i (by omega)
    · have hk := k t2
      rw [h0 ch (by omega) z] at hk
      exact hk
end
theorem i_vc_classically {k : Nat} {u : SX} {v : SY} (I : i_Rel k u v) (hk : k + 4 ≤ 2048) (v1 : Int32) (v2 : Int32) : wpX_classically (fun r => wpY_classically (fun r' v' => r' = r ∧ i_Rel (k + 4) u v') v v1 v2) u v1 v2 := by
  have hR := i_up I
  obtain ⟨n, kn, s, l, r, sh, lf, rt, tr, co, ri, fo, ty, rfl, rfl, h, hK, _⟩ := I
  have hn := h.1.1
  rcases cd_lst v2 hn with q | ⟨c, hc, rfl⟩
  · unfold wpX_classically
    refine cx_is0 q (br_t rfl ?_)
    unfold wpY_classically
    exact cy_is0 q (br_t rfl ⟨rfl, hR⟩)
  unfold wpX_classically
  refine cx_is1 hn hc (br_f (by decide) ⟨n + 1, cx_cla hn hc (fun z => ?_) (fun z => ?_) n 0 65535 (by omega) (fun ch hch => ?_) (fun g hg => ?_)⟩)
  · unfold wpY_classically
    exact cy_is1 hn hc (br_f (by decide) ⟨17, cy_12 (x := v1) (b := 1) (cd_Iy h) h.2.1 hc (fun _ => rfl) (fun ch hch y => absurd (z ch hch) y) (fun t2 => ⟨rfl, cd_rel h hK⟩) 16 0 ty (by omega) (fun i hi => absurd hi (Nat.not_lt_zero _))⟩)
  · unfold wpY_classically
    exact cy_is1 hn hc (br_f (by decide) ⟨17, cy_12 (x := v1) (b := 0) (cd_Iy h) h.2.1 hc (fun y => absurd y z) (fun ch hch y => rfl) (fun t2 => ⟨rfl, cd_rel h hK⟩) 16 0 ty (by omega) (fun i hi => absurd hi (Nat.not_lt_zero _))⟩)
  · rw [b_65535, decide_eq_true hch]; rfl
  · rw [b_65535, decide_eq_false (by omega)]
end
