section
theorem pk_us {f : Nat → Int32} {k : Nat} {x : Int32} : upd f k x k = x := if_pos rfl
theorem pk_un {f : Nat → Int32} {k j : Nat} {x : Int32} (h : j ≠ k) : upd f k x j = f j := if_neg h
theorem pk_uLs {f : Nat → Int64} {k : Nat} {x : Int64} : vp_updL f k x k = x := if_pos rfl
theorem pk_uLn {f : Nat → Int64} {k j : Nat} {x : Int64} (h : j ≠ k) : vp_updL f k x j = f j := if_neg h
theorem pk_sub {a b : Nat} (h : b ≤ a) : nI a - nI b = nI (a - b) := by
  obtain ⟨c, rfl⟩ : ∃ c, a = c + b := ⟨a - b, by omega⟩
  rw [← nI_add, Int32.add_sub_cancel, Nat.add_sub_cancel]
theorem pk_m1 (n : Nat) : nI (n + 1) + (-1) = nI n := by
  rw [← nI_1, Int32.add_assoc, show (1 : Int32) + (-1) = 0 from rfl, Int32.add_zero]
theorem pk_mul (a b : Nat) : nI a * nI b = nI (a * b) := (Int32.ofNat_mul a b).symm
theorem pk_div {a d : Nat} (ha : a < 2 ^ 31) (h0 : 0 < d) (hd : d < 2 ^ 31) : nI a / nI d = nI (a / d) := by
  apply Int32.toInt_inj.mp
  rw [lg_idiv_nonneg (by rw [nI_toInt ha]; omega) (by rw [nI_toInt hd]; omega), nI_toInt ha, nI_toInt hd, nI_toInt (Nat.lt_of_le_of_lt (Nat.div_le_self a d) ha)]
  first | rfl | exact (Int.natCast_ediv _ _).symm
theorem pk_rem {a d : Nat} (ha : a < 2 ^ 31) (h0 : 0 < d) (hd : d < 2 ^ 31) : nI a - nI a / nI d * nI d = nI (a % d) := by
  rw [pk_div ha h0 hd, pk_mul, pk_sub (Nat.div_mul_le_self a d)]
  exact congrArg nI (by have := Nat.div_add_mod' a d; omega)
theorem pk_ix (x : Int32) {n : Nat} (hn : n < 2 ^ 31) : x < 0 ∨ nI n ≤ x ∨ ∃ j : Nat, j < n ∧ x = nI j := by
  by_cases h : x < 0
  · exact Or.inl h
  · obtain ⟨j, hj, rfl⟩ := nI_of h
    by_cases h2 : j < n
    · exact Or.inr (Or.inr ⟨j, h2, rfl⟩)
    · exact Or.inr (Or.inl (nI_le (by omega) hj))
theorem pk_le {x y : Int32} {A B : Prop} (a b : Nat) (f : a ≤ b → A) (g : b < a → B) (hx : x = nI a := by rfl) (hy : y = nI b := by rfl) (ha : a < 2 ^ 31 := by omega) (hb : b < 2 ^ 31 := by omega) : (x ≤ y → A) ∧ (¬ x ≤ y → B) := by
  subst hx hy
  rw [nI_leI ha hb]
  exact ⟨f, fun z => g (by omega)⟩
theorem pk_lt {x y : Int32} {A B : Prop} (a b : Nat) (f : a < b → A) (g : b ≤ a → B) (hx : x = nI a := by rfl) (hy : y = nI b := by rfl) (ha : a < 2 ^ 31 := by omega) (hb : b < 2 ^ 31 := by omega) : (x < y → A) ∧ (¬ x < y → B) := by
  subst hx hy
  rw [nI_ltI ha hb]
  exact ⟨f, fun z => g (by omega)⟩
theorem pk_eq {x y : Int32} {A B : Prop} (a b : Nat) (f : a = b → A) (g : a ≠ b → B) (hx : x = nI a := by rfl) (hy : y = nI b := by rfl) (ha : a < 2 ^ 31 := by omega) (hb : b < 2 ^ 31 := by omega) : (x = y → A) ∧ (¬ x = y → B) := by
  subst hx hy
  rw [nI_eq ha hb]
  exact ⟨f, g⟩
theorem pk_in {x : Int32} (n N : Nat) (h : n < N) (hx : x = nI n := by rfl) (hN : N < 2 ^ 31 := by omega) : vp_in x N := by
  subst hx
  exact vp_in_nI h hN
theorem pk_cl {x : Int32} (n : Nat) (hx : x = nI n := by rfl) (h : n < 2 ^ 31 := by omega) : x.toNatClampNeg = n := by
  subst hx
  exact nI_clamp h
theorem nx_and (a b : Nat) : nI a &&& nI b = nI (a &&& b) := by
  apply Int32.toBitVec_inj.1
  show BitVec.ofNat 32 a &&& BitVec.ofNat 32 b = BitVec.ofNat 32 (a &&& b)
  apply BitVec.eq_of_getLsbD_eq
  intro i hi
  simp [hi]
theorem nx_xor (a b : Nat) : nI a ^^^ nI b = nI (a ^^^ b) := by
  apply Int32.toBitVec_inj.1
  show BitVec.ofNat 32 a ^^^ BitVec.ofNat 32 b = BitVec.ofNat 32 (a ^^^ b)
  apply BitVec.eq_of_getLsbD_eq
  intro i hi
  simp [hi]
theorem nx_or (a b : Nat) : nI a ||| nI b = nI (a ||| b) := by
  apply Int32.toBitVec_inj.1
  show BitVec.ofNat 32 a ||| BitVec.ofNat 32 b = BitVec.ofNat 32 (a ||| b)
  apply BitVec.eq_of_getLsbD_eq
  intro i hi
  simp [hi]
theorem sv_sh1 : ∀ c, c < 31 → (1 : Int32) <<< (nI c &&& 31) = nI (2 ^ c) := by decide +kernel
theorem sv_sbit : ∀ s, s < 64 → ∀ c, c < 6 → (((nI s >>> (nI c &&& 31)) &&& 1) = 1 ↔ s.testBit c = true) := by decide +kernel
theorem sv_bit01 (y : Int32) : y &&& 1 = 0 ∨ y &&& 1 = 1 := by
  have h : (y &&& 1).toBitVec.toNat < 2 := by
    rw [Int32.toBitVec_and, BitVec.toNat_and]
    exact Nat.lt_of_le_of_lt Nat.and_le_right (by decide)
  have e : (y &&& 1).toBitVec.toNat = 0 ∨ (y &&& 1).toBitVec.toNat = 1 := by omega
  rcases e with e | e
  · exact Or.inl (Int32.toBitVec_inj.mp (BitVec.eq_of_toNat_eq (by rw [e]; rfl)))
  · exact Or.inr (Int32.toBitVec_inj.mp (BitVec.eq_of_toNat_eq (by rw [e]; rfl)))
end
section
def sv_rest (g f : Nat) : Nat := g ^^^ (g &&& f)
theorem sv_rest_tb (g f i : Nat) : (sv_rest g f).testBit i = (g.testBit i && !f.testBit i) := by
  unfold sv_rest
  rw [Nat.testBit_xor, Nat.testBit_and]
  cases g.testBit i <;> cases f.testBit i <;> rfl
def sv_sub (a b : Nat) : Prop := ∀ i, a.testBit i = true → b.testBit i = true
theorem sv_sub_le {a b : Nat} (h : sv_sub a b) : a ≤ b := by
  have e : a = a &&& b := by
    apply Nat.eq_of_testBit_eq
    intro i
    rw [Nat.testBit_and]
    have := h i
    revert this
    cases a.testBit i <;> cases b.testBit i <;> simp
  rw [e]
  exact Nat.and_le_right
theorem sv_sub_and {a b : Nat} : a &&& b = b ↔ sv_sub b a := by
  constructor
  · intro h i hi
    have e := congrArg (fun x => x.testBit i) h
    simp only [Nat.testBit_and] at e
    rw [hi] at e
    simpa using e
  · intro h
    apply Nat.eq_of_testBit_eq
    intro i
    rw [Nat.testBit_and]
    have := h i
    revert this
    cases a.testBit i <;> cases b.testBit i <;> simp
theorem sv_sub_rest (g f : Nat) : sv_sub (sv_rest g f) g := by
  intro i h
  rw [sv_rest_tb] at h
  revert h
  cases g.testBit i <;> simp
theorem sv_rest_le (g f : Nat) : sv_rest g f ≤ g := sv_sub_le (sv_sub_rest g f)
theorem sv_rest_mono {a b : Nat} (f : Nat) (h : sv_sub a b) : sv_sub (sv_rest a f) (sv_rest b f) := by
  intro i hi
  rw [sv_rest_tb] at hi ⊢
  have := h i
  revert this hi
  cases a.testBit i <;> cases b.testBit i <;> cases f.testBit i <;> simp
theorem sv_rest_zero (f : Nat) : sv_rest 0 f = 0 := Nat.le_zero.mp (sv_rest_le 0 f)
theorem sv_rest_0 (g : Nat) : sv_rest g 0 = g := by
  unfold sv_rest
  rw [Nat.and_zero, Nat.xor_zero]
theorem sv_disj {a b : Nat} : a &&& b = 0 ↔ ∀ i, a.testBit i = true → b.testBit i = false := by
  constructor
  · intro h i hi
    have e := congrArg (fun x => x.testBit i) h
    simp only [Nat.testBit_and, Nat.zero_testBit] at e
    rw [hi] at e
    simpa using e
  · intro h
    apply Nat.eq_of_testBit_eq
    intro i
    rw [Nat.testBit_and, Nat.zero_testBit]
    have := h i
    revert this
    cases a.testBit i <;> cases b.testBit i <;> simp
theorem sv_ex {a : Nat} (h : a ≠ 0) : ∃ i, a.testBit i = true := by
  obtain ⟨i, hi⟩ := Nat.exists_testBit_of_ne_zero h
  exact ⟨i, hi⟩
theorem sv_rest_or {i P : Nat} (h : i &&& P = 0) : sv_rest (i ||| P) P = i := by
  apply Nat.eq_of_testBit_eq
  intro k
  rw [sv_rest_tb, Nat.testBit_or]
  have := sv_disj.mp h k
  revert this
  cases i.testBit k <;> cases P.testBit k <;> simp
theorem sv_rest_disj (t P : Nat) : sv_rest t P &&& P = 0 := by
  apply sv_disj.mpr
  intro k h
  rw [sv_rest_tb] at h
  revert h
  cases t.testBit k <;> cases P.testBit k <;> simp
theorem sv_or_rest {t P : Nat} (h : t &&& P = P) : sv_rest t P ||| P = t := by
  apply Nat.eq_of_testBit_eq
  intro k
  rw [Nat.testBit_or, sv_rest_tb]
  have := sv_sub_and.mp h k
  revert this
  cases t.testBit k <;> cases P.testBit k <;> simp
theorem sv_or_and (i P : Nat) : (i ||| P) &&& P = P := by
  apply sv_sub_and.mpr
  intro k h
  rw [Nat.testBit_or, h, Bool.or_true]
def sv_cov (M : Nat) (fm : Nat → Nat) : Nat → Nat → Prop
  | 0 => fun g => g = 0
  | k + 1 => fun g => g = 0 ∨ ∃ j, j < M ∧ sv_cov M fm k (sv_rest g (fm j))
theorem sv_cov_mono {M : Nat} {fm : Nat → Nat} : ∀ (k : Nat) {a b : Nat}, sv_sub a b → sv_cov M fm k b → sv_cov M fm k a := by
  intro k
  induction k with
  | zero =>
    intro a b h hb
    have hb : b = 0 := hb
    have := sv_sub_le h
    show a = 0
    omega
  | succ k ih =>
    intro a b h hb
    rcases hb with hb | ⟨j, hj, hc⟩
    · left
      have := sv_sub_le h
      omega
    · exact Or.inr ⟨j, hj, ih (sv_rest_mono (fm j) h) hc⟩
def sv_good (M : Nat) (fm : Nat → Nat) (x : Int32) (g : Nat) : Prop :=
  (∃ k, k ≤ g ∧ x = nI k ∧ sv_cov M fm k g ∧ ∀ k', sv_cov M fm k' g → k ≤ k') ∨ (x = -2 ∧ ∀ k, ¬ sv_cov M fm k g)
theorem sv_good_0 (M : Nat) (fm : Nat → Nat) : sv_good M fm 0 0 :=
  Or.inl ⟨0, Nat.le_refl 0, rfl, rfl, fun _ _ => Nat.zero_le _⟩
def sv_nf (M : Nat) (fm : Nat → Nat) (g i : Nat) (x : Int32) : Prop :=
  (∃ k, k ≤ g ∧ x = nI k ∧ sv_cov M fm k g ∧ ∀ j, j < i → sv_rest g (fm j) ≠ g → ∀ k', sv_cov M fm k' (sv_rest g (fm j)) → k ≤ k' + 1) ∨
  (x = -2 ∧ ∀ j, j < i → sv_rest g (fm j) ≠ g → ∀ k', ¬ sv_cov M fm k' (sv_rest g (fm j)))
theorem sv_nf_0 (M : Nat) (fm : Nat → Nat) (g : Nat) : sv_nf M fm g 0 (-2) :=
  Or.inr ⟨rfl, fun _ h => absurd h (Nat.not_lt_zero _)⟩
theorem sv_nf_same {M : Nat} {fm : Nat → Nat} {g i : Nat} {x : Int32} (e : sv_rest g (fm i) = g) (h : sv_nf M fm g i x) : sv_nf M fm g (i + 1) x := by
  rcases h with ⟨k, h1, h2, h3, h4⟩ | ⟨h1, h2⟩
  · refine Or.inl ⟨k, h1, h2, h3, fun j hj hne => ?_⟩
    by_cases hji : j = i
    · subst hji; exact absurd e hne
    · exact h4 j (by omega) hne
  · refine Or.inr ⟨h1, fun j hj hne => ?_⟩
    by_cases hji : j = i
    · subst hji; exact absurd e hne
    · exact h2 j (by omega) hne
theorem sv_nf_none {M : Nat} {fm : Nat → Nat} {g i : Nat} {x y : Int32} (hy : sv_good M fm y (sv_rest g (fm i))) (hg : g < 64) (e : y = -2) (h : sv_nf M fm g i x) : sv_nf M fm g (i + 1) x := by
  have hn : ∀ k, ¬ sv_cov M fm k (sv_rest g (fm i)) := by
    rcases hy with ⟨k, a, b, _, _⟩ | ⟨_, b⟩
    · have := sv_rest_le g (fm i)
      exact absurd (b.symm.trans e) ((by decide +kernel : ∀ k, k < 64 → ¬ nI k = -2) k (by omega))
    · exact b
  rcases h with ⟨k, h1, h2, h3, h4⟩ | ⟨h1, h2⟩
  · refine Or.inl ⟨k, h1, h2, h3, fun j hj hne => ?_⟩
    by_cases hji : j = i
    · subst hji; exact fun k' hk => absurd hk (hn k')
    · exact h4 j (by omega) hne
  · refine Or.inr ⟨h1, fun j hj hne => ?_⟩
    by_cases hji : j = i
    · subst hji; exact hn
    · exact h2 j (by omega) hne
theorem sv_nf_take {M : Nat} {fm : Nat → Nat} {g i : Nat} {x y : Int32} (hM : i < M) (hy : sv_good M fm y (sv_rest g (fm i))) (hg : g < 64) (hne : ¬ sv_rest g (fm i) = g) (e : ¬ y = -2) (h : sv_nf M fm g i x) :
    (x = -2 → sv_nf M fm g (i + 1) (y + 1)) ∧ (¬ x = -2 → x ≤ y + 1 → sv_nf M fm g (i + 1) x) ∧ (¬ x = -2 → ¬ x ≤ y + 1 → sv_nf M fm g (i + 1) (y + 1)) := by
  rcases hy with ⟨q, q1, q2, q3, q4⟩ | ⟨b, _⟩
  · have hle := sv_rest_le g (fm i)
    have hlt : sv_rest g (fm i) < g := by omega
    have hcov : sv_cov M fm (q + 1) g := Or.inr ⟨i, hM, q3⟩
    have hy1 : y + 1 = nI (q + 1) := by rw [q2, nI_1]
    refine ⟨fun hx => ?_, fun hx hxy => ?_, fun hx hxy => ?_⟩
    · rcases h with ⟨k, h1, h2, h3, h4⟩ | ⟨h1, h2⟩
      · exact absurd (h2.symm.trans hx) ((by decide +kernel : ∀ k, k < 64 → ¬ nI k = -2) k (by omega))
      · refine Or.inl ⟨q + 1, by omega, hy1, hcov, fun j hj hn k' hk => ?_⟩
        by_cases hji : j = i
        · subst hji; have := q4 k' hk; omega
        · exact absurd hk (h2 j (by omega) hn k')
    · rcases h with ⟨k, h1, h2, h3, h4⟩ | ⟨h1, h2⟩
      · rw [hy1, h2, nI_leI (by omega) (by omega)] at hxy
        refine Or.inl ⟨k, h1, h2, h3, fun j hj hn k' hk => ?_⟩
        by_cases hji : j = i
        · subst hji; have := q4 k' hk; omega
        · exact h4 j (by omega) hn k' hk
      · exact absurd h1 hx
    · rcases h with ⟨k, h1, h2, h3, h4⟩ | ⟨h1, h2⟩
      · rw [hy1, h2, nI_leI (by omega) (by omega)] at hxy
        refine Or.inl ⟨q + 1, by omega, hy1, hcov, fun j hj hn k' hk => ?_⟩
        by_cases hji : j = i
        · subst hji; have := q4 k' hk; omega
        · have := h4 j (by omega) hn k' hk; omega
      · exact absurd h1 hx
  · exact absurd b e
theorem sv_nf_end {M : Nat} {fm : Nat → Nat} {g : Nat} {x : Int32} (hg : g ≠ 0) (h : sv_nf M fm g M x) : sv_good M fm x g := by
  rcases h with ⟨k, h1, h2, h3, h4⟩ | ⟨h1, h2⟩
  · refine Or.inl ⟨k, h1, h2, h3, fun k' => ?_⟩
    induction k' with
    | zero => exact fun hc => absurd hc hg
    | succ k' ih =>
      intro hc
      rcases hc with hc | ⟨j, hj, hc⟩
      · exact absurd hc hg
      · by_cases e : sv_rest g (fm j) = g
        · rw [e] at hc; have := ih hc; omega
        · exact h4 j hj e k' hc
  · refine Or.inr ⟨h1, fun k' => ?_⟩
    induction k' with
    | zero => exact hg
    | succ k' ih =>
      intro hc
      rcases hc with hc | ⟨j, hj, hc⟩
      · exact hg hc
      · by_cases e : sv_rest g (fm j) = g
        · rw [e] at hc; exact ih hc
        · exact h2 j hj e k' hc
end
