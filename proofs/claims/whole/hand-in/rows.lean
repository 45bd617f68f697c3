section
theorem pk_us {f : Nat → Int32} {k : Nat} {x : Int32} : upd f k x k = x := if_pos rfl
theorem pk_un {f : Nat → Int32} {k j : Nat} {x : Int32} (h : j ≠ k) : upd f k x j = f j := if_neg h
theorem pk_uLs {f : Nat → Int64} {k : Nat} {x : Int64} : vp_updL f k x k = x := if_pos rfl
theorem pk_uLn {f : Nat → Int64} {k j : Nat} {x : Int64} (h : j ≠ k) : vp_updL f k x j = f j := if_neg h
theorem pk_sub {a b : Nat} (h : b ≤ a) : nI a - nI b = nI (a - b) := by
  obtain ⟨c, rfl⟩ : ∃ c, a = c + b := ⟨a - b, by omega⟩
  rw [← nI_add, Int32.add_sub_cancel, Nat.add_sub_cancel]
theorem pk_m1 (n : Nat) : nI (n + 1) + (-1) = nI n := by
  rw [← nI_1, Int32.add_assoc, show (1 : Int32) + (-1) = 0 from rfl, Int32.add_zero]
theorem pk_mul (a b : Nat) : nI a * nI b = nI (a * b) := (Int32.ofNat_mul a b).symm
theorem pk_div {a d : Nat} (ha : a < 2 ^ 31) (h0 : 0 < d) (hd : d < 2 ^ 31) : nI a / nI d = nI (a / d) := by
  apply Int32.toInt_inj.mp
  rw [lg_idiv_nonneg (by rw [nI_toInt ha]; omega) (by rw [nI_toInt hd]; omega), nI_toInt ha, nI_toInt hd, nI_toInt (Nat.lt_of_le_of_lt (Nat.div_le_self a d) ha)]
  first | rfl | exact (Int.natCast_ediv _ _).symm
theorem pk_rem {a d : Nat} (ha : a < 2 ^ 31) (h0 : 0 < d) (hd : d < 2 ^ 31) : nI a - nI a / nI d * nI d = nI (a % d) := by
  rw [pk_div ha h0 hd, pk_mul, pk_sub (Nat.div_mul_le_self a d)]
  exact congrArg nI (by have := Nat.div_add_mod' a d; omega)
theorem pk_ix (x : Int32) {n : Nat} (hn : n < 2 ^ 31) : x < 0 ∨ nI n ≤ x ∨ ∃ j : Nat, j < n ∧ x = nI j := by
  by_cases h : x < 0
  · exact Or.inl h
  · obtain ⟨j, hj, rfl⟩ := nI_of h
    by_cases h2 : j < n
    · exact Or.inr (Or.inr ⟨j, h2, rfl⟩)
    · exact Or.inr (Or.inl (nI_le (by omega) hj))
theorem pk_le {x y : Int32} {A B : Prop} (a b : Nat) (f : a ≤ b → A) (g : b < a → B) (hx : x = nI a := by rfl) (hy : y = nI b := by rfl) (ha : a < 2 ^ 31 := by omega) (hb : b < 2 ^ 31 := by omega) : (x ≤ y → A) ∧ (¬ x ≤ y → B) := by
  subst hx hy
  rw [nI_leI ha hb]
  exact ⟨f, fun z => g (by omega)⟩
theorem pk_lt {x y : Int32} {A B : Prop} (a b : Nat) (f : a < b → A) (g : b ≤ a → B) (hx : x = nI a := by rfl) (hy : y = nI b := by rfl) (ha : a < 2 ^ 31 := by omega) (hb : b < 2 ^ 31 := by omega) : (x < y → A) ∧ (¬ x < y → B) := by
  subst hx hy
  rw [nI_ltI ha hb]
  exact ⟨f, fun z => g (by omega)⟩
theorem pk_eq {x y : Int32} {A B : Prop} (a b : Nat) (f : a = b → A) (g : a ≠ b → B) (hx : x = nI a := by rfl) (hy : y = nI b := by rfl) (ha : a < 2 ^ 31 := by omega) (hb : b < 2 ^ 31 := by omega) : (x = y → A) ∧ (¬ x = y → B) := by
  subst hx hy
  rw [nI_eq ha hb]
  exact ⟨f, g⟩
theorem pk_in {x : Int32} (n N : Nat) (h : n < N) (hx : x = nI n := by rfl) (hN : N < 2 ^ 31 := by omega) : vp_in x N := by
  subst hx
  exact vp_in_nI h hN
theorem pk_cl {x : Int32} (n : Nat) (hx : x = nI n := by rfl) (h : n < 2 ^ 31 := by omega) : x.toNatClampNeg = n := by
  subst hx
  exact nI_clamp h
theorem nx_and (a b : Nat) : nI a &&& nI b = nI (a &&& b) := by
  apply Int32.toBitVec_inj.1
  show BitVec.ofNat 32 a &&& BitVec.ofNat 32 b = BitVec.ofNat 32 (a &&& b)
  apply BitVec.eq_of_getLsbD_eq
  intro i hi
  simp [hi]
theorem nx_xor (a b : Nat) : nI a ^^^ nI b = nI (a ^^^ b) := by
  apply Int32.toBitVec_inj.1
  show BitVec.ofNat 32 a ^^^ BitVec.ofNat 32 b = BitVec.ofNat 32 (a ^^^ b)
  apply BitVec.eq_of_getLsbD_eq
  intro i hi
  simp [hi]
theorem nx_or (a b : Nat) : nI a ||| nI b = nI (a ||| b) := by
  apply Int32.toBitVec_inj.1
  show BitVec.ofNat 32 a ||| BitVec.ofNat 32 b = BitVec.ofNat 32 (a ||| b)
  apply BitVec.eq_of_getLsbD_eq
  intro i hi
  simp [hi]
theorem sv_sh1 : ∀ c, c < 31 → (1 : Int32) <<< (nI c &&& 31) = nI (2 ^ c) := by decide +kernel
theorem sv_sbit : ∀ s, s < 64 → ∀ c, c < 6 → (((nI s >>> (nI c &&& 31)) &&& 1) = 1 ↔ s.testBit c = true) := by decide +kernel
theorem sv_bit01 (y : Int32) : y &&& 1 = 0 ∨ y &&& 1 = 1 := by
  have h : (y &&& 1).toBitVec.toNat < 2 := by
    rw [Int32.toBitVec_and, BitVec.toNat_and]
    exact Nat.lt_of_le_of_lt Nat.and_le_right (by decide)
  have e : (y &&& 1).toBitVec.toNat = 0 ∨ (y &&& 1).toBitVec.toNat = 1 := by omega
  rcases e with e | e
  · exact Or.inl (Int32.toBitVec_inj.mp (BitVec.eq_of_toNat_eq (by rw [e]; rfl)))
  · exact Or.inr (Int32.toBitVec_inj.mp (BitVec.eq_of_toNat_eq (by rw [e]; rfl)))
end
section
def sv_rest (g f : Nat) : Nat := g ^^^ (g &&& f)
theorem sv_rest_tb (g f i : Nat) : (sv_rest g f).testBit i = (g.testBit i && !f.testBit i) := by
  unfold sv_rest
  rw [Nat.testBit_xor, Nat.testBit_and]
  cases g.testBit i <;> cases f.testBit i <;> rfl
def sv_sub (a b : Nat) : Prop := ∀ i, a.testBit i = true → b.testBit i = true
theorem sv_sub_le {a b : Nat} (h : sv_sub a b) : a ≤ b := by
  have e : a = a &&& b := by
    apply Nat.eq_of_testBit_eq
    intro i
    rw [Nat.testBit_and]
    have := h i
    revert this
    cases a.testBit i <;> cases b.testBit i <;> simp
  rw [e]
  exact Nat.and_le_right
theorem sv_sub_and {a b : Nat} : a &&& b = b ↔ sv_sub b a := by
  constructor
  · intro h i hi
    have e := congrArg (fun x => x.testBit i) h
    simp only [Nat.testBit_and] at e
    rw [hi] at e
    simpa using e
  · intro h
    apply Nat.eq_of_testBit_eq
    intro i
    rw [Nat.testBit_and]
    have := h i
    revert this
    cases a.testBit i <;> cases b.testBit i <;> simp
theorem sv_sub_rest (g f : Nat) : sv_sub (sv_rest g f) g := by
  intro i h
  rw [sv_rest_tb] at h
  revert h
  cases g.testBit i <;> simp
theorem sv_rest_le (g f : Nat) : sv_rest g f ≤ g := sv_sub_le (sv_sub_rest g f)
theorem sv_rest_mono {a b : Nat} (f : Nat) (h : sv_sub a b) : sv_sub (sv_rest a f) (sv_rest b f) := by
  intro i hi
  rw [sv_rest_tb] at hi ⊢
  have := h i
  revert this hi
  cases a.testBit i <;> cases b.testBit i <;> cases f.testBit i <;> simp
theorem sv_rest_zero (f : Nat) : sv_rest 0 f = 0 := Nat.le_zero.mp (sv_rest_le 0 f)
theorem sv_rest_0 (g : Nat) : sv_rest g 0 = g := by
  unfold sv_rest
  rw [Nat.and_zero, Nat.xor_zero]
theorem sv_disj {a b : Nat} : a &&& b = 0 ↔ ∀ i, a.testBit i = true → b.testBit i = false := by
  constructor
  · intro h i hi
    have e := congrArg (fun x => x.testBit i) h
    simp only [Nat.testBit_and, Nat.zero_testBit] at e
    rw [hi] at e
    simpa using e
  · intro h
    apply Nat.eq_of_testBit_eq
    intro i
    rw [Nat.testBit_and, Nat.zero_testBit]
    have := h i
    revert this
    cases a.testBit i <;> cases b.testBit i <;> simp
theorem sv_ex {a : Nat} (h : a ≠ 0) : ∃ i, a.testBit i = true := by
  obtain ⟨i, hi⟩ := Nat.exists_testBit_of_ne_zero h
  exact ⟨i, hi⟩
theorem sv_rest_or {i P : Nat} (h : i &&& P = 0) : sv_rest (i ||| P) P = i := by
  apply Nat.eq_of_testBit_eq
  intro k
  rw [sv_rest_tb, Nat.testBit_or]
  have := sv_disj.mp h k
  revert this
  cases i.testBit k <;> cases P.testBit k <;> simp
theorem sv_rest_disj (t P : Nat) : sv_rest t P &&& P = 0 := by
  apply sv_disj.mpr
  intro k h
  rw [sv_rest_tb] at h
  revert h
  cases t.testBit k <;> cases P.testBit k <;> simp
theorem sv_or_rest {t P : Nat} (h : t &&& P = P) : sv_rest t P ||| P = t := by
  apply Nat.eq_of_testBit_eq
  intro k
  rw [Nat.testBit_or, sv_rest_tb]
  have := sv_sub_and.mp h k
  revert this
  cases t.testBit k <;> cases P.testBit k <;> simp
theorem sv_or_and (i P : Nat) : (i ||| P) &&& P = P := by
  apply sv_sub_and.mpr
  intro k h
  rw [Nat.testBit_or, h, Bool.or_true]
def sv_cov (M : Nat) (fm : Nat → Nat) : Nat → Nat → Prop
  | 0 => fun g => g = 0
  | k + 1 => fun g => g = 0 ∨ ∃ j, j < M ∧ sv_cov M fm k (sv_rest g (fm j))
theorem sv_cov_mono {M : Nat} {fm : Nat → Nat} : ∀ (k : Nat) {a b : Nat}, sv_sub a b → sv_cov M fm k b → sv_cov M fm k a := by
  intro k
  induction k with
  | zero =>
    intro a b h hb
    have hb : b = 0 := hb
    have := sv_sub_le h
    show a = 0
    omega
  | succ k ih =>
    intro a b h hb
    rcases hb with hb | ⟨j, hj, hc⟩
    · left
      have := sv_sub_le h
      omega
    · exact Or.inr ⟨j, hj, ih (sv_rest_mono (fm j) h) hc⟩
def sv_good (M : Nat) (fm : Nat → Nat) (x : Int32) (g : Nat) : Prop :=
  (∃ k, k ≤ g ∧ x = nI k ∧ sv_cov M fm k g ∧ ∀ k', sv_cov M fm k' g → k ≤ k') ∨ (x = -2 ∧ ∀ k, ¬ sv_cov M fm k g)
theorem sv_good_0 (M : Nat) (fm : Nat → Nat) : sv_good M fm 0 0 :=
  Or.inl ⟨0, Nat.le_refl 0, rfl, rfl, fun _ _ => Nat.zero_le _⟩
def sv_nf (M : Nat) (fm : Nat → Nat) (g i : Nat) (x : Int32) : Prop :=
  (∃ k, k ≤ g ∧ x = nI k ∧ sv_cov M fm k g ∧ ∀ j, j < i → sv_rest g (fm j) ≠ g → ∀ k', sv_cov M fm k' (sv_rest g (fm j)) → k ≤ k' + 1) ∨
  (x = -2 ∧ ∀ j, j < i → sv_rest g (fm j) ≠ g → ∀ k', ¬ sv_cov M fm k' (sv_rest g (fm j)))
theorem sv_nf_0 (M : Nat) (fm : Nat → Nat) (g : Nat) : sv_nf M fm g 0 (-2) :=
  Or.inr ⟨rfl, fun _ h => absurd h (Nat.not_lt_zero _)⟩
theorem sv_nf_same {M : Nat} {fm : Nat → Nat} {g i : Nat} {x : Int32} (e : sv_rest g (fm i) = g) (h : sv_nf M fm g i x) : sv_nf M fm g (i + 1) x := by
  rcases h with ⟨k, h1, h2, h3, h4⟩ | ⟨h1, h2⟩
  · refine Or.inl ⟨k, h1, h2, h3, fun j hj hne => ?_⟩
    by_cases hji : j = i
    · subst hji; exact absurd e hne
    · exact h4 j (by omega) hne
  · refine Or.inr ⟨h1, fun j hj hne => ?_⟩
    by_cases hji : j = i
    · subst hji; exact absurd e hne
    · exact h2 j (by omega) hne
theorem sv_nf_none {M : Nat} {fm : Nat → Nat} {g i : Nat} {x y : Int32} (hy : sv_good M fm y (sv_rest g (fm i))) (hg : g < 64) (e : y = -2) (h : sv_nf M fm g i x) : sv_nf M fm g (i + 1) x := by
  have hn : ∀ k, ¬ sv_cov M fm k (sv_rest g (fm i)) := by
    rcases hy with ⟨k, a, b, _, _⟩ | ⟨_, b⟩
    · have := sv_rest_le g (fm i)
      exact absurd (b.symm.trans e) ((by decide +kernel : ∀ k, k < 64 → ¬ nI k = -2) k (by omega))
    · exact b
  rcases h with ⟨k, h1, h2, h3, h4⟩ | ⟨h1, h2⟩
  · refine Or.inl ⟨k, h1, h2, h3, fun j hj hne => ?_⟩
    by_cases hji : j = i
    · subst hji; exact fun k' hk => absurd hk (hn k')
    · exact h4 j (by omega) hne
  · refine Or.inr ⟨h1, fun j hj hne => ?_⟩
    by_cases hji : j = i
    · subst hji; exact hn
    · exact h2 j (by omega) hne
theorem sv_nf_take {M : Nat} {fm : Nat → Nat} {g i : Nat} {x y : Int32} (hM : i < M) (hy : sv_good M fm y (sv_rest g (fm i))) (hg : g < 64) (hne : ¬ sv_rest g (fm i) = g) (e : ¬ y = -2) (h : sv_nf M fm g i x) :
    (x = -2 → sv_nf M fm g (i + 1) (y + 1)) ∧ (¬ x = -2 → x ≤ y + 1 → sv_nf M fm g (i + 1) x) ∧ (¬ x = -2 → ¬ x ≤ y + 1 → sv_nf M fm g (i + 1) (y + 1)) := by
  rcases hy with ⟨q, q1, q2, q3, q4⟩ | ⟨b, _⟩
  · have hle := sv_rest_le g (fm i)
    have hlt : sv_rest g (fm i) < g := by omega
    have hcov : sv_cov M fm (q + 1) g := Or.inr ⟨i, hM, q3⟩
    have hy1 : y + 1 = nI (q + 1) := by rw [q2, nI_1]
    refine ⟨fun hx => ?_, fun hx hxy => ?_, fun hx hxy => ?_⟩
    · rcases h with ⟨k, h1, h2, h3, h4⟩ | ⟨h1, h2⟩
      · exact absurd (h2.symm.trans hx) ((by decide +kernel : ∀ k, k < 64 → ¬ nI k = -2) k (by omega))
      · refine Or.inl ⟨q + 1, by omega, hy1, hcov, fun j hj hn k' hk => ?_⟩
        by_cases hji : j = i
        · subst hji; have := q4 k' hk; omega
        · exact absurd hk (h2 j (by omega) hn k')
    · rcases h with ⟨k, h1, h2, h3, h4⟩ | ⟨h1, h2⟩
      · rw [hy1, h2, nI_leI (by omega) (by omega)] at hxy
        refine Or.inl ⟨k, h1, h2, h3, fun j hj hn k' hk => ?_⟩
        by_cases hji : j = i
        · subst hji; have := q4 k' hk; omega
        · exact h4 j (by omega) hn k' hk
      · exact absurd h1 hx
    · rcases h with ⟨k, h1, h2, h3, h4⟩ | ⟨h1, h2⟩
      · rw [hy1, h2, nI_leI (by omega) (by omega)] at hxy
        refine Or.inl ⟨q + 1, by omega, hy1, hcov, fun j hj hn k' hk => ?_⟩
        by_cases hji : j = i
        · subst hji; have := q4 k' hk; omega
        · have := h4 j (by omega) hn k' hk; omega
      · exact absurd h1 hx
  · exact absurd b e
theorem sv_nf_end {M : Nat} {fm : Nat → Nat} {g : Nat} {x : Int32} (hg : g ≠ 0) (h : sv_nf M fm g M x) : sv_good M fm x g := by
  rcases h with ⟨k, h1, h2, h3, h4⟩ | ⟨h1, h2⟩
  · refine Or.inl ⟨k, h1, h2, h3, fun k' => ?_⟩
    induction k' with
    | zero => exact fun hc => absurd hc hg
    | succ k' ih =>
      intro hc
      rcases hc with hc | ⟨j, hj, hc⟩
      · exact absurd hc hg
      · by_cases e : sv_rest g (fm j) = g
        · rw [e] at hc; have := ih hc; omega
        · exact h4 j hj e k' hc
  · refine Or.inr ⟨h1, fun k' => ?_⟩
    induction k' with
    | zero => exact hg
    | succ k' ih =>
      intro hc
      rcases hc with hc | ⟨j, hj, hc⟩
      · exact hg hc
      · by_cases e : sv_rest g (fm j) = g
        · rw [e] at hc; exact ih hc
        · exact h2 j hj e k' hc
end
section
def sv_L (one : Nat → Bool) : Nat → Nat → Nat
  | 0 => fun t => if t = 0 then 0 else 100
  | P + 1 => fun t => if one P = true ∧ t &&& P = P ∧ sv_L one P (sv_rest t P) + 1 < sv_L one P t then sv_L one P (sv_rest t P) + 1 else sv_L one P t
theorem sv_L_s (one : Nat → Bool) (P t : Nat) : sv_L one (P + 1) t = if one P = true ∧ t &&& P = P ∧ sv_L one P (sv_rest t P) + 1 < sv_L one P t then sv_L one P (sv_rest t P) + 1 else sv_L one P t := rfl
theorem sv_L_le (one : Nat → Bool) : ∀ P t, sv_L one P t ≤ 100 := by
  intro P
  induction P with
  | zero => intro t; show (if t = 0 then 0 else 100) ≤ 100; split <;> omega
  | succ P ih =>
    intro t
    rw [sv_L_s]
    have := ih t
    split <;> omega
theorem sv_L_1 (one : Nat → Bool) (t : Nat) : sv_L one 1 t = if t = 0 then 0 else 100 := by
  rw [sv_L_s, sv_rest_0]
  split
  · omega
  · rfl
theorem sv_L_step (one : Nat → Bool) (P t : Nat) : sv_L one (P + 1) t ≤ sv_L one P t := by
  rw [sv_L_s]
  split <;> omega
theorem sv_L_use {one : Nat → Bool} {P t : Nat} (h1 : one P = true) (h2 : t &&& P = P) : sv_L one (P + 1) t ≤ sv_L one P (sv_rest t P) + 1 := by
  rw [sv_L_s]
  split
  · omega
  · rename_i h
    have : ¬ sv_L one P (sv_rest t P) + 1 < sv_L one P t := fun z => h ⟨h1, h2, z⟩
    omega
theorem sv_L_cases (one : Nat → Bool) (P t : Nat) : sv_L one (P + 1) t = sv_L one P t ∨ (one P = true ∧ t &&& P = P ∧ sv_L one (P + 1) t = sv_L one P (sv_rest t P) + 1) := by
  rw [sv_L_s]
  split
  · rename_i h
    exact Or.inr ⟨h.1, h.2.1, rfl⟩
  · exact Or.inl rfl
theorem sv_L_sound {M : Nat} {fm : Nat → Nat} {one : Nat → Bool} (h1 : ∀ P, one P = true → ∃ j, j < M ∧ sv_sub P (fm j)) : ∀ P t, sv_L one P t < 100 → sv_cov M fm (sv_L one P t) t := by
  intro P
  induction P with
  | zero =>
    intro t h
    have e : sv_L one 0 t = if t = 0 then 0 else 100 := rfl
    by_cases ht : t = 0
    · rw [if_pos ht] at e
      rw [e]
      exact ht
    · rw [if_neg ht] at e
      omega
  | succ P ih =>
    intro t h
    rcases sv_L_cases one P t with e | ⟨a, b, e⟩
    · rw [e] at h ⊢
      exact ih t h
    · rw [e] at h ⊢
      obtain ⟨j, hj, hs⟩ := h1 P a
      refine Or.inr ⟨j, hj, sv_cov_mono _ ?_ (ih (sv_rest t P) (by omega))⟩
      intro i hi
      rw [sv_rest_tb] at hi ⊢
      have := hs i
      revert this hi
      cases t.testBit i <;> cases P.testBit i <;> cases (fm j).testBit i <;> simp
theorem sv_L_ins {one : Nat → Bool} {P : Nat} (hP : P ≠ 0) (ho : one P = true) : ∀ B, P < B → ∀ s, s &&& P = 0 → sv_L one B (s ||| P) ≤ sv_L one B s + 1 := by
  intro B
  induction B with
  | zero => intro h; exact absurd h (Nat.not_lt_zero _)
  | succ B ih =>
    intro hPB s hs
    by_cases e : P = B
    · subst e
      have hns : ¬ s &&& P = P := by omega
      have a : sv_L one (P + 1) s = sv_L one P s := by
        rcases sv_L_cases one P s with a | ⟨_, b, _⟩
        · exact a
        · exact absurd b hns
      have b := sv_L_use (one := one) (P := P) (t := s ||| P) ho (sv_or_and s P)
      rw [sv_rest_or hs] at b
      omega
    · have ih := ih (by omega)
      rcases sv_L_cases one B s with a | ⟨h1, h2, h3⟩
      · have b := sv_L_step one B (s ||| P)
        have c := ih s hs
        omega
      · have hsub : (s ||| P) &&& B = B := by
          apply sv_sub_and.mpr
          intro i hi
          rw [Nat.testBit_or, sv_sub_and.mp h2 i hi, Bool.true_or]
        have b := sv_L_use (one := one) (P := B) (t := s ||| P) h1 hsub
        have er : sv_rest (s ||| P) B = sv_rest s B ||| P := by
          apply Nat.eq_of_testBit_eq
          intro i
          rw [sv_rest_tb, Nat.testBit_or, Nat.testBit_or, sv_rest_tb]
          have q1 := sv_sub_and.mp h2 i
          have q2 := sv_disj.mp hs i
          revert q1 q2
          cases s.testBit i <;> cases P.testBit i <;> cases B.testBit i <;> simp
        have hd : sv_rest s B &&& P = 0 := by
          apply sv_disj.mpr
          intro i hi
          exact sv_disj.mp hs i (sv_sub_rest s B i hi)
        have c := ih (sv_rest s B) hd
        rw [er] at b
        omega
theorem sv_L_comp {M S : Nat} {fm : Nat → Nat} {one : Nat → Bool} (hS : S < 64) (h2 : ∀ P, P ≠ 0 → P < 64 → sv_sub P S → (∃ j, j < M ∧ sv_sub P (fm j)) → one P = true) : ∀ k g, sv_sub g S → sv_cov M fm k g → sv_L one 64 g ≤ k := by
  have L0 : ∀ B, sv_L one B 0 = 0 := by
    intro B
    induction B with
    | zero => rfl
    | succ B ih => have := sv_L_step one B 0; omega
  intro k
  induction k with
  | zero =>
    intro g _ hc
    have hc : g = 0 := hc
    rw [hc, L0]
    exact Nat.le_refl 0
  | succ k ih =>
    intro g hg hc
    rcases hc with hc | ⟨j, hj, hc⟩
    · rw [hc, L0]; omega
    · have hr : sv_sub (sv_rest g (fm j)) S := fun i hi => hg i (sv_sub_rest g (fm j) i hi)
      have a := ih (sv_rest g (fm j)) hr hc
      by_cases z : g &&& fm j = 0
      · have e : sv_rest g (fm j) = g := by unfold sv_rest; rw [z, Nat.xor_zero]
        rw [e] at a
        omega
      · have hs1 : sv_sub (g &&& fm j) S := by
          intro i hi
          rw [Nat.testBit_and] at hi
          exact hg i (by revert hi; cases g.testBit i <;> simp)
        have hs2 : sv_sub (g &&& fm j) (fm j) := by
          intro i hi
          rw [Nat.testBit_and] at hi
          revert hi
          cases (fm j).testBit i <;> simp
        have hlt : g &&& fm j < 64 := Nat.lt_of_le_of_lt (sv_sub_le hs1) hS
        have ho := h2 (g &&& fm j) z hlt hs1 ⟨j, hj, hs2⟩
        have hd : sv_rest g (fm j) &&& (g &&& fm j) = 0 := by
          apply sv_disj.mpr
          intro i hi
          rw [sv_rest_tb] at hi
          rw [Nat.testBit_and]
          revert hi
          cases g.testBit i <;> cases (fm j).testBit i <;> simp
        have b := sv_L_ins z ho 64 hlt (sv_rest g (fm j)) hd
        have e : sv_rest g (fm j) ||| (g &&& fm j) = g := by
          apply Nat.eq_of_testBit_eq
          intro i
          rw [Nat.testBit_or, sv_rest_tb, Nat.testBit_and]
          cases g.testBit i <;> cases (fm j).testBit i <;> rfl
        rw [e] at b
        omega
theorem sv_final {M S : Nat} {fm : Nat → Nat} {one : Nat → Bool} {x : Int32} (hS : S < 64) (h1 : ∀ P, one P = true → ∃ j, j < M ∧ sv_sub P (fm j))
    (h2 : ∀ P, P ≠ 0 → P < 64 → sv_sub P S → (∃ j, j < M ∧ sv_sub P (fm j)) → one P = true) (hx : sv_good M fm x S) :
    (sv_L one 64 S = 100 → x = -2) ∧ (¬ sv_L one 64 S = 100 → x = nI (sv_L one 64 S)) := by
  have hle := sv_L_le one 64 S
  rcases hx with ⟨k, a, b, c, d⟩ | ⟨a, b⟩
  · have e := sv_L_comp hS h2 k S (fun _ h => h) c
    have f := d _ (sv_L_sound h1 64 S (by omega))
    have g : sv_L one 64 S = k := by omega
    exact ⟨fun z => by omega, fun _ => by rw [g]; exact b⟩
  · exact ⟨fun _ => a, fun z => absurd (sv_L_sound h1 64 S (by omega)) (b _)⟩
def sv_Li (one : Nat → Bool) (P i t : Nat) : Nat := if t &&& P = P ∧ sv_rest t P < i then sv_L one (P + 1) t else sv_L one P t
theorem sv_Li_0 (one : Nat → Bool) (P t : Nat) : sv_Li one P 0 t = sv_L one P t := by
  unfold sv_Li
  rw [if_neg (fun z => Nat.not_lt_zero _ z.2)]
theorem sv_Li_64 (one : Nat → Bool) (P : Nat) {t : Nat} (ht : t < 64) : sv_Li one P 64 t = sv_L one (P + 1) t := by
  unfold sv_Li
  have := sv_rest_le t P
  by_cases h : t &&& P = P
  · rw [if_pos ⟨h, by omega⟩]
  · rw [if_neg (fun z => h z.1), sv_L_s, if_neg (fun z => h z.2.1)]
theorem sv_Li_skip (one : Nat → Bool) {P i : Nat} (h : ¬ i &&& P = 0) (t : Nat) : sv_Li one P (i + 1) t = sv_Li one P i t := by
  unfold sv_Li
  by_cases e : t &&& P = P ∧ sv_rest t P < i
  · rw [if_pos e, if_pos ⟨e.1, by omega⟩]
  · rw [if_neg e, if_neg]
    intro z
    have hne : sv_rest t P ≠ i := fun q => h (q ▸ sv_rest_disj t P)
    exact e ⟨z.1, by omega⟩
theorem sv_Li_other (one : Nat → Bool) {P i t : Nat} (ht : t ≠ i ||| P) : sv_Li one P (i + 1) t = sv_Li one P i t := by
  unfold sv_Li
  by_cases e : t &&& P = P ∧ sv_rest t P < i
  · rw [if_pos e, if_pos ⟨e.1, by omega⟩]
  · rw [if_neg e, if_neg]
    intro z
    have hne : sv_rest t P ≠ i := fun q => ht (by rw [← q]; exact (sv_or_rest z.1).symm)
    exact e ⟨z.1, by omega⟩
theorem sv_Li_off {one : Nat → Bool} {P : Nat} (h : one P = false) (i t : Nat) : sv_Li one P i t = sv_L one P t := by
  unfold sv_Li
  have e : sv_L one (P + 1) t = sv_L one P t := by
    rw [sv_L_s, if_neg]
    intro z
    rw [h] at z
    exact absurd z.1 (by decide)
  rw [e]
  split <;> rfl
theorem sv_Li_src (one : Nat → Bool) {P i : Nat} (hP : P ≠ 0) (h : i &&& P = 0) : sv_Li one P i i = sv_L one P i := by
  unfold sv_Li
  rw [if_neg]
  intro z
  omega
theorem sv_Li_dst (one : Nat → Bool) {P i : Nat} (h : i &&& P = 0) : sv_Li one P i (i ||| P) = sv_L one P (i ||| P) := by
  unfold sv_Li
  rw [if_neg]
  intro z
  rw [sv_rest_or h] at z
  omega
theorem sv_Li_new {one : Nat → Bool} {P i : Nat} (ho : one P = true) (h : i &&& P = 0) : sv_Li one P (i + 1) (i ||| P) = if sv_L one P i + 1 < sv_L one P (i ||| P) then sv_L one P i + 1 else sv_L one P (i ||| P) := by
  unfold sv_Li
  rw [if_pos ⟨sv_or_and i P, by rw [sv_rest_or h]; omega⟩, sv_L_s, sv_rest_or h]
  by_cases e : sv_L one P i + 1 < sv_L one P (i ||| P)
  · rw [if_pos e, if_pos ⟨ho, sv_or_and i P, e⟩]
  · rw [if_neg e, if_neg (fun z => e z.2.2)]
end
section
def sv_pb (x : Int32) : Nat → Int32
  | 0 => 0
  | i + 1 => sv_pb x i ^^^ ((x >>> (nI i &&& 31)) &&& 1)
def sv_ps (x : Int32) : Nat → Int32
  | 0 => 0
  | i + 1 => sv_ps x i + ((x >>> (nI i &&& 31)) &&& 1)
def sv_par (x : Int32) : Int32 := sv_pb x 8
theorem sv_psb (x : Int32) : ∀ i, ∃ s, s ≤ i ∧ sv_ps x i = nI s ∧ sv_pb x i = nI (s % 2) := by
  intro i
  induction i with
  | zero => exact ⟨0, Nat.le_refl 0, rfl, rfl⟩
  | succ i ih =>
    obtain ⟨s, h1, h2, h3⟩ := ih
    have e1 : sv_ps x (i + 1) = sv_ps x i + ((x >>> (nI i &&& 31)) &&& 1) := rfl
    have e2 : sv_pb x (i + 1) = sv_pb x i ^^^ ((x >>> (nI i &&& 31)) &&& 1) := rfl
    rw [e1, e2, h2, h3]
    rcases sv_bit01 (x >>> (nI i &&& 31)) with e | e
    · rw [e]
      refine ⟨s, by omega, Int32.add_zero _, ?_⟩
      exact Int32.xor_zero
    · rw [e]
      refine ⟨s + 1, by omega, nI_1 s, ?_⟩
      rcases (by omega : s % 2 = 0 ∨ s % 2 = 1) with q | q
      · rw [q, (by omega : (s + 1) % 2 = 1)]; decide
      · rw [q, (by omega : (s + 1) % 2 = 0)]; decide
theorem sv_par01 (x : Int32) : sv_par x = 0 ∨ sv_par x = 1 := by
  obtain ⟨s, _, _, h⟩ := sv_psb x 8
  rcases (by omega : s % 2 = 0 ∨ s % 2 = 1) with q | q
  · left; rw [q] at h; exact h
  · right; rw [q] at h; exact h
theorem sv_parY (x : Int32) : sv_ps x 8 - sv_ps x 8 / 2 * 2 = sv_par x := by
  obtain ⟨s, h1, h2, h3⟩ := sv_psb x 8
  rw [h2]
  refine Eq.trans (pk_rem (d := 2) (by omega) (by omega) (by omega)) ?_
  exact h3.symm
theorem sv_Xpar {post : Int32 → Prop} {x : Int32} (h : post (sv_par x)) : wpX_parity post x := by
  have key : ∀ d i, i + d = 8 → wX_parity_4 post x (d + 1) (sv_pb x i) (nI i) := by
    intro d
    induction d with
    | zero =>
      intro i hi
      obtain rfl : i = 8 := by omega
      exact br_t (by decide) h
    | succ d ih =>
      intro i hi
      exact br_f (nI_ge (b := 8) (by omega) (by decide)) (nm_e (nm_r (nI_1 i) (ih (i + 1) (by omega))))
  exact ⟨9, key 8 0 rfl⟩
theorem sv_Ypar {post : Int32 → Prop} {n tp : Int32} {sh wa le : Nat → Int32} {x : Int32} (h : post (sv_par x)) : wpY_parity post (n, tp, sh, wa, le) x := by
  have key : ∀ d i, i + d = 8 → wY_parity_4 post x n tp sh wa le (d + 1) (sv_ps x i) (nI i) := by
    intro d
    induction d with
    | zero =>
      intro i hi
      obtain rfl : i = 8 := by omega
      exact br_t (by decide) ⟨by decide, by rw [sv_parY]; exact h⟩
    | succ d ih =>
      intro i hi
      exact br_f (nI_ge (b := 8) (by omega) (by decide)) (nm_e (nm_r (nI_1 i) (ih (i + 1) (by omega))))
  exact ⟨9, key 8 0 rfl⟩
def sv_nx (w tp s : Int32) : Int32 := (s >>> ((1 : Int32) &&& 31)) ||| (sv_par (s &&& tp) <<< ((w - 1) &&& 31))
def sv_st (w tp s : Int32) : Nat → Int32
  | 0 => s
  | i + 1 => sv_nx w tp (sv_st w tp s i)
def sv_val (w tp : Int32) (sh : Nat → Int32) (s : Int32) (cy ch : Nat) : Int32 := sv_par (sv_st w tp s cy &&& sh ch)
section
variable {w sc tp : Int32} {sh : Nat → Int32} {wp wv : Nat → Int64} {cf nd : Nat → Int32} {wa le : Nat → Int32}
theorem sv_Xnext {post : Int32 → Prop} {s : Int32} (h : post (sv_nx w tp s)) : wpX_nextState post (w, sc, tp, sh, wp, wv, cf, nd) s := sv_Xpar h
theorem sv_Xchain {post : Int32 → Prop} {s : Int32} {cy ch : Nat} (hcy : cy < 16) (hch : ch < 4) (h : post (sv_val w tp sh s cy ch)) :
    wpX_chainValue post (w, sc, tp, sh, wp, wv, cf, nd) s (nI cy) (nI ch) := by
  have key : ∀ d i, i + d = cy → wX_chainValue_6 post (nI cy) (nI ch) w sc tp sh wp wv cf nd (d + 1) (sv_st w tp s i) (nI i) := by
    intro d
    induction d with
    | zero =>
      intro i hi
      obtain rfl : i = cy := by omega
      refine br_t (nI_le (Nat.le_refl _) (by omega)) ⟨vp_in_nI hch (by decide), sv_Xpar ?_⟩
      rw [nI_clamp (by omega)]
      exact h
    | succ d ih =>
      intro i hi
      exact br_f (nI_ge (by omega) (by omega)) (sv_Xnext (nm_r (nI_1 i) (ih (i + 1) (by omega))))
  exact ⟨cy + 1, key cy 0 (by omega)⟩
theorem sv_Ychain {post : Int32 → Prop} {s : Int32} {cy ch : Nat} (hcy : cy < 16) (hch : ch < 4) (h : post (sv_val w tp sh s cy ch)) :
    wpY_valueAt post (w, tp, sh, wa, le) s (nI cy) (nI ch) := by
  have key : ∀ d i, i + d = cy → wY_valueAt_6 post (nI cy) (nI ch) w tp sh wa le (d + 1) (sv_st w tp s i) (nI i) := by
    intro d
    induction d with
    | zero =>
      intro i hi
      obtain rfl : i = cy := by omega
      refine br_t (nI_le (Nat.le_refl _) (by omega)) ⟨vp_in_nI hch (by decide), sv_Ypar ?_⟩
      rw [nI_clamp (by omega)]
      exact h
    | succ d ih =>
      intro i hi
      exact br_f (nI_ge (by omega) (by omega)) (sv_Ypar (nm_e (nm_r (nI_1 i) (ih (i + 1) (by omega)))))
  exact ⟨cy + 1, key cy 0 (by omega)⟩
end
def sv_pl (k : Nat) : Int64 := (1 : Int64) <<< ((nI k).toInt64 &&& 63)
theorem sv_pl_bv : ∀ k, k < 64 → (sv_pl k).toBitVec = BitVec.twoPow 64 k := by decide +kernel
theorem sv_pl_bit {k i : Nat} (hk : k < 64) (hi : i < 64) : (sv_pl k).toBitVec.getLsbD i = decide (k = i) := by
  rw [sv_pl_bv k hk, BitVec.getLsbD_twoPow]
  simp [hk]
theorem sv_pl_e {cy ch : Nat} : (nI cy * 4) + nI ch = nI (4 * cy + ch) := by
  rw [show (4 : Int32) = nI 4 from rfl, pk_mul, nI_add, Nat.mul_comm]
theorem sv_Xplace {post : Int64 → Prop} {cy ch : Nat} (h : post (sv_pl (4 * cy + ch))) : wpX_placeBit post (nI cy) (nI ch) := by
  unfold wpX_placeBit
  rw [sv_pl_e]
  exact h
def sv_av (w tp : Int32) (sh : Nat → Int32) (s : Int32) : Nat → Int64
  | 0 => 0
  | k + 1 => if sv_val w tp sh s (k / 4) (k % 4) = 1 then sv_av w tp sh s k ||| sv_pl k else sv_av w tp sh s k
theorem sv_av_s (w tp : Int32) (sh : Nat → Int32) (s : Int32) (k : Nat) : sv_av w tp sh s (k + 1) = if sv_val w tp sh s (k / 4) (k % 4) = 1 then sv_av w tp sh s k ||| sv_pl k else sv_av w tp sh s k := rfl
theorem sv_av_bit (w tp : Int32) (sh : Nat → Int32) (s : Int32) {p : Nat} (hp : p < 64) : ∀ k, k ≤ 64 → (sv_av w tp sh s k).toBitVec.getLsbD p = (decide (p < k) && decide (sv_val w tp sh s (p / 4) (p % 4) = 1)) := by
  intro k
  induction k with
  | zero =>
    intro _
    rw [decide_eq_false (Nat.not_lt_zero p), Bool.false_and]
    exact BitVec.getLsbD_zero
  | succ k ih =>
    intro hk
    have ih := ih (by omega)
    rw [sv_av_s]
    by_cases e : p = k
    · subst e
      rw [decide_eq_true (by omega : p < p + 1), Bool.true_and]
      rw [decide_eq_false (by omega : ¬ p < p), Bool.false_and] at ih
      split
      · rename_i h
        rw [Int64.toBitVec_or, BitVec.getLsbD_or, ih, sv_pl_bit hp hp, decide_eq_true h]
        simp
      · rename_i h
        rw [ih, decide_eq_false h]
    · have e2 : decide (p < k + 1) = decide (p < k) := by
        by_cases q : p < k
        · rw [decide_eq_true q, decide_eq_true (by omega)]
        · rw [decide_eq_false q, decide_eq_false (by omega)]
      rw [e2, ← ih]
      split
      · rw [Int64.toBitVec_or, BitVec.getLsbD_or, sv_pl_bit (by omega) hp, decide_eq_false (fun z => e z.symm), Bool.or_false]
      · rfl
section
variable {w sc tp : Int32} {sh : Nat → Int32} {wp wv : Nat → Int64} {cf nd : Nat → Int32} {wa le : Nat → Int32}
theorem sv_Xall {post : Int64 → Prop} {s : Int32} (h : post (sv_av w tp sh s 64)) : wpX_allValues post (w, sc, tp, sh, wp, wv, cf, nd) s := by
  have inner : ∀ (J : Int64 → Int32 → Int32 → Prop) (cy : Nat), cy < 16 → J (sv_av w tp sh s (4 * (cy + 1))) (sv_st w tp s (cy + 1)) (nI (cy + 1)) →
      ∀ d i, i + d = 4 → wX_allValues_18 post J (sv_st w tp s cy) (nI cy) w sc tp sh wp wv cf nd (d + 1) (sv_av w tp sh s (4 * cy + i)) (nI i) := by
    intro J cy hcy hJ d
    induction d with
    | zero =>
      intro i hi
      obtain rfl : i = 4 := by omega
      exact br_t (by decide) (sv_Xnext (nm_r (nI_1 cy) hJ))
    | succ d ih =>
      intro i hi
      have nx := ih (i + 1) (by omega)
      have e1 : (4 * cy + i) / 4 = cy := by omega
      have e2 : (4 * cy + i) % 4 = i := by omega
      have es := sv_av_s w tp sh s (4 * cy + i)
      rw [e1, e2] at es
      rw [← Nat.add_assoc, es] at nx
      refine br_f (nI_ge (b := 4) (by omega) (by decide)) ⟨vp_in_nI (by omega) (by decide), sv_Xpar ?_⟩
      rw [nI_clamp (by omega)]
      by_cases q : sv_val w tp sh s cy i = 1
      · rw [if_pos q] at nx
        exact br_t q (sv_Xplace (nm_e (nm_r (nI_1 i) nx)))
      · rw [if_neg q] at nx
        exact br_f q (nm_r (nI_1 i) nx)
  have outer : ∀ d i, i + d = 16 → wX_allValues_8 post w sc tp sh wp wv cf nd (d + 1) (sv_av w tp sh s (4 * i)) (sv_st w tp s i) (nI i) := by
    intro d
    induction d with
    | zero =>
      intro i hi
      obtain rfl : i = 16 := by omega
      exact br_t (by decide) h
    | succ d ih =>
      intro i hi
      exact br_f (nI_ge (b := 16) (by omega) (by decide)) ⟨5, inner _ i (by omega) (ih (i + 1) (by omega)) 4 0 rfl⟩
  exact ⟨17, outer 16 0 rfl⟩
end
end
section
def sv_W (wp wv : Nat → Int64) (wa : Nat → Int32) : Prop := ∀ c, c < 6 → ∀ p, p < 64 →
  (wa (64 * c + p) = 2 ∧ (wp c).toBitVec.getLsbD p = false) ∨
  (wa (64 * c + p) = 0 ∧ (wp c).toBitVec.getLsbD p = true ∧ (wv c).toBitVec.getLsbD p = false) ∨
  (wa (64 * c + p) = 1 ∧ (wp c).toBitVec.getLsbD p = true ∧ (wv c).toBitVec.getLsbD p = true)
def sv_ok (w tp : Int32) (sh wa : Nat → Int32) (s : Int32) (c p : Nat) : Prop := wa (64 * c + p) = 2 ∨ sv_val w tp sh s (p / 4) (p % 4) = wa (64 * c + p)
def sv_fc (w tp : Int32) (sh wa : Nat → Int32) (s : Int32) (c : Nat) : Prop := ∀ p, p < 64 → sv_ok w tp sh wa s c p
noncomputable def sv_fcb (w tp : Int32) (sh wa : Nat → Int32) (s : Int32) (c : Nat) : Bool := @decide (sv_fc w tp sh wa s c) (Classical.propDecidable _)
theorem sv_fcb_t {w tp : Int32} {sh wa : Nat → Int32} {s : Int32} {c : Nat} : sv_fcb w tp sh wa s c = true ↔ sv_fc w tp sh wa s c := by
  unfold sv_fcb
  exact @decide_eq_true_iff _ (Classical.propDecidable _)
noncomputable def sv_fk (w tp : Int32) (sh wa : Nat → Int32) (s : Int32) : Nat → Nat
  | 0 => 0
  | c + 1 => if sv_fcb w tp sh wa s c = true then sv_fk w tp sh wa s c ||| 2 ^ c else sv_fk w tp sh wa s c
theorem sv_fk_s (w tp : Int32) (sh wa : Nat → Int32) (s : Int32) (c : Nat) : sv_fk w tp sh wa s (c + 1) = if sv_fcb w tp sh wa s c = true then sv_fk w tp sh wa s c ||| 2 ^ c else sv_fk w tp sh wa s c := rfl
noncomputable def sv_fm (w tp : Int32) (sh wa : Nat → Int32) (s : Int32) : Nat := sv_fk w tp sh wa s 6
theorem sv_fk_lt (w tp : Int32) (sh wa : Nat → Int32) (s : Int32) : ∀ c, sv_fk w tp sh wa s c < 2 ^ c := by
  intro c
  induction c with
  | zero => exact Nat.one_pos
  | succ c ih =>
    rw [sv_fk_s]
    have h1 : 2 ^ (c + 1) = 2 ^ c * 2 := Nat.pow_succ 2 c
    split
    · exact Nat.or_lt_two_pow (by omega) (by have := Nat.two_pow_pos c; omega)
    · omega
theorem sv_fm_lt (w tp : Int32) (sh wa : Nat → Int32) (s : Int32) : sv_fm w tp sh wa s < 64 := sv_fk_lt w tp sh wa s 6
theorem sv_fk_tb (w tp : Int32) (sh wa : Nat → Int32) (s : Int32) (i : Nat) : ∀ c, (sv_fk w tp sh wa s c).testBit i = (decide (i < c) && sv_fcb w tp sh wa s i) := by
  intro c
  induction c with
  | zero =>
    rw [decide_eq_false (Nat.not_lt_zero i), Bool.false_and]
    exact Nat.zero_testBit i
  | succ c ih =>
    rw [sv_fk_s]
    by_cases e : i = c
    · subst e
      rw [decide_eq_true (by omega : i < i + 1), Bool.true_and]
      rw [decide_eq_false (by omega : ¬ i < i), Bool.false_and] at ih
      split
      · rename_i h
        rw [Nat.testBit_or, ih, Nat.testBit_two_pow_self, h]
        rfl
      · rename_i h
        rw [ih]
        revert h
        cases sv_fcb w tp sh wa s i <;> simp
    · have e2 : decide (i < c + 1) = decide (i < c) := by
        by_cases q : i < c
        · rw [decide_eq_true q, decide_eq_true (by omega)]
        · rw [decide_eq_false q, decide_eq_false (by omega)]
      rw [e2, ← ih]
      split
      · rw [Nat.testBit_or, Nat.testBit_two_pow_of_ne (fun z => e z.symm), Bool.or_false]
      · rfl
noncomputable def sv_ft (w tp : Int32) (sh wa : Nat → Int32) (s : Int32) (g : Nat) : Bool := decide (sv_fm w tp sh wa s &&& g = g)
theorem sv_ft_t {w tp : Int32} {sh wa : Nat → Int32} {s : Int32} {g : Nat} (hg : g < 64) : sv_ft w tp sh wa s g = true ↔ ∀ c, c < 6 → g.testBit c = true → sv_fc w tp sh wa s c := by
  unfold sv_ft
  rw [decide_eq_true_iff, sv_sub_and]
  constructor
  · intro h c hc hb
    have := h c hb
    unfold sv_fm at this
    rw [sv_fk_tb, decide_eq_true hc, Bool.true_and] at this
    exact sv_fcb_t.mp this
  · intro h c hb
    have hc : c < 6 := by
      apply Classical.byContradiction
      intro z
      have : g < 2 ^ c := Nat.lt_of_lt_of_le hg (Nat.pow_le_pow_right (n := 2) (by decide) (by omega : 6 ≤ c))
      rw [Nat.testBit_lt_two_pow this] at hb
      exact absurd hb (by decide)
    unfold sv_fm
    rw [sv_fk_tb, decide_eq_true hc, Bool.true_and]
    exact sv_fcb_t.mpr (h c hc hb)
theorem sv_cond {w tp : Int32} {sh wa : Nat → Int32} {wp wv : Nat → Int64} {s : Int32} {c : Nat} (hW : sv_W wp wv wa) (hc : c < 6) :
    ((sv_av w tp sh s 64 ^^^ wv c) &&& wp c = 0) ↔ sv_fc w tp sh wa s c := by
  have hb : ∀ p, p < 64 → (((sv_av w tp sh s 64 ^^^ wv c) &&& wp c).toBitVec.getLsbD p = false ↔ sv_ok w tp sh wa s c p) := by
    intro p hp
    rw [Int64.toBitVec_and, Int64.toBitVec_xor, BitVec.getLsbD_and, BitVec.getLsbD_xor, sv_av_bit w tp sh s hp 64 (Nat.le_refl _), decide_eq_true hp, Bool.true_and]
    have hv : sv_val w tp sh s (p / 4) (p % 4) = 0 ∨ sv_val w tp sh s (p / 4) (p % 4) = 1 := sv_par01 _
    unfold sv_ok
    rcases hW c hc p hp with ⟨a, b⟩ | ⟨a, b, d⟩ | ⟨a, b, d⟩
    · rw [a, b]; simp
    · rw [a, b, d]
      rcases hv with e | e <;> rw [e] <;> decide
    · rw [a, b, d]
      rcases hv with e | e <;> rw [e] <;> decide
  constructor
  · intro h p hp
    rw [← hb p hp, h]
    exact BitVec.getLsbD_zero
  · intro h
    apply Int64.toBitVec_inj.mp
    apply BitVec.eq_of_getLsbD_eq
    intro p hp
    rw [(hb p hp).mpr (h p hp)]
    exact BitVec.getLsbD_zero.symm
section
variable {w sc tp : Int32} {sh : Nat → Int32} {wp wv : Nat → Int64} {cf nd : Nat → Int32} {wa le : Nat → Int32}
theorem sv_Xfitted {post : Int32 → Prop} {s : Int32} (hW : sv_W wp wv wa) (h : post (nI (sv_fm w tp sh wa s))) : wpX_fittedBy post (w, sc, tp, sh, wp, wv, cf, nd) s := by
  have key : ∀ d i, i + d = 6 → wX_fittedBy_12 post (sv_av w tp sh s 64) w sc tp sh wp wv cf nd (d + 1) (nI (sv_fk w tp sh wa s i)) (nI i) := by
    intro d
    induction d with
    | zero =>
      intro i hi
      obtain rfl : i = 6 := by omega
      exact br_t (by decide) h
    | succ d ih =>
      intro i hi
      have nx := ih (i + 1) (by omega)
      rw [sv_fk_s] at nx
      have hin : vp_in (nI i) 6 := vp_in_nI (by omega) (by decide)
      refine br_f (nI_ge (b := 6) (by omega) (by decide)) ⟨hin, hin, ?_⟩
      rw [nI_clamp (by omega)]
      refine nm_e ?_
      by_cases q : sv_fc w tp sh wa s i
      · rw [if_pos (sv_fcb_t.mpr q)] at nx
        refine br_t ((sv_cond hW (by omega)).mpr q) (nm_r ?_ (nm_r (nI_1 i) nx))
        rw [sv_sh1 i (by omega), nx_or]
      · rw [if_neg (fun z => q (sv_fcb_t.mp z))] at nx
        exact br_f (fun z => q ((sv_cond hW (by omega)).mp z)) (nm_r (nI_1 i) nx)
  exact sv_Xall ⟨7, key 6 0 rfl⟩
theorem sv_Xfits {post : Int32 → Prop} {s : Int32} {g : Nat} (hg : g < 64) (hW : sv_W wp wv wa) (h : post (if sv_ft w tp sh wa s g = true then 1 else 0)) : wpX_fits post (w, sc, tp, sh, wp, wv, cf, nd) s (nI g) := by
  refine sv_Xfitted hW ?_
  have hm := sv_fm_lt w tp sh wa s
  have hl : sv_fm w tp sh wa s &&& g < 64 := Nat.lt_of_le_of_lt Nat.and_le_right hg
  rw [nx_and]
  have e : (nI (sv_fm w tp sh wa s &&& g) = nI g) ↔ sv_ft w tp sh wa s g = true := by
    rw [nI_eq (by omega) (by omega)]
    unfold sv_ft
    exact decide_eq_true_iff.symm
  by_cases q : sv_ft w tp sh wa s g = true
  · rw [if_pos q] at h
    exact br_t (e.mpr q) h
  · rw [if_neg q] at h
    exact br_f (fun z => q (e.mp z)) h
theorem sv_Yfits {post : Int32 → Prop} {s : Int32} {g : Nat} (hg : g < 64) (h : post (if sv_ft w tp sh wa s g = true then 1 else 0)) : wpY_fits post (w, tp, sh, wa, le) s (nI g) := by
  have inner : ∀ (J : Int32 → Prop) (c : Nat), c < 6 → ((g.testBit c = true → sv_fc w tp sh wa s c) → J (nI (c + 1))) →
      ∀ d i, i + d = 64 → (∀ p, p < i → g.testBit c = true → sv_ok w tp sh wa s c p) → wY_fits_11 post J s (nI g) (nI c) w tp sh wa le (d + 1) (nI i) := by
    intro J c hc hJ d
    induction d with
    | zero =>
      intro i hi hp
      obtain rfl : i = 64 := by omega
      exact br_t (by decide) (nm_r (nI_1 c) (hJ (fun hb p hp64 => hp p hp64 hb)))
    | succ d ih =>
      intro i hi hp
      have e : (64 : Int32) * nI c + nI i = nI (64 * c + i) := by
        rw [show (64 : Int32) = nI 64 from rfl, pk_mul, nI_add]
      have nx : (g.testBit c = true → sv_ok w tp sh wa s c i) → wY_fits_11 post J s (nI g) (nI c) w tp sh wa le (d + 1) (nI (i + 1)) := by
        intro ho
        apply ih (i + 1) (by omega)
        intro p hpi
        by_cases q : p = i
        · rw [q]; exact ho
        · exact hp p (by omega)
      refine br_f (nI_ge (b := 64) (by omega) (by decide)) ?_
      rw [e]
      refine ⟨vp_in_nI (by omega) (by decide), nm_r (e' := wa (64 * c + i)) (by rw [nI_clamp (by omega)]) ?_⟩
      by_cases hb : g.testBit c = true
      · refine br_t ((sv_sbit g hg c hc).mpr hb) ?_
        by_cases h2 : wa (64 * c + i) = 2
        · exact br_t h2 (nm_r (nI_1 i) (nx (fun _ => Or.inl h2)))
        · refine br_f h2 ⟨by decide, by decide, ?_⟩
          have d4 : nI i / 4 = nI (i / 4) := pk_div (d := 4) (by omega) (by omega) (by omega)
          have r4 : nI i - nI i / 4 * 4 = nI (i % 4) := pk_rem (d := 4) (by omega) (by omega) (by omega)
          rw [r4, d4]
          refine sv_Ychain (by omega) (by omega) ?_
          by_cases hv : sv_val w tp sh s (i / 4) (i % 4) = wa (64 * c + i)
          · exact br_t hv (nm_r (nI_1 i) (nx (fun _ => Or.inr hv)))
          · refine br_f hv ?_
            rw [if_neg] at h
            · exact h
            · intro z
              rcases (sv_ft_t hg).mp z c hc hb i (by omega) with z | z
              · exact h2 z
              · exact hv z
      · exact br_f (fun z => hb ((sv_sbit g hg c hc).mp z)) (nm_r (nI_1 i) (nx (fun z => absurd z hb)))
  have outer : ∀ d c, c + d = 6 → (∀ c', c' < c → g.testBit c' = true → sv_fc w tp sh wa s c') → wY_fits_2 post s (nI g) w tp sh wa le (d + 1) (nI c) := by
    intro d
    induction d with
    | zero =>
      intro c hc hp
      obtain rfl : c = 6 := by omega
      rw [if_pos ((sv_ft_t hg).mpr hp)] at h
      exact br_t (by decide) h
    | succ d ih =>
      intro c hc hp
      refine br_f (nI_ge (b := 6) (by omega) (by decide)) ⟨65, inner _ c (by omega) (fun hq => ?_) 64 0 rfl (fun p hp => absurd hp (Nat.not_lt_zero p))⟩
      apply ih (c + 1) (by omega)
      intro c' hc'
      by_cases q : c' = c
      · rw [q]; exact hq
      · exact hp c' (by omega)
  exact ⟨7, outer 6 0 rfl (fun c hc => absurd hc (Nat.not_lt_zero c))⟩
end
end
section
def sv_cnt (f : Nat → Bool) : Nat → Int32
  | 0 => 0
  | i + 1 => if f i = true then sv_cnt f i + 1 else sv_cnt f i
theorem sv_cnt_s (f : Nat → Bool) (i : Nat) : sv_cnt f (i + 1) = if f i = true then sv_cnt f i + 1 else sv_cnt f i := rfl
def sv_fs (f : Nat → Bool) : Nat → Nat → Int32
  | 0 => fun _ => -2
  | d + 1 => fun i => if f i = true then nI i else sv_fs f d (i + 1)
theorem sv_fs_s (f : Nat → Bool) (d i : Nat) : sv_fs f (d + 1) i = if f i = true then nI i else sv_fs f d (i + 1) := rfl
def sv_gs (f : Nat → Bool) : Nat → Int32
  | 0 => -2
  | i + 1 => if f i = true then nI i else sv_gs f i
theorem sv_gs_s (f : Nat → Bool) (i : Nat) : sv_gs f (i + 1) = if f i = true then nI i else sv_gs f i := rfl
def sv_fo (f : Nat → Bool) (g : Nat → Int32) : Nat → Nat → Int32 → Int32
  | 0 => fun _ x => x
  | d + 1 => fun i x => if f i = true then (if x = -2 then sv_fo f g d (i + 1) (g i) else if x = g i then sv_fo f g d (i + 1) x else 2) else sv_fo f g d (i + 1) x
theorem sv_fo_s (f : Nat → Bool) (g : Nat → Int32) (d i : Nat) (x : Int32) : sv_fo f g (d + 1) i x = if f i = true then (if x = -2 then sv_fo f g d (i + 1) (g i) else if x = g i then sv_fo f g d (i + 1) x else 2) else sv_fo f g d (i + 1) x := rfl
theorem sv_fs_none (f : Nat → Bool) : ∀ d i, i + d ≤ 256 → (sv_fs f d i = -2 ↔ ∀ j, i ≤ j → j < i + d → f j = false) := by
  intro d
  induction d with
  | zero => intro i _; exact ⟨fun _ j a b => by omega, fun _ => rfl⟩
  | succ d ih =>
    intro i hi
    rw [sv_fs_s]
    by_cases q : f i = true
    · rw [if_pos q]
      constructor
      · intro z
        exact absurd z ((by decide +kernel : ∀ k, k < 256 → ¬ nI k = -2) i (by omega))
      · intro z
        have := z i (Nat.le_refl i) (by omega)
        rw [q] at this
        exact absurd this (by decide)
    · rw [if_neg q, ih (i + 1) (by omega)]
      constructor
      · intro z j a b
        by_cases e : j = i
        · rw [e]; revert q; cases f i <;> simp
        · exact z j (by omega) (by omega)
      · intro z j a b
        exact z j (by omega) (by omega)
section
variable {w tp : Int32} {sh : Nat → Int32} {wp wv : Nat → Int64} {cf nd : Nat → Int32} {wa le : Nat → Int32} {M : Nat}
theorem sv_b1 {b : Bool} (h : b = true) : ¬ (if b = true then (1 : Int32) else 0) = 0 := by rw [if_pos h]; decide
theorem sv_b0 {b : Bool} (h : ¬ b = true) : (if b = true then (1 : Int32) else 0) = 0 := by rw [if_neg h]
theorem sv_Xseeds {post : Int32 → Prop} {g : Nat} (hM : M ≤ 256) (hg : g < 64) (hW : sv_W wp wv wa) (h : post (sv_cnt (fun j => sv_ft w tp sh wa (nI j) g) M)) :
    ∃ n, wX_seeds_13 post (nI g) w (nI M) tp sh wp wv cf nd n 0 0 := by
  have key : ∀ d i, i + d = M → wX_seeds_13 post (nI g) w (nI M) tp sh wp wv cf nd (d + 1) (sv_cnt (fun j => sv_ft w tp sh wa (nI j) g) i) (nI i) := by
    intro d
    induction d with
    | zero =>
      intro i hi
      obtain rfl : i = M := by omega
      exact br_t (nI_le (Nat.le_refl _) (by omega)) h
    | succ d ih =>
      intro i hi
      have nx := ih (i + 1) (by omega)
      rw [sv_cnt_s] at nx
      refine br_f (nI_ge (by omega) (by omega)) (sv_Xfits hg hW ?_)
      by_cases q : sv_ft w tp sh wa (nI i) g = true
      · rw [if_pos q] at nx
        exact br_f (sv_b1 q) (nm_e (nm_r (nI_1 i) nx))
      · rw [if_neg q] at nx
        exact br_t (sv_b0 q) (nm_r (nI_1 i) nx)
  exact ⟨M + 1, key M 0 (by omega)⟩
theorem sv_Yseeds {post : Int32 → Prop} {g : Nat} (hM : M ≤ 256) (hg : g < 64) (hm : (1 : Int32) <<< (w &&& 31) = nI M) (h : post (sv_cnt (fun j => sv_ft w tp sh wa (nI j) g) M)) :
    ∃ n, wY_seeds_14 post (nI g) w tp sh wa le n 0 0 := by
  have key : ∀ d i, i + d = M → wY_seeds_14 post (nI g) w tp sh wa le (d + 1) (sv_cnt (fun j => sv_ft w tp sh wa (nI j) g) i) (nI i) := by
    intro d
    induction d with
    | zero =>
      intro i hi
      obtain rfl : i = M := by omega
      exact br_t (by rw [hm]; exact nI_le (Nat.le_refl _) (by omega)) h
    | succ d ih =>
      intro i hi
      have nx := ih (i + 1) (by omega)
      rw [sv_cnt_s] at nx
      refine br_f (by rw [hm]; exact nI_ge (by omega) (by omega)) (sv_Yfits hg ?_)
      by_cases q : sv_ft w tp sh wa (nI i) g = true
      · rw [if_pos q] at nx
        exact br_f (sv_b1 q) (nm_e (nm_r (nI_1 i) nx))
      · rw [if_neg q] at nx
        exact br_t (sv_b0 q) (nm_r (nI_1 i) nx)
  exact ⟨M + 1, key M 0 (by omega)⟩
theorem sv_Xleast {post : Int32 → Prop} {g : Nat} (hM : M ≤ 256) (hg : g < 64) (hW : sv_W wp wv wa) (h : post (sv_fs (fun j => sv_ft w tp sh wa (nI j) g) M 0)) :
    ∃ n, wX_leastSeed_11 post (nI g) w (nI M) tp sh wp wv cf nd n 0 := by
  have key : ∀ d i, i + d = M → post (sv_fs (fun j => sv_ft w tp sh wa (nI j) g) d i) → wX_leastSeed_11 post (nI g) w (nI M) tp sh wp wv cf nd (d + 1) (nI i) := by
    intro d
    induction d with
    | zero =>
      intro i hi hz
      obtain rfl : i = M := by omega
      exact br_t (nI_le (Nat.le_refl _) (by omega)) hz
    | succ d ih =>
      intro i hi h
      rw [sv_fs_s] at h
      refine br_f (nI_ge (by omega) (by omega)) (sv_Xfits hg hW ?_)
      by_cases q : sv_ft w tp sh wa (nI i) g = true
      · rw [if_pos q] at h
        exact br_f (sv_b1 q) h
      · rw [if_neg q] at h
        exact br_t (sv_b0 q) (nm_r (nI_1 i) (ih (i + 1) (by omega) h))
  exact ⟨M + 1, key M 0 (by omega) h⟩
theorem sv_Yfirst {post : Int32 → Prop} {g : Nat} (hM : M ≤ 256) (hg : g < 64) (hm : (1 : Int32) <<< (w &&& 31) = nI M) (h : post (sv_fs (fun j => sv_ft w tp sh wa (nI j) g) M 0)) :
    wpY_firstSeed post (w, tp, sh, wa, le) (nI g) := by
  have key : ∀ d i, i + d = M → post (sv_fs (fun j => sv_ft w tp sh wa (nI j) g) d i) → wY_firstSeed_2 post (nI g) w tp sh wa le (d + 1) (nI i) := by
    intro d
    induction d with
    | zero =>
      intro i hi hz
      obtain rfl : i = M := by omega
      exact br_t (by rw [hm]; exact nI_le (Nat.le_refl _) (by omega)) hz
    | succ d ih =>
      intro i hi h
      rw [sv_fs_s] at h
      refine br_f (by rw [hm]; exact nI_ge (by omega) (by omega)) (sv_Yfits hg ?_)
      by_cases q : sv_ft w tp sh wa (nI i) g = true
      · rw [if_pos q] at h
        exact br_f (sv_b1 q) h
      · rw [if_neg q] at h
        exact br_t (sv_b0 q) (nm_r (nI_1 i) (ih (i + 1) (by omega) h))
  exact ⟨M + 1, key M 0 (by omega) h⟩
theorem sv_Xgreat {post : Int32 → Prop} {g : Nat} (hg : g < 64) (hW : sv_W wp wv wa) {sc : Int32} : ∀ i, i ≤ 256 → post (sv_gs (fun j => sv_ft w tp sh wa (nI j) g) i) →
    wX_greatestSeed_16 post (nI g) w sc tp sh wp wv cf nd (i + 1) (nI i + (-1)) := by
  intro i
  induction i with
  | zero => intro _ h; exact br_t (by decide) h
  | succ i ih =>
    intro hi h
    rw [sv_gs_s] at h
    rw [pk_m1]
    refine br_f (nI_pos (by omega)) (sv_Xfits hg hW ?_)
    by_cases q : sv_ft w tp sh wa (nI i) g = true
    · rw [if_pos q] at h
      exact br_f (sv_b1 q) h
    · rw [if_neg q] at h
      exact br_t (sv_b0 q) (nm_e (ih (by omega) h))
theorem sv_Ygreat {post : Int32 → Prop} {g : Nat} (hg : g < 64) : ∀ i, i ≤ 256 → post (sv_gs (fun j => sv_ft w tp sh wa (nI j) g) i) →
    wY_greatestSeed_19 post (nI g) w tp sh wa le (i + 1) (nI i + (-1)) := by
  intro i
  induction i with
  | zero => intro _ h; exact br_t (by decide) h
  | succ i ih =>
    intro hi h
    rw [sv_gs_s] at h
    rw [pk_m1]
    refine br_f (nI_pos (by omega)) (sv_Yfits hg ?_)
    by_cases q : sv_ft w tp sh wa (nI i) g = true
    · rw [if_pos q] at h
      exact br_f (sv_b1 q) h
    · rw [if_neg q] at h
      exact br_t (sv_b0 q) (nm_e (ih (by omega) h))
theorem sv_Xforced {post : Int32 → Prop} {g cy ch : Nat} (hM : M ≤ 256) (hg : g < 64) (hcy : cy < 16) (hch : ch < 4) (hW : sv_W wp wv wa)
    (h : post (sv_fo (fun j => sv_ft w tp sh wa (nI j) g) (fun j => sv_val w tp sh (nI j) cy ch) M 0 (-2))) :
    ∃ n, wX_forced_30 post (nI g) (nI cy) (nI ch) w (nI M) tp sh wp wv cf nd n (-2) 0 := by
  have key : ∀ d i x, i + d = M → post (sv_fo (fun j => sv_ft w tp sh wa (nI j) g) (fun j => sv_val w tp sh (nI j) cy ch) d i x) → wX_forced_30 post (nI g) (nI cy) (nI ch) w (nI M) tp sh wp wv cf nd (d + 1) x (nI i) := by
    intro d
    induction d with
    | zero =>
      intro i x hi hz
      obtain rfl : i = M := by omega
      exact br_t (nI_le (Nat.le_refl _) (by omega)) hz
    | succ d ih =>
      intro i x hi h
      rw [sv_fo_s] at h
      refine br_f (nI_ge (by omega) (by omega)) (sv_Xfits hg hW ?_)
      by_cases q : sv_ft w tp sh wa (nI i) g = true
      · rw [if_pos q] at h
        refine br_f (sv_b1 q) (sv_Xchain hcy hch ?_)
        by_cases q2 : x = -2
        · rw [if_pos q2] at h
          exact br_t q2 (nm_r (nI_1 i) (ih (i + 1) _ (by omega) h))
        · rw [if_neg q2] at h
          refine br_f q2 ?_
          by_cases q3 : x = sv_val w tp sh (nI i) cy ch
          · rw [if_pos q3] at h
            exact br_t q3 (nm_r (nI_1 i) (ih (i + 1) _ (by omega) (q3 ▸ h)))
          · rw [if_neg q3] at h
            exact br_f q3 h
      · rw [if_neg q] at h
        exact br_t (sv_b0 q) (nm_r (nI_1 i) (ih (i + 1) _ (by omega) h))
  exact ⟨M + 1, key M 0 _ (by omega) h⟩
theorem sv_Yforced2 {post : Int32 → Prop} {g cy ch : Nat} (hM : M ≤ 256) (hg : g < 64) (hcy : cy < 16) (hch : ch < 4) (hm : (1 : Int32) <<< (w &&& 31) = nI M) (h : post 2) :
    ∀ d i, i + d = M → wY_forced_26 post (nI g) (nI cy) (nI ch) w tp sh wa le (d + 1) 2 (nI i) := by
  intro d
  induction d with
  | zero =>
    intro i hi
    obtain rfl : i = M := by omega
    exact br_t (by rw [hm]; exact nI_le (Nat.le_refl _) (by omega)) h
  | succ d ih =>
    intro i hi
    have nx := ih (i + 1) (by omega)
    refine br_f (by rw [hm]; exact nI_ge (by omega) (by omega)) (sv_Yfits hg ?_)
    by_cases q : sv_ft w tp sh wa (nI i) g = true
    · refine br_f (sv_b1 q) (sv_Ychain hcy hch ?_)
      exact br_f (by decide) (br_c (fun _ => nm_r (nI_1 i) nx) (fun _ => nm_r (nI_1 i) nx))
    · exact br_t (sv_b0 q) (nm_r (nI_1 i) nx)
theorem sv_Yforced {post : Int32 → Prop} {g cy ch : Nat} (hM : M ≤ 256) (hg : g < 64) (hcy : cy < 16) (hch : ch < 4) (hm : (1 : Int32) <<< (w &&& 31) = nI M)
    (h : post (sv_fo (fun j => sv_ft w tp sh wa (nI j) g) (fun j => sv_val w tp sh (nI j) cy ch) M 0 (-2))) :
    ∃ n, wY_forced_26 post (nI g) (nI cy) (nI ch) w tp sh wa le n (-2) 0 := by
  have key : ∀ d i x, i + d = M → post (sv_fo (fun j => sv_ft w tp sh wa (nI j) g) (fun j => sv_val w tp sh (nI j) cy ch) d i x) → wY_forced_26 post (nI g) (nI cy) (nI ch) w tp sh wa le (d + 1) x (nI i) := by
    intro d
    induction d with
    | zero =>
      intro i x hi hz
      obtain rfl : i = M := by omega
      exact br_t (by rw [hm]; exact nI_le (Nat.le_refl _) (by omega)) hz
    | succ d ih =>
      intro i x hi h
      rw [sv_fo_s] at h
      refine br_f (by rw [hm]; exact nI_ge (by omega) (by omega)) (sv_Yfits hg ?_)
      by_cases q : sv_ft w tp sh wa (nI i) g = true
      · rw [if_pos q] at h
        refine br_f (sv_b1 q) (sv_Ychain hcy hch ?_)
        by_cases q2 : x = -2
        · rw [if_pos q2] at h
          exact br_t q2 (nm_r (nI_1 i) (ih (i + 1) _ (by omega) h))
        · rw [if_neg q2] at h
          refine br_f q2 ?_
          by_cases q3 : x = sv_val w tp sh (nI i) cy ch
          · rw [if_pos q3] at h
            exact br_t q3 (nm_r (nI_1 i) (ih (i + 1) _ (by omega) h))
          · rw [if_neg q3] at h
            exact br_f q3 (nm_r (nI_1 i) (sv_Yforced2 hM hg hcy hch hm h d (i + 1) (by omega)))
      · rw [if_neg q] at h
        exact br_t (sv_b0 q) (nm_r (nI_1 i) (ih (i + 1) _ (by omega) h))
  exact ⟨M + 1, key M 0 _ (by omega) h⟩
end
end
section
theorem sv_restI : ∀ g, g < 64 → ∀ f, f < 64 → nI g &&& (nI f ^^^ (-1)) = nI (sv_rest g f) := by decide +kernel
section
variable {w tp : Int32} {sh : Nat → Int32} {wp wv : Nat → Int64} {cf nd : Nat → Int32} {wa le : Nat → Int32} {M : Nat} {fm : Nat → Nat}
theorem sv_Xneed {post : Int32 → Prop} {g : Nat} (hM : M ≤ 256) (hg : g < 64) (hg0 : g ≠ 0) (hfm : ∀ j, fm j < 64) (hcf : ∀ j, j < M → cf j = nI (fm j)) (hnd : ∀ g', g' < g → sv_good M fm (nd g') g')
    (h : ∀ x, sv_good M fm x g → post x) : wpX_neededFor post (w, nI M, tp, sh, wp, wv, cf, nd) (nI g) := by
  have key : ∀ d i x, i + d = M → sv_nf M fm g i x → wX_neededFor_5 post (nI g) w (nI M) tp sh wp wv cf nd (d + 1) x (nI i) := by
    intro d
    induction d with
    | zero =>
      intro i x hi hx
      obtain rfl : i = M := by omega
      exact br_t (nI_le (Nat.le_refl _) (by omega)) (h x (sv_nf_end hg0 hx))
    | succ d ih =>
      intro i x hi hx
      have hr := sv_rest_le g (fm i)
      refine br_f (nI_ge (by omega) (by omega)) ⟨vp_in_nI (by omega) (by decide), nm_r (e' := nI (sv_rest g (fm i))) ?_ ?_⟩
      · rw [nI_clamp (by omega), hcf i (by omega), sv_restI g hg (fm i) (hfm i)]
      · by_cases e : sv_rest g (fm i) = g
        · refine br_t (by rw [e]) (nm_r (nI_1 i) (ih (i + 1) x (by omega) (sv_nf_same e hx)))
        · have hin : vp_in (nI (sv_rest g (fm i))) 64 := vp_in_nI (by omega) (by decide)
          refine br_f (fun z => e ((nI_eq (by omega) (by omega)).mp z)) ⟨hin, ?_⟩
          rw [nI_clamp (by omega)]
          have hy := hnd (sv_rest g (fm i)) (by omega)
          by_cases e2 : nd (sv_rest g (fm i)) = -2
          · exact br_t e2 (nm_r (nI_1 i) (ih (i + 1) x (by omega) (sv_nf_none hy hg e2 hx)))
          · obtain ⟨t1, t2, t3⟩ := sv_nf_take (by omega) hy hg e e2 hx
            refine br_f e2 ⟨hin, nm_e (br_c (fun z => nm_r (nI_1 i) (ih (i + 1) _ (by omega) (t1 z))) (fun z => br_c (fun q => nm_r (nI_1 i) (ih (i + 1) _ (by omega) (t2 z q))) (fun q => nm_r (nI_1 i) (ih (i + 1) _ (by omega) (t3 z q)))))⟩
  exact ⟨M + 1, key M 0 _ (by omega) (sv_nf_0 M fm g)⟩
theorem sv_Xneed45 {post : Int32 → SX → Prop} {S : Nat} (hM : M ≤ 256) (hS : S < 64) (hfm : ∀ j, fm j < 64) (hcf : ∀ j, j < M → cf j = nI (fm j))
    (h : ∀ x nd', sv_good M fm x S → post x (w, nI M, tp, sh, wp, wv, cf, nd')) :
    ∀ d i nd, i + d = S + 1 → 0 < i → (∀ g, g < i → sv_good M fm (nd g) g) → wX_seedsNeeded_45 post (nI S) w (nI M) tp (d + 1) (nI i) sh wp wv cf nd := by
  intro d
  induction d with
  | zero =>
    intro i nd hi _ hnd
    obtain rfl : i = S + 1 := by omega
    refine br_t (nI_lt (by omega) (by omega)) ⟨vp_in_nI hS (by decide), ?_⟩
    rw [nI_clamp (by omega)]
    exact h _ nd (hnd S (by omega))
  | succ d ih =>
    intro i nd hi h0 hnd
    refine br_f (nI_nlt (by omega) (by omega)) (sv_Xneed hM (by omega) (by omega) hfm hcf hnd (fun x hx => ⟨vp_in_nI (by omega) (by decide), nm_e (nm_r (nI_1 i) (ih (i + 1) _ (by omega) (by omega) ?_))⟩))
    intro g hg
    rw [nI_clamp (by omega)]
    by_cases e : g = i
    · rw [e, pk_us]; exact hx
    · rw [pk_un e]; exact hnd g (by omega)
theorem sv_Xneeded {post : Int32 → SX → Prop} {S : Nat} (hM : M ≤ 256) (hS : S < 64) (hW : sv_W wp wv wa)
    (h : ∀ x cf' nd', sv_good M (fun j => sv_fm w tp sh wa (nI j)) x S → post x (w, nI M, tp, sh, wp, wv, cf', nd')) :
    ∃ n, wX_seedsNeeded_11 post (nI S) w (nI M) tp n 0 sh wp wv cf nd := by
  have key : ∀ d i cf, i + d = M → (∀ j, j < i → cf j = nI (sv_fm w tp sh wa (nI j))) → wX_seedsNeeded_11 post (nI S) w (nI M) tp (d + 1) (nI i) sh wp wv cf nd := by
    intro d
    induction d with
    | zero =>
      intro i cf hi hcf
      obtain rfl : i = M := by omega
      refine br_t (nI_le (Nat.le_refl _) (by omega)) (nm_e ⟨S + 1, ?_⟩)
      refine sv_Xneed45 (fm := fun j => sv_fm w tp sh wa (nI j)) hM hS (fun j => sv_fm_lt w tp sh wa (nI j)) hcf (fun x nd' hx => h x cf nd' hx) S 1 _ (by omega) (by omega) ?_
      intro g hg
      obtain rfl : g = 0 := by omega
      exact sv_good_0 _ _
    | succ d ih =>
      intro i cf hi hcf
      refine br_f (nI_ge (by omega) (by omega)) (sv_Xfitted hW ⟨vp_in_nI (by omega) (by decide), nm_e (nm_r (nI_1 i) (ih (i + 1) _ (by omega) ?_))⟩)
      intro j hj
      rw [nI_clamp (by omega)]
      by_cases e : j = i
      · rw [e, pk_us]
      · rw [pk_un e]; exact hcf j (by omega)
  exact ⟨M + 1, key M 0 cf (by omega) (fun j hj => absurd hj (Nat.not_lt_zero j))⟩
theorem sv_Y75off {post : Int32 → SY → Prop} {J : Int32 → (Nat → Int32) → (Nat → Int32) → (Nat → Int32) → Prop} {x1 : Int32} {P : Nat} (h : J (nI (P + 1)) sh wa le) :
    ∃ n, wY_seedsNeeded_75 post J x1 (nI P) 0 w tp n 0 sh wa le := by
  have key : ∀ d i, i + d = 64 → wY_seedsNeeded_75 post J x1 (nI P) 0 w tp (d + 1) (nI i) sh wa le := by
    intro d
    induction d with
    | zero =>
      intro i hi
      obtain rfl : i = 64 := by omega
      exact br_t (by decide) (nm_r (nI_1 P) h)
    | succ d ih =>
      intro i hi
      exact br_f (nI_ge (b := 64) (by omega) (by decide)) (br_t rfl (nm_r (nI_1 i) (ih (i + 1) (by omega))))
  exact ⟨65, key 64 0 rfl⟩
theorem sv_Y75on {post : Int32 → SY → Prop} {J : Int32 → (Nat → Int32) → (Nat → Int32) → (Nat → Int32) → Prop} {x1 : Int32} {P : Nat} {one : Nat → Bool} (hP0 : P ≠ 0) (hP : P < 64) (ho : one P = true)
    (hle : ∀ t, t < 64 → le t = nI (sv_L one P t)) (h : ∀ le', (∀ t, t < 64 → le' t = nI (sv_L one (P + 1) t)) → J (nI (P + 1)) sh wa le') :
    ∃ n, wY_seedsNeeded_75 post J x1 (nI P) 1 w tp n 0 sh wa le := by
  have key : ∀ d i le, i + d = 64 → (∀ t, t < 64 → le t = nI (sv_Li one P i t)) → wY_seedsNeeded_75 post J x1 (nI P) 1 w tp (d + 1) (nI i) sh wa le := by
    intro d
    induction d with
    | zero =>
      intro i le hi hl
      obtain rfl : i = 64 := by omega
      refine br_t (by decide) (nm_r (nI_1 P) (h le ?_))
      intro t ht
      rw [hl t ht, sv_Li_64 one P ht]
    | succ d ih =>
      intro i le hi hl
      refine br_f (nI_ge (b := 64) (by omega) (by decide)) (br_f (by decide) ?_)
      have hor : i ||| P < 64 := Nat.or_lt_two_pow (n := 6) (by omega) (by omega)
      rw [nx_and, nx_or]
      have hle : i &&& P ≤ P := Nat.and_le_right
      by_cases z : i &&& P = 0
      · refine br_t (by rw [z]; rfl) ⟨vp_in_nI (by omega) (by decide), vp_in_nI hor (by decide), ?_⟩
        rw [nI_clamp (by omega), nI_clamp (by omega), hl i (by omega), hl _ hor, sv_Li_src one hP0 z, sv_Li_dst one z, nI_1]
        have b1 := sv_L_le one P i
        have b2 := sv_L_le one P (i ||| P)
        have en := sv_Li_new ho z
        refine pk_le (sv_L one P (i ||| P)) (sv_L one P i + 1) (fun q => ?_) (fun q => ?_)
        · refine nm_r (nI_1 i) (ih (i + 1) le (by omega) ?_)
          intro t ht
          rw [hl t ht]
          by_cases e : t = i ||| P
          · subst e
            rw [en, if_neg (by omega), sv_Li_dst one z]
          · rw [sv_Li_other one e]
        · refine ⟨vp_in_nI (by omega) (by decide), vp_in_nI hor (by decide), nm_e (nm_r (nI_1 i) (ih (i + 1) _ (by omega) ?_))⟩
          intro t ht
          by_cases e : t = i ||| P
          · subst e
            rw [pk_us, en, if_pos (by omega)]
          · rw [pk_un e, hl t ht, sv_Li_other one e]
      · refine br_f (fun q => z ((nI_eq (b := 0) (by omega) (by omega)).mp q)) (nm_r (nI_1 i) (ih (i + 1) le (by omega) ?_))
        intro t ht
        rw [hl t ht, sv_Li_skip one z]
  exact ⟨65, key 64 0 le rfl (fun t ht => by rw [hle t ht, sv_Li_0])⟩
noncomputable def sv_one (w tp : Int32) (sh wa : Nat → Int32) (M S P : Nat) : Bool := decide (sv_rest P S = 0) && decide (¬ sv_fs (fun j => sv_ft w tp sh wa (nI j) P) M 0 = -2)
theorem sv_Y42 {post : Int32 → SY → Prop} {S : Nat} (hM : M ≤ 256) (hS : S < 64) (hm : (1 : Int32) <<< (w &&& 31) = nI M)
    (h : ∀ le', post (if sv_L (sv_one w tp sh wa M S) 64 S = 100 then -2 else nI (sv_L (sv_one w tp sh wa M S) 64 S)) (w, tp, sh, wa, le')) :
    ∀ d P le, P + d = 64 → 0 < P → (∀ t, t < 64 → le t = nI (sv_L (sv_one w tp sh wa M S) P t)) → wY_seedsNeeded_42 post (nI S) w tp (d + 1) (nI P) sh wa le := by
  intro d
  induction d with
  | zero =>
    intro P le hP _ hle
    obtain rfl : P = 64 := by omega
    have hh := h le
    have b := sv_L_le (sv_one w tp sh wa M S) 64 S
    refine br_t (by decide) ⟨vp_in_nI hS (by decide), ?_⟩
    rw [nI_clamp (by omega), hle S hS]
    refine pk_eq (sv_L (sv_one w tp sh wa M S) 64 S) 100 (fun e => ?_) (fun e => ⟨vp_in_nI hS (by decide), ?_⟩)
    · rw [if_pos e] at hh
      exact hh
    · rw [if_neg e] at hh
      exact hh
  | succ d ih =>
    intro P le hP h0 hle
    have off : sv_one w tp sh wa M S P = false → ∃ n, wY_seedsNeeded_75 post (wY_seedsNeeded_42 post (nI S) w tp (d + 1)) (nI S) (nI P) 0 w tp n 0 sh wa le := by
      intro hof
      apply sv_Y75off
      apply ih (P + 1) le (by omega) (by omega)
      intro t ht
      rw [hle t ht, ← sv_Li_64 _ P ht, sv_Li_off hof]
    refine br_f (nI_ge (b := 64) (by omega) (by decide)) ?_
    rw [sv_restI P (by omega) S hS]
    have hr := sv_rest_le P S
    by_cases e : sv_rest P S = 0
    · refine br_t (by rw [e]; rfl) (sv_Yfirst hM (by omega) hm ?_)
      by_cases q : sv_fs (fun j => sv_ft w tp sh wa (nI j) P) M 0 = -2
      · refine br_t q (off ?_)
        unfold sv_one
        have q2 : ¬ ¬ sv_fs (fun j => sv_ft w tp sh wa (nI j) P) M 0 = -2 := fun z => z q
        rw [decide_eq_false q2, Bool.and_false]
      · refine br_f q (sv_Y75on (one := sv_one w tp sh wa M S) (by omega) (by omega) ?_ hle (fun le' hl => ih (P + 1) le' (by omega) (by omega) hl))
        unfold sv_one
        rw [decide_eq_true e, decide_eq_true q]
        rfl
    · refine br_f (fun z => e ((nI_eq (b := 0) (by omega) (by omega)).mp z)) (off ?_)
      unfold sv_one
      rw [decide_eq_false e, Bool.false_and]
theorem sv_Yneeded {post : Int32 → SY → Prop} {S : Nat} (hM : M ≤ 256) (hS : S < 64) (hm : (1 : Int32) <<< (w &&& 31) = nI M)
    (h : ∀ le', post (if sv_L (sv_one w tp sh wa M S) 64 S = 100 then -2 else nI (sv_L (sv_one w tp sh wa M S) 64 S)) (w, tp, sh, wa, le')) :
    ∃ n, wY_seedsNeeded_12 post (nI S) w tp n 0 sh wa le := by
  have key : ∀ d i le, i + d = 64 → (∀ t, t < i → le t = nI (if t = 0 then 0 else 100)) → wY_seedsNeeded_12 post (nI S) w tp (d + 1) (nI i) sh wa le := by
    intro d
    induction d with
    | zero =>
      intro i le hi hle
      obtain rfl : i = 64 := by omega
      refine br_t (by decide) ⟨64, sv_Y42 hM hS hm h 63 1 le (by omega) (by omega) ?_⟩
      intro t ht
      rw [hle t ht, sv_L_1]
    | succ d ih =>
      intro i le hi hle
      refine br_f (nI_ge (b := 64) (by omega) (by decide)) (pk_eq i 0 (fun e => ?_) (fun e => ?_))
      · refine ⟨vp_in_nI (by omega) (by decide), nm_e (nm_r (nI_1 i) (ih (i + 1) _ (by omega) ?_))⟩
        intro t ht
        rw [nI_clamp (by omega)]
        obtain rfl : t = i := by omega
        rw [pk_us, if_pos e]
        rfl
      · refine ⟨vp_in_nI (by omega) (by decide), nm_e (nm_r (nI_1 i) (ih (i + 1) _ (by omega) ?_))⟩
        intro t ht
        rw [nI_clamp (by omega)]
        by_cases q : t = i
        · subst q
          rw [pk_us, if_neg e]
          rfl
        · rw [pk_un q]
          exact hle t (by omega)
  exact ⟨65, key 64 0 le rfl (fun t ht => absurd ht (Nat.not_lt_zero t))⟩
theorem sv_meet {S : Nat} {x : Int32} (hM : M ≤ 256) (hS : S < 64) (hx : sv_good M (fun j => sv_fm w tp sh wa (nI j)) x S) :
    (if sv_L (sv_one w tp sh wa M S) 64 S = 100 then -2 else nI (sv_L (sv_one w tp sh wa M S) 64 S)) = x := by
  have h1 : ∀ P, sv_one w tp sh wa M S P = true → ∃ j, j < M ∧ sv_sub P (sv_fm w tp sh wa (nI j)) := by
    intro P ho
    unfold sv_one at ho
    rw [Bool.and_eq_true, decide_eq_true_iff, decide_eq_true_iff] at ho
    apply Classical.byContradiction
    intro z
    apply ho.2
    rw [sv_fs_none _ M 0 (by omega)]
    intro j _ hj
    cases q : sv_ft w tp sh wa (nI j) P with
    | false => rfl
    | true =>
      exfalso
      unfold sv_ft at q
      rw [decide_eq_true_iff] at q
      exact z ⟨j, by omega, sv_sub_and.mp q⟩
  have h2 : ∀ P, P ≠ 0 → P < 64 → sv_sub P S → (∃ j, j < M ∧ sv_sub P (sv_fm w tp sh wa (nI j))) → sv_one w tp sh wa M S P = true := by
    intro P _ _ hs ⟨j, hj, hp⟩
    unfold sv_one
    rw [Bool.and_eq_true, decide_eq_true_iff, decide_eq_true_iff]
    constructor
    · apply Nat.eq_of_testBit_eq
      intro i
      rw [sv_rest_tb, Nat.zero_testBit]
      have := hs i
      revert this
      cases P.testBit i <;> cases S.testBit i <;> simp
    · intro z
      rw [sv_fs_none _ M 0 (by omega)] at z
      have a := z j (Nat.zero_le j) (by omega)
      have b : sv_ft w tp sh wa (nI j) P = true := by
        unfold sv_ft
        rw [decide_eq_true_iff]
        exact sv_sub_and.mpr hp
      rw [b] at a
      exact absurd a (by decide)
  obtain ⟨a, b⟩ := sv_final hS h1 h2 hx
  by_cases e : sv_L (sv_one w tp sh wa M S) 64 S = 100
  · rw [if_pos e]; exact (a e).symm
  · rw [if_neg e]; exact (b e).symm
end
end
section
theorem sv_lim {n : Nat} {x : Int32} (hn : n + 1 < 2 ^ 31) (h : nI (n + 1) ≤ x) : nI n < x := Int32.lt_of_lt_of_le (nI_lt (by omega) hn) h
section
variable {w tp : Int32} {sh : Nat → Int32} {wp wv : Nat → Int64} {cf nd : Nat → Int32} {wa le : Nat → Int32} {M : Nat} {post : Int32 → Prop} {p q : Int32} {i j : Nat}
theorem sv_XisChain_b (hp : p < 0 ∨ nI 4 ≤ p) (h : post 0) : wpX_isChain post p := by
  rcases hp with hp | hp
  · exact br_t hp h
  · exact br_c (fun _ => h) (fun _ => br_t hp h)
theorem sv_XisChain_o (hj : j < 4) (h : post 1) : wpX_isChain post (nI j) := br_f (nI_pos (by omega)) (br_f (nI_ge (b := 4) hj (by decide)) h)
theorem sv_XisCycle_b (hp : p < 0 ∨ nI 16 ≤ p) (h : post 0) : wpX_isCycle post p := by
  rcases hp with hp | hp
  · exact br_t hp h
  · exact br_c (fun _ => h) (fun _ => br_t hp h)
theorem sv_XisCycle_o (hj : j < 16) (h : post 1) : wpX_isCycle post (nI j) := br_f (nI_pos (by omega)) (br_f (nI_ge (b := 16) hj (by decide)) h)
theorem sv_XisCube_b (hp : p < 0 ∨ nI 6 ≤ p) (h : post 0) : wpX_isCube post p := by
  rcases hp with hp | hp
  · exact br_t hp h
  · exact br_c (fun _ => h) (fun _ => br_t hp h)
theorem sv_XisCube_o (hj : j < 6) (h : post 1) : wpX_isCube post (nI j) := br_f (nI_pos (by omega)) (br_f (nI_ge (b := 6) hj (by decide)) h)
theorem sv_XisSet_b (hp : p < 0 ∨ nI 64 ≤ p) (h : post 0) : wpX_isCubeSet post p := by
  rcases hp with hp | hp
  · exact br_t hp h
  · exact br_c (fun _ => h) (fun _ => br_t hp h)
theorem sv_XisSet_o (hj : j < 64) (h : post 1) : wpX_isCubeSet post (nI j) := br_f (nI_pos (by omega)) (br_f (nI_ge (b := 64) hj (by decide)) h)
theorem sv_XisState_b (hp : p < 0 ∨ nI M ≤ p) (h : post 0) : wpX_isState post (w, nI M, tp, sh, wp, wv, cf, nd) p := by
  rcases hp with hp | hp
  · exact br_t hp h
  · exact br_c (fun _ => h) (fun _ => br_t hp h)
theorem sv_XisState_o (hM : M ≤ 256) (hj : j < M) (h : post 1) : wpX_isState post (w, nI M, tp, sh, wp, wv, cf, nd) (nI j) := br_f (nI_pos (by omega)) (br_f (nI_ge hj (by omega)) h)
theorem sv_YisState_b (hm : (1 : Int32) <<< (w &&& 31) = nI M) (hp : p < 0 ∨ nI M ≤ p) (h : post 0) : wpY_isState post (w, tp, sh, wa, le) p := by
  rcases hp with hp | hp
  · exact br_t hp h
  · exact br_c (fun _ => h) (fun _ => br_t (by rw [hm]; exact hp) h)
theorem sv_YisState_o (hm : (1 : Int32) <<< (w &&& 31) = nI M) (hM : M ≤ 256) (hj : j < M) (h : post 1) : wpY_isState post (w, tp, sh, wa, le) (nI j) := br_f (nI_pos (by omega)) (br_f (by rw [hm]; exact nI_ge hj (by omega)) h)
theorem sv_YisSet_b (hp : p < 0 ∨ nI 64 ≤ p) (h : post 0) : wpY_isSet post (w, tp, sh, wa, le) p := by
  rcases hp with hp | hp
  · exact br_t hp h
  · exact br_c (fun _ => h) (fun _ => br_t (sv_lim (n := 63) (by decide) hp) h)
theorem sv_YisSet_o (hj : j < 64) (h : post 1) : wpY_isSet post (w, tp, sh, wa, le) (nI j) := br_f (nI_pos (by omega)) (br_f (nI_nlt (a := 63) (by omega) (by decide)) h)
theorem sv_YisPlace_b (hp : p < 0 ∨ nI 16 ≤ p) (h : post 0) : wpY_isPlace post (w, tp, sh, wa, le) p q := by
  rcases hp with hp | hp
  · exact br_t hp h
  · exact br_c (fun _ => h) (fun _ => br_t (sv_lim (n := 15) (by decide) hp) h)
theorem sv_YisPlace_c (hi : i < 16) (hp : p < 0 ∨ nI 4 ≤ p) (h : post 0) : wpY_isPlace post (w, tp, sh, wa, le) (nI i) p := by
  refine br_f (nI_pos (by omega)) (br_f (nI_nlt (a := 15) (by omega) (by decide)) ?_)
  rcases hp with hp | hp
  · exact br_t hp h
  · exact br_c (fun _ => h) (fun _ => br_t (sv_lim (n := 3) (by decide) hp) h)
theorem sv_YisPlace_o (hi : i < 16) (hj : j < 4) (h : post 1) : wpY_isPlace post (w, tp, sh, wa, le) (nI i) (nI j) :=
  br_f (nI_pos (by omega)) (br_f (nI_nlt (a := 15) (by omega) (by decide)) (br_f (nI_pos (by omega)) (br_f (nI_nlt (a := 3) (by omega) (by decide)) h)))
end
theorem sv_ix (x : Int32) {n : Nat} (hn : n < 2 ^ 31) : (x < 0 ∨ nI n ≤ x) ∨ ∃ j : Nat, j < n ∧ x = nI j := by
  rcases pk_ix x hn with a | a | a
  · exact Or.inl (Or.inl a)
  · exact Or.inl (Or.inr a)
  · exact Or.inr a
theorem sv_clr (a : Int64) {p q : Nat} (hp : p < 64) (hq : q < 64) : (a &&& (sv_pl p ^^^ (-1))).toBitVec.getLsbD q = (a.toBitVec.getLsbD q && !decide (p = q)) := by
  have h1 : (-1 : Int64).toBitVec = BitVec.allOnes 64 := by decide
  rw [Int64.toBitVec_and, Int64.toBitVec_xor, h1, BitVec.getLsbD_and, BitVec.getLsbD_xor, sv_pl_bit hp hq, BitVec.getLsbD_allOnes, decide_eq_true hq, Bool.xor_true]
theorem sv_set (a : Int64) {p q : Nat} (hp : p < 64) (hq : q < 64) : (a ||| sv_pl p).toBitVec.getLsbD q = (a.toBitVec.getLsbD q || decide (p = q)) := by
  rw [Int64.toBitVec_or, BitVec.getLsbD_or, sv_pl_bit hp hq]
theorem sv_W_put {wp wv wp' wv' : Nat → Int64} {wa : Nat → Int32} {c p : Nat} {x : Int32} (hW : sv_W wp wv wa) (hp : p < 64) (h1 : ∀ c', c' ≠ c → wp' c' = wp c' ∧ wv' c' = wv c')
    (h2 : ∀ q, q < 64 → q ≠ p → (wp' c).toBitVec.getLsbD q = (wp c).toBitVec.getLsbD q ∧ (wv' c).toBitVec.getLsbD q = (wv c).toBitVec.getLsbD q)
    (h3 : (x = 2 ∧ (wp' c).toBitVec.getLsbD p = false) ∨ (x = 0 ∧ (wp' c).toBitVec.getLsbD p = true ∧ (wv' c).toBitVec.getLsbD p = false) ∨ (x = 1 ∧ (wp' c).toBitVec.getLsbD p = true ∧ (wv' c).toBitVec.getLsbD p = true)) :
    sv_W wp' wv' (upd wa (64 * c + p) x) := by
  intro c' hc' q hq
  by_cases e : c' = c
  · subst e
    by_cases e2 : q = p
    · subst e2
      rw [pk_us]
      exact h3
    · rw [pk_un (by omega), (h2 q hq e2).1, (h2 q hq e2).2]
      exact hW c' hc' q hq
  · rw [pk_un (by omega), (h1 c' e).1, (h1 c' e).2]
    exact hW c' hc' q hq
def sv_R (u : SX) (v : SY) : Prop := ∃ (w tp : Int32) (sh : Nat → Int32) (wp wv : Nat → Int64) (cf nd wa le : Nat → Int32) (M : Nat),
  1 ≤ M ∧ M ≤ 256 ∧ (1 : Int32) <<< (w &&& 31) = nI M ∧ sv_W wp wv wa ∧ u = (w, nI M, tp, sh, wp, wv, cf, nd) ∧ v = (w, tp, sh, wa, le)
theorem sv_Rmk {w tp : Int32} {sh : Nat → Int32} {wp wv : Nat → Int64} {cf nd wa le : Nat → Int32} {M : Nat} (h1 : 1 ≤ M) (h2 : M ≤ 256) (hm : (1 : Int32) <<< (w &&& 31) = nI M) (hW : sv_W wp wv wa) :
    sv_R (w, nI M, tp, sh, wp, wv, cf, nd) (w, tp, sh, wa, le) := ⟨w, tp, sh, wp, wv, cf, nd, wa, le, M, h1, h2, hm, hW, rfl, rfl⟩
end
section
def sv_shf (x3 : Int32) : Nat → Nat → Int32
  | 0 => fun _ => 0
  | i + 1 => upd (sv_shf x3 i) i ((1 : Int32) <<< ((nI i - nI i / x3 * x3) &&& 31))
theorem sv_mM : ∀ m, m < 9 → (1 : Int32) <<< (nI m &&& 31) = nI (2 ^ m) := by decide +kernel
theorem sv_X62 {post : SX → Prop} {m : Nat} {k1 : Int32} (hm0 : m ≠ 0) (hm : m < 9)
    (h : post (nI m, nI (2 ^ m), k1 &&& (nI (2 ^ m) - 1), sv_shf (nI m) 4, fun _ => 0, fun _ => 0, fun _ => 0, fun _ => 0)) :
    wX_init_62 post k1 (nI m) 0 0 0 (fun _ => 0) (fun _ => 0) (fun _ => 0) (fun _ => 0) (fun _ => 0) := by
  refine nm_r (sv_mM m hm) (nm_e ⟨5, ?_⟩)
  have key : ∀ d i, i + d = 4 → wX_init_89 post (nI m) (nI m) (nI (2 ^ m)) (k1 &&& (nI (2 ^ m) - 1)) (d + 1) (nI i) (sv_shf (nI m) i) (fun _ => 0) (fun _ => 0) (fun _ => 0) (fun _ => 0) := by
    intro d
    induction d with
    | zero =>
      intro i hi
      obtain rfl : i = 4 := by omega
      exact br_t (by decide) h
    | succ d ih =>
      intro i hi
      refine br_f (nI_ge (b := 4) (by omega) (by decide)) ⟨nI_ne0 (by omega) (by omega), vp_in_nI (by omega) (by decide), nm_r (e' := sv_shf (nI m) (i + 1)) ?_ (nm_r (nI_1 i) (ih (i + 1) (by omega)))⟩
      rw [nI_clamp (by omega)]
      rfl
  exact key 4 0 rfl
theorem sv_Y50 {post : SY → Prop} {m : Nat} {k1 : Int32} (hm0 : m ≠ 0) (hm : m < 9)
    (h : ∀ wa, (∀ t, t < 384 → wa t = 2) → post (nI m, k1 &&& (nI (2 ^ m) - 1), sv_shf (nI m) 4, wa, fun _ => 0)) :
    wY_init_50 post k1 (nI m) 0 0 (fun _ => 0) (fun _ => 0) (fun _ => 0) := by
  have key2 : ∀ d i wa, i + d = 384 → (∀ t, t < i → wa t = 2) → wY_init_96 post (nI m) (k1 &&& (nI (2 ^ m) - 1)) (d + 1) (nI i) (sv_shf (nI m) 4) wa (fun _ => 0) := by
    intro d
    induction d with
    | zero =>
      intro i wa hi hw
      obtain rfl : i = 384 := by omega
      exact br_t (by decide) (h wa hw)
    | succ d ih =>
      intro i wa hi hw
      refine br_f (nI_ge (b := 384) (by omega) (by decide)) ⟨vp_in_nI (by omega) (by decide), nm_e (nm_r (nI_1 i) (ih (i + 1) _ (by omega) ?_))⟩
      intro t ht
      rw [nI_clamp (by omega)]
      by_cases e : t = i
      · rw [e, pk_us]
      · rw [pk_un e]; exact hw t (by omega)
  have key : ∀ d i, i + d = 4 → wY_init_69 post (nI m) (k1 &&& (nI (2 ^ m) - 1)) (d + 1) (nI i) (sv_shf (nI m) i) (fun _ => 0) (fun _ => 0) := by
    intro d
    induction d with
    | zero =>
      intro i hi
      obtain rfl : i = 4 := by omega
      exact br_t (by decide) ⟨385, key2 384 0 _ rfl (fun t ht => absurd ht (Nat.not_lt_zero t))⟩
    | succ d ih =>
      intro i hi
      refine br_f (nI_ge (b := 4) (by omega) (by decide)) ⟨nI_ne0 (by omega) (by omega), vp_in_nI (by omega) (by decide), nm_r (e' := sv_shf (nI m) (i + 1)) ?_ (nm_r (nI_1 i) (ih (i + 1) (by omega)))⟩
      rw [nI_clamp (by omega)]
      rfl
  exact nm_r (by rw [sv_mM m hm]) ⟨5, key 4 0 rfl⟩
def i_Rel (k : Nat) (u : SX) (v : SY) : Prop := sv_R u v
theorem i_up {k : Nat} {u : SX} {v : SY} (h : i_Rel k u v) : i_Rel (k + 5) u v := h
theorem sv_start {m : Nat} {k1 : Int32} (hm0 : m ≠ 0) (hm : m < 9) {Q : SX → Prop}
    (h : ∀ u, (∀ wa, (∀ t, t < 384 → wa t = 2) → i_Rel 2 u (nI m, k1 &&& (nI (2 ^ m) - 1), sv_shf (nI m) 4, wa, fun _ => 0)) → Q u) :
    wX_init_62 Q k1 (nI m) 0 0 0 (fun _ => 0) (fun _ => 0) (fun _ => 0) (fun _ => 0) (fun _ => 0) := by
  refine sv_X62 hm0 hm (h _ (fun wa hw => ?_))
  have h1 : 1 ≤ 2 ^ m := Nat.two_pow_pos m
  have h2 : 2 ^ m ≤ 2 ^ 8 := Nat.pow_le_pow_right (by decide) (by omega)
  refine sv_Rmk h1 h2 (sv_mM m hm) ?_
  intro c hc p hp
  refine Or.inl ⟨hw _ (by omega), ?_⟩
  exact BitVec.getLsbD_zero
theorem i_vc0 (k0 : Int32) (k1 : Int32) : wpX_init (fun u => wpY_init (fun v => i_Rel 2 u v) k0 k1) k0 k1 := by
  by_cases h3 : 3 ≤ k0
  · by_cases h8 : k0 ≤ 8
    · have hn : ¬ k0 < 0 := fun z => by
        have : (3 : Int32) < 0 := Int32.lt_of_le_of_lt h3 z
        exact absurd this (by decide)
      obtain ⟨m, hm, rfl⟩ := nI_of2 (M := 8) (n := 8) (by decide) hn h8
      have hm3 : 3 ≤ m := (nI_leI (a := 3) (by decide) (by omega)).mp h3
      exact br_t h3 (br_t h8 (sv_start (by omega) (by omega) (fun u hu => br_t h3 (br_t h8 (sv_Y50 (by omega) (by omega) hu)))))
    · exact br_t h3 (br_f h8 (sv_start (m := 8) (by omega) (by omega) (fun u hu => br_t h3 (br_f h8 (sv_Y50 (m := 8) (by omega) (by omega) hu)))))
  · exact br_f h3 (br_t (by decide) (sv_start (m := 3) (by omega) (by omega) (fun u hu => br_f h3 (sv_Y50 (m := 3) (by omega) (by omega) hu))))
end
section
theorem i_vc_shifter {k : Nat} {u : SX} {v : SY} (I : i_Rel k u v) (hk : k + 5 ≤ 2562) (v1 : Int32) (v2 : Int32) : wpX_shifter (fun r u' => wpY_shifter (fun r' v' => r' = r ∧ i_Rel (k + 5) u' v') v v1 v2) u v1 v2 := by
  obtain ⟨w, tp, sh, wp, wv, cf, nd, wa, le, M, h1, h2, hm, hW, rfl, rfl⟩ := I
  have R : ∀ sh', sv_R (w, nI M, tp, sh', wp, wv, cf, nd) (w, tp, sh', wa, le) := fun sh' => sv_Rmk h1 h2 hm hW
  unfold wpX_shifter wpY_shifter
  dsimp only
  rcases sv_ix v1 (n := 4) (by decide) with a | ⟨c, hc, rfl⟩
  · refine sv_XisChain_b a (br_t rfl ?_)
    rcases a with a | a
    · exact br_t a ⟨rfl, R sh⟩
    · exact br_c (fun _ => ⟨rfl, R sh⟩) (fun _ => br_t (sv_lim (n := 3) (by decide) a) ⟨rfl, R sh⟩)
  · refine sv_XisChain_o hc (br_f (by decide) ?_)
    have q1 : ¬ nI c < 0 := nI_pos (by omega)
    have q2 : ¬ (3 : Int32) < nI c := nI_nlt (a := 3) (by omega) (by decide)
    rcases sv_ix v2 (n := M) (by omega) with b | ⟨j, hj, rfl⟩
    · exact sv_XisState_b b (br_t rfl (br_f q1 (br_f q2 (sv_YisState_b hm b (br_t rfl ⟨rfl, R sh⟩)))))
    · have hin : vp_in (nI c) 4 := vp_in_nI hc (by decide)
      exact sv_XisState_o h2 hj (br_f (by decide) ⟨hin, nm_e (br_f q1 (br_f q2 (sv_YisState_o hm h2 hj (br_f (by decide) ⟨hin, nm_e ⟨rfl, R _⟩⟩))))⟩)
theorem i_vc_expand {k : Nat} {u : SX} {v : SY} (I : i_Rel k u v) (hk : k + 5 ≤ 2562) (v1 : Int32) (v2 : Int32) (v3 : Int32) : wpX_expand (fun r => wpY_expand (fun r' => r' = r ∧ i_Rel (k + 5) u v) v v1 v2 v3) u v1 v2 v3 := by
  have R : i_Rel (k + 5) u v := I
  obtain ⟨w, tp, sh, wp, wv, cf, nd, wa, le, M, h1, h2, hm, hW, rfl, rfl⟩ := I
  unfold wpX_expand wpY_expand
  dsimp only
  rcases sv_ix v1 (n := M) (by omega) with a | ⟨j, hj, rfl⟩
  · exact sv_XisState_b a (br_t rfl (sv_YisState_b hm a (br_t rfl ⟨rfl, R⟩)))
  · refine sv_XisState_o h2 hj (br_f (by decide) ?_)
    rcases sv_ix v2 (n := 16) (by decide) with b | ⟨cy, hcy, rfl⟩
    · exact sv_XisCycle_b b (br_t rfl (sv_YisState_o hm h2 hj (br_f (by decide) (sv_YisPlace_b b (br_t rfl ⟨rfl, R⟩)))))
    · refine sv_XisCycle_o hcy (br_f (by decide) ?_)
      rcases sv_ix v3 (n := 4) (by decide) with c | ⟨ch, hch, rfl⟩
      · exact sv_XisChain_b c (br_t rfl (sv_YisState_o hm h2 hj (br_f (by decide) (sv_YisPlace_c hcy c (br_t rfl ⟨rfl, R⟩)))))
      · exact sv_XisChain_o hch (br_f (by decide) (sv_Xchain hcy hch (sv_YisState_o hm h2 hj (br_f (by decide) (sv_YisPlace_o hcy hch (br_f (by decide) (sv_Ychain hcy hch ⟨rfl, R⟩)))))))
theorem i_vc_seeds {k : Nat} {u : SX} {v : SY} (I : i_Rel k u v) (hk : k + 5 ≤ 2562) (v1 : Int32) : wpX_seeds (fun r => wpY_seeds (fun r' => r' = r ∧ i_Rel (k + 5) u v) v v1) u v1 := by
  have R : i_Rel (k + 5) u v := I
  obtain ⟨w, tp, sh, wp, wv, cf, nd, wa, le, M, h1, h2, hm, hW, rfl, rfl⟩ := I
  unfold wpX_seeds wpY_seeds
  dsimp only
  rcases sv_ix v1 (n := 64) (by decide) with a | ⟨g, hg, rfl⟩
  · exact sv_XisSet_b a (br_t rfl (sv_YisSet_b a (br_t rfl ⟨rfl, R⟩)))
  · exact sv_XisSet_o hg (br_f (by decide) (sv_Xseeds h2 hg hW (sv_YisSet_o hg (br_f (by decide) (sv_Yseeds h2 hg hm ⟨rfl, R⟩)))))
theorem i_vc_leastSeed {k : Nat} {u : SX} {v : SY} (I : i_Rel k u v) (hk : k + 5 ≤ 2562) (v1 : Int32) : wpX_leastSeed (fun r => wpY_leastSeed (fun r' => r' = r ∧ i_Rel (k + 5) u v) v v1) u v1 := by
  have R : i_Rel (k + 5) u v := I
  obtain ⟨w, tp, sh, wp, wv, cf, nd, wa, le, M, h1, h2, hm, hW, rfl, rfl⟩ := I
  unfold wpX_leastSeed wpY_leastSeed
  dsimp only
  rcases sv_ix v1 (n := 64) (by decide) with a | ⟨g, hg, rfl⟩
  · exact sv_XisSet_b a (br_t rfl (sv_YisSet_b a (br_t rfl ⟨rfl, R⟩)))
  · exact sv_XisSet_o hg (br_f (by decide) (sv_Xleast h2 hg hW (sv_YisSet_o hg (br_f (by decide) (sv_Yfirst h2 hg hm ⟨rfl, R⟩)))))
theorem i_vc_greatestSeed {k : Nat} {u : SX} {v : SY} (I : i_Rel k u v) (hk : k + 5 ≤ 2562) (v1 : Int32) : wpX_greatestSeed (fun r => wpY_greatestSeed (fun r' => r' = r ∧ i_Rel (k + 5) u v) v v1) u v1 := by
  have R : i_Rel (k + 5) u v := I
  obtain ⟨w, tp, sh, wp, wv, cf, nd, wa, le, M, h1, h2, hm, hW, rfl, rfl⟩ := I
  unfold wpX_greatestSeed wpY_greatestSeed
  dsimp only
  rcases sv_ix v1 (n := 64) (by decide) with a | ⟨g, hg, rfl⟩
  · exact sv_XisSet_b a (br_t rfl (sv_YisSet_b a (br_t rfl ⟨rfl, R⟩)))
  · have e : nI M - 1 = nI M + (-1) := Int32.sub_eq_add_neg _ _
    refine sv_XisSet_o hg (br_f (by decide) (nm_r e ⟨M + 1, sv_Xgreat hg hW M h2 (sv_YisSet_o hg (br_f (by decide) (nm_r (e' := nI M + (-1)) (by rw [hm, e]) ⟨M + 1, sv_Ygreat hg M h2 ⟨rfl, R⟩⟩)))⟩))
theorem i_vc_forced {k : Nat} {u : SX} {v : SY} (I : i_Rel k u v) (hk : k + 5 ≤ 2562) (v1 : Int32) (v2 : Int32) (v3 : Int32) : wpX_forced (fun r => wpY_forced (fun r' => r' = r ∧ i_Rel (k + 5) u v) v v1 v2 v3) u v1 v2 v3 := by
  have R : i_Rel (k + 5) u v := I
  obtain ⟨w, tp, sh, wp, wv, cf, nd, wa, le, M, h1, h2, hm, hW, rfl, rfl⟩ := I
  unfold wpX_forced wpY_forced
  dsimp only
  rcases sv_ix v1 (n := 64) (by decide) with a | ⟨g, hg, rfl⟩
  · exact sv_XisSet_b a (br_t rfl (sv_YisSet_b a (br_t rfl ⟨rfl, R⟩)))
  · refine sv_XisSet_o hg (br_f (by decide) ?_)
    rcases sv_ix v2 (n := 16) (by decide) with b | ⟨cy, hcy, rfl⟩
    · exact sv_XisCycle_b b (br_t rfl (sv_YisSet_o hg (br_f (by decide) (sv_YisPlace_b b (br_t rfl ⟨rfl, R⟩)))))
    · refine sv_XisCycle_o hcy (br_f (by decide) ?_)
      rcases sv_ix v3 (n := 4) (by decide) with c | ⟨ch, hch, rfl⟩
      · exact sv_XisChain_b c (br_t rfl (sv_YisSet_o hg (br_f (by decide) (sv_YisPlace_c hcy c (br_t rfl ⟨rfl, R⟩)))))
      · exact sv_XisChain_o hch (br_f (by decide) (sv_Xforced h2 hg hcy hch hW (sv_YisSet_o hg (br_f (by decide) (sv_YisPlace_o hcy hch (br_f (by decide) (sv_Yforced h2 hg hcy hch hm ⟨rfl, R⟩)))))))
theorem i_vc_seedsNeeded {k : Nat} {u : SX} {v : SY} (I : i_Rel k u v) (hk : k + 5 ≤ 2562) (v1 : Int32) : wpX_seedsNeeded (fun r u' => wpY_seedsNeeded (fun r' v' => r' = r ∧ i_Rel (k + 5) u' v') v v1) u v1 := by
  obtain ⟨w, tp, sh, wp, wv, cf, nd, wa, le, M, h1, h2, hm, hW, rfl, rfl⟩ := I
  have R : ∀ cf' nd' le', sv_R (w, nI M, tp, sh, wp, wv, cf', nd') (w, tp, sh, wa, le') := fun cf' nd' le' => sv_Rmk h1 h2 hm hW
  unfold wpX_seedsNeeded wpY_seedsNeeded
  dsimp only
  rcases sv_ix v1 (n := 64) (by decide) with a | ⟨g, hg, rfl⟩
  · exact sv_XisSet_b a (br_t rfl (sv_YisSet_b a (br_t rfl ⟨rfl, R _ _ _⟩)))
  · exact sv_XisSet_o hg (br_f (by decide) (sv_Xneeded h2 hg hW (fun x cf' nd' hx => sv_YisSet_o hg (br_f (by decide) (sv_Yneeded h2 hg hm (fun le' => ⟨sv_meet h2 hg hx, R cf' nd' le'⟩))))))
theorem i_vc_forget {k : Nat} {u : SX} {v : SY} (I : i_Rel k u v) (hk : k + 5 ≤ 2562) (v1 : Int32) : wpX_forget (fun r u' => wpY_forget (fun r' v' => r' = r ∧ i_Rel (k + 5) u' v') v v1) u v1 := by
  obtain ⟨w, tp, sh, wp, wv, cf, nd, wa, le, M, h1, h2, hm, hW, rfl, rfl⟩ := I
  have R : ∀ wp' wv' wa', sv_W wp' wv' wa' → sv_R (w, nI M, tp, sh, wp', wv', cf, nd) (w, tp, sh, wa', le) := fun wp' wv' wa' h => sv_Rmk h1 h2 hm h
  unfold wpX_forget wpY_forget
  dsimp only
  rcases sv_ix v1 (n := 6) (by decide) with a | ⟨c, hc, rfl⟩
  · refine sv_XisCube_b a (br_t rfl ?_)
    rcases a with a | a
    · exact br_t a ⟨rfl, R _ _ _ hW⟩
    · refine br_c (fun _ => ⟨rfl, R _ _ _ hW⟩) (fun _ => br_f ?_ ⟨rfl, R _ _ _ hW⟩)
      exact Int32.not_le.mpr (sv_lim (n := 5) (by decide) a)
  · have hin : vp_in (nI c) 6 := vp_in_nI hc (by decide)
    refine sv_XisCube_o hc (br_f (by decide) ⟨hin, nm_e ⟨hin, nm_e ?_⟩⟩)
    refine br_f (nI_pos (by omega)) (br_t (nI_le (b := 5) (by omega) (by decide)) ?_)
    rw [nI_clamp (by omega)]
    have key : ∀ d i wa', i + d = 64 → (∀ p, p < i → wa' (64 * c + p) = 2) → (∀ t, (t < 64 * c ∨ 64 * c + 64 ≤ t) → wa' t = wa t) →
        wY_forget_13 (fun r' v' => r' = 1 ∧ i_Rel (k + 5) (w, nI M, tp, sh, vp_updL wp c 0, vp_updL wv c 0, cf, nd) v') (nI c) w tp (d + 1) (nI i) sh wa' le := by
      intro d
      induction d with
      | zero =>
        intro i wa' hi ha hb
        obtain rfl : i = 64 := by omega
        refine br_t (by decide) ⟨rfl, R _ _ _ ?_⟩
        intro c' hc' p hp
        by_cases e : c' = c
        · subst e
          refine Or.inl ⟨ha p hp, ?_⟩
          rw [pk_uLs]
          exact BitVec.getLsbD_zero
        · rw [pk_uLn e, pk_uLn e, hb _ (by omega)]
          exact hW c' hc' p hp
      | succ d ih =>
        intro i wa' hi ha hb
        have e : (64 : Int32) * nI c + nI i = nI (64 * c + i) := by
          rw [show (64 : Int32) = nI 64 from rfl, pk_mul, nI_add]
        refine br_f (nI_ge (b := 64) (by omega) (by decide)) ?_
        rw [e, nI_clamp (by omega)]
        refine ⟨vp_in_nI (by omega) (by decide), nm_e (nm_r (nI_1 i) (ih (i + 1) _ (by omega) ?_ ?_))⟩
        · intro p hp
          by_cases q : p = i
          · rw [q, pk_us]
          · rw [pk_un (by omega)]; exact ha p (by omega)
        · intro t ht
          rw [pk_un (by omega)]
          exact hb t ht
    exact ⟨65, key 64 0 wa rfl (fun p hp => absurd hp (Nat.not_lt_zero p)) (fun t _ => rfl)⟩
end
section
theorem sv_ne_dec {p q : Nat} (h : q ≠ p) : decide (p = q) = false := decide_eq_false (fun z => h z.symm)
theorem i_vc_want {k : Nat} {u : SX} {v : SY} (I : i_Rel k u v) (hk : k + 5 ≤ 2562) (v1 : Int32) (v2 : Int32) (v3 : Int32) (v4 : Int32) : wpX_want (fun r u' => wpY_want (fun r' v' => r' = r ∧ i_Rel (k + 5) u' v') v v1 v2 v3 v4) u v1 v2 v3 v4 := by
  obtain ⟨w, tp, sh, wp, wv, cf, nd, wa, le, M, h1, h2, hm, hW, rfl, rfl⟩ := I
  have R : ∀ wp' wv' wa', sv_W wp' wv' wa' → sv_R (w, nI M, tp, sh, wp', wv', cf, nd) (w, tp, sh, wa', le) := fun wp' wv' wa' h => sv_Rmk h1 h2 hm h
  unfold wpX_want
  dsimp only
  rcases sv_ix v1 (n := 6) (by decide) with a | ⟨c, hc, rfl⟩
  · refine sv_XisCube_b a (br_t rfl ?_)
    unfold wpY_want
    dsimp only
    rcases a with a | a
    · exact br_t a ⟨rfl, R _ _ _ hW⟩
    · exact br_c (fun _ => ⟨rfl, R _ _ _ hW⟩) (fun _ => br_t (sv_lim (n := 5) (by decide) a) ⟨rfl, R _ _ _ hW⟩)
  · have q1 : ¬ nI c < 0 := nI_pos (by omega)
    have q2 : ¬ (5 : Int32) < nI c := nI_nlt (a := 5) (by omega) (by decide)
    have hin : vp_in (nI c) 6 := vp_in_nI hc (by decide)
    refine sv_XisCube_o hc (br_f (by decide) ?_)
    rcases sv_ix v2 (n := 16) (by decide) with b | ⟨cy, hcy, rfl⟩
    · refine sv_XisCycle_b b (br_t rfl ?_)
      unfold wpY_want
      dsimp only
      exact ((br_f q1 (br_f q2 (sv_YisPlace_b b (br_t rfl ⟨rfl, R _ _ _ hW⟩)))))
    · refine sv_XisCycle_o hcy (br_f (by decide) ?_)
      rcases sv_ix v3 (n := 4) (by decide) with d | ⟨ch, hch, rfl⟩
      · refine sv_XisChain_b d (br_t rfl ?_)
        unfold wpY_want
        dsimp only
        exact ((br_f q1 (br_f q2 (sv_YisPlace_c hcy d (br_t rfl ⟨rfl, R _ _ _ hW⟩)))))
      · refine sv_XisChain_o hch (br_f (by decide) ?_)
        by_cases e0 : v4 < 0
        · refine br_t e0 ?_
          unfold wpY_want
          dsimp only
          exact (br_f q1 (br_f q2 (sv_YisPlace_o hcy hch (br_f (by decide) (br_t e0 ⟨rfl, R _ _ _ hW⟩)))))
        · refine br_f e0 ?_
          by_cases e2 : v4 ≤ 2
          · obtain ⟨x, hx, rfl⟩ := nI_of2 (M := 2) (n := 2) (by decide) e0 e2
            have hp : 4 * cy + ch < 64 := by omega
            have ei : ((64 : Int32) * nI c + 4 * nI cy) + nI ch = nI (64 * c + (4 * cy + ch)) := by
              rw [show (64 : Int32) = nI 64 from rfl, show (4 : Int32) = nI 4 from rfl, pk_mul, pk_mul, nI_add, nI_add, Nat.add_assoc]
            have Y : ∀ (wp' wv' : Nat → Int64), sv_W wp' wv' (upd wa (64 * c + (4 * cy + ch)) (nI x)) →
                wpY_want (fun r' v' => r' = 1 ∧ i_Rel (k + 5) (w, nI M, tp, sh, wp', wv', cf, nd) v') (w, tp, sh, wa, le) (nI c) (nI cy) (nI ch) (nI x) := by
              intro wp' wv' hW'
              unfold wpY_want
              dsimp only
              refine br_f q1 (br_f q2 (sv_YisPlace_o hcy hch (br_f (by decide) (br_f e0 (br_t e2 ?_)))))
              rw [ei]
              refine ⟨vp_in_nI (by omega) (by decide), nm_e ⟨rfl, R _ _ _ ?_⟩⟩
              rw [nI_clamp (by omega)]
              exact hW'
            have cl : (nI c).toNatClampNeg = c := nI_clamp (by omega)
            refine br_t e2 (sv_Xplace ?_)
            refine ⟨hin, hin, nm_e ⟨hin, hin, nm_e ?_⟩⟩
            rw [cl]
            have base : ∀ q, q < 64 → (wp c &&& (sv_pl (4 * cy + ch) ^^^ (-1))).toBitVec.getLsbD q = ((wp c).toBitVec.getLsbD q && !decide (4 * cy + ch = q)) := fun q hq => sv_clr _ hp hq
            have base2 : ∀ q, q < 64 → (wv c &&& (sv_pl (4 * cy + ch) ^^^ (-1))).toBitVec.getLsbD q = ((wv c).toBitVec.getLsbD q && !decide (4 * cy + ch = q)) := fun q hq => sv_clr _ hp hq
            rcases (by omega : x = 0 ∨ x = 1 ∨ x = 2) with rfl | rfl | rfl
            · refine br_f (by decide) ⟨hin, hin, nm_e ?_⟩
              rw [pk_uLs]
              unfold wX_want_90
              refine br_f (by decide) (Y _ _ (sv_W_put hW hp ?_ ?_ ?_))
              · intro c' e
                rw [pk_uLn e, pk_uLn e, pk_uLn e]
                exact ⟨rfl, rfl⟩
              · intro q hq e
                rw [pk_uLs, pk_uLs, sv_set _ hp hq, base q hq, base2 q hq, sv_ne_dec e]
                simp
              · refine Or.inr (Or.inl ⟨rfl, ?_, ?_⟩)
                · rw [pk_uLs, sv_set _ hp hp]
                  simp
                · rw [pk_uLs, base2 _ hp]
                  simp
            · refine br_f (by decide) ⟨hin, hin, nm_e ?_⟩
              rw [pk_uLs]
              unfold wX_want_90
              refine br_t rfl ⟨hin, hin, nm_e ?_⟩
              rw [cl, pk_uLs]
              refine Y _ _ (sv_W_put hW hp ?_ ?_ ?_)
              · intro c' e
                rw [pk_uLn e, pk_uLn e, pk_uLn e, pk_uLn e]
                exact ⟨rfl, rfl⟩
              · intro q hq e
                rw [pk_uLs, pk_uLs, sv_set _ hp hq, sv_set _ hp hq, base q hq, base2 q hq, sv_ne_dec e]
                simp
              · refine Or.inr (Or.inr ⟨rfl, ?_, ?_⟩)
                · rw [pk_uLs, sv_set _ hp hp]
                  simp
                · rw [pk_uLs, sv_set _ hp hp]
                  simp
            · refine br_t rfl ?_
              unfold wX_want_90
              refine br_f (by decide) (Y _ _ (sv_W_put hW hp ?_ ?_ ?_))
              · intro c' e
                rw [pk_uLn e, pk_uLn e]
                exact ⟨rfl, rfl⟩
              · intro q hq e
                rw [pk_uLs, pk_uLs, base q hq, base2 q hq, sv_ne_dec e]
                simp
              · refine Or.inl ⟨rfl, ?_⟩
                rw [pk_uLs, base _ hp]
                simp
          · refine br_f e2 ?_
            unfold wpY_want
            dsimp only
            exact (br_f q1 (br_f q2 (sv_YisPlace_o hcy hch (br_f (by decide) (br_f e0 (br_f e2 ⟨rfl, R _ _ _ hW⟩))))))
end
