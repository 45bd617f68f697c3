def sv_L (one : Nat → Bool) : Nat → Nat → Nat
  | 0 => fun t => if t = 0 then 0 else 100
  | P + 1 => fun t => if one P = true ∧ t &&& P = P ∧ sv_L one P (sv_rest t P) + 1 < sv_L one P t then sv_L one P (sv_rest t P) + 1 else sv_L one P t
theorem sv_L_s (one : Nat → Bool) (P t : Nat) : sv_L one (P + 1) t = if one P = true ∧ t &&& P = P ∧ sv_L one P (sv_rest t P) + 1 < sv_L one P t then sv_L one P (sv_rest t P) + 1 else sv_L one P t := rfl
theorem sv_L_le (one : Nat → Bool) : ∀ P t, sv_L one P t ≤ 100 := by
  intro P
  induction P with
  | zero => intro t; show (if t = 0 then 0 else 100) ≤ 100; split <;> omega
  | succ P ih =>
    intro t
    rw [sv_L_s]
    have := ih t
    split <;> omega
theorem sv_L_1 (one : Nat → Bool) (t : Nat) : sv_L one 1 t = if t = 0 then 0 else 100 := by
  rw [sv_L_s, sv_rest_0]
  split
  · omega
  · rfl
theorem sv_L_step (one : Nat → Bool) (P t : Nat) : sv_L one (P + 1) t ≤ sv_L one P t := by
  rw [sv_L_s]
  split <;> omega
theorem sv_L_use {one : Nat → Bool} {P t : Nat} (h1 : one P = true) (h2 : t &&& P = P) : sv_L one (P + 1) t ≤ sv_L one P (sv_rest t P) + 1 := by
  rw [sv_L_s]
  split
  · omega
  · rename_i h
    have : ¬ sv_L one P (sv_rest t P) + 1 < sv_L one P t := fun z => h ⟨h1, h2, z⟩
    omega
theorem sv_L_cases (one : Nat → Bool) (P t : Nat) : sv_L one (P + 1) t = sv_L one P t ∨ (one P = true ∧ t &&& P = P ∧ sv_L one (P + 1) t = sv_L one P (sv_rest t P) + 1) := by
  rw [sv_L_s]
  split
  · rename_i h
    exact Or.inr ⟨h.1, h.2.1, rfl⟩
  · exact Or.inl rfl
theorem sv_L_sound {M : Nat} {fm : Nat → Nat} {one : Nat → Bool} (h1 : ∀ P, one P = true → ∃ j, j < M ∧ sv_sub P (fm j)) : ∀ P t, sv_L one P t < 100 → sv_cov M fm (sv_L one P t) t := by
  intro P
  induction P with
  | zero =>
    intro t h
    have e : sv_L one 0 t = if t = 0 then 0 else 100 := rfl
    by_cases ht : t = 0
    · rw [if_pos ht] at e
      rw [e]
      exact ht
    · rw [if_neg ht] at e
      omega
  | succ P ih =>
    intro t h
    rcases sv_L_cases one P t with e | ⟨a, b, e⟩
    · rw [e] at h ⊢
      exact ih t h
    · rw [e] at h ⊢
      obtain ⟨j, hj, hs⟩ := h1 P a
      refine Or.inr ⟨j, hj, sv_cov_mono _ ?_ (ih (sv_rest t P) (by omega))⟩
      intro i hi
      rw [sv_rest_tb] at hi ⊢
      have := hs i
      revert this hi
      cases t.testBit i <;> cases P.testBit i <;> cases (fm j).testBit i <;> simp
theorem sv_L_ins {one : Nat → Bool} {P : Nat} (hP : P ≠ 0) (ho : one P = true) : ∀ B, P < B → ∀ s, s &&& P = 0 → sv_L one B (s ||| P) ≤ sv_L one B s + 1 := by
  intro B
  induction B with
  | zero => intro h; exact absurd h (Nat.not_lt_zero _)
  | succ B ih =>
    intro hPB s hs
    by_cases e : P = B
    · subst e
      have hns : ¬ s &&& P = P := by omega
      have a : sv_L one (P + 1) s = sv_L one P s := by
        rcases sv_L_cases one P s with a | ⟨_, b, _⟩
        · exact a
        · exact absurd b hns
      have b := sv_L_use (one := one) (P := P) (t := s ||| P) ho (sv_or_and s P)
      rw [sv_rest_or hs] at b
      omega
    · have ih := ih (by omega)
      rcases sv_L_cases one B s with a | ⟨h1, h2, h3⟩
      · have b := sv_L_step one B (s ||| P)
        have c := ih s hs
        omega
      · have hsub : (s ||| P) &&& B = B := by
          apply sv_sub_and.mpr
          intro i hi
          rw [Nat.testBit_or, sv_sub_and.mp h2 i hi, Bool.true_or]
        have b := sv_L_use (one := one) (P := B) (t := s ||| P) h1 hsub
        have er : sv_rest (s ||| P) B = sv_rest s B ||| P := by
          apply Nat.eq_of_testBit_eq
          intro i
          rw [sv_rest_tb, Nat.testBit_or, Nat.testBit_or, sv_rest_tb]
          have q1 := sv_sub_and.mp h2 i
          have q2 := sv_disj.mp hs i
          revert q1 q2
          cases s.testBit i <;> cases P.testBit i <;> cases B.testBit i <;> simp
        have hd : sv_rest s B &&& P = 0 := by
          apply sv_disj.mpr
          intro i hi
          exact sv_disj.mp hs i (sv_sub_rest s B i hi)
        have c := ih (sv_rest s B) hd
        rw [er] at b
        omega
theorem sv_L_comp {M S : Nat} {fm : Nat → Nat} {one : Nat → Bool} (hS : S < 64) (h2 : ∀ P, P ≠ 0 → P < 64 → sv_sub P S → (∃ j, j < M ∧ sv_sub P (fm j)) → one P = true) : ∀ k g, sv_sub g S → sv_cov M fm k g → sv_L one 64 g ≤ k := by
  have L0 : ∀ B, sv_L one B 0 = 0 := by
    intro B
    induction B with
    | zero => rfl
    | succ B ih => have := sv_L_step one B 0; omega
  intro k
  induction k with
  | zero =>
    intro g _ hc
    have hc : g = 0 := hc
    rw [hc, L0]
    exact Nat.le_refl 0
  | succ k ih =>
    intro g hg hc
    rcases hc with hc | ⟨j, hj, hc⟩
    · rw [hc, L0]; omega
    · have hr : sv_sub (sv_rest g (fm j)) S := fun i hi => hg i (sv_sub_rest g (fm j) i hi)
      have a := ih (sv_rest g (fm j)) hr hc
      by_cases z : g &&& fm j = 0
      · have e : sv_rest g (fm j) = g := by unfold sv_rest; rw [z, Nat.xor_zero]
        rw [e] at a
        omega
      · have hs1 : sv_sub (g &&& fm j) S := by
          intro i hi
          rw [Nat.testBit_and] at hi
          exact hg i (by revert hi; cases g.testBit i <;> simp)
        have hs2 : sv_sub (g &&& fm j) (fm j) := by
          intro i hi
          rw [Nat.testBit_and] at hi
          revert hi
          cases (fm j).testBit i <;> simp
        have hlt : g &&& fm j < 64 := Nat.lt_of_le_of_lt (sv_sub_le hs1) hS
        have ho := h2 (g &&& fm j) z hlt hs1 ⟨j, hj, hs2⟩
        have hd : sv_rest g (fm j) &&& (g &&& fm j) = 0 := by
          apply sv_disj.mpr
          intro i hi
          rw [sv_rest_tb] at hi
          rw [Nat.testBit_and]
          revert hi
          cases g.testBit i <;> cases (fm j).testBit i <;> simp
        have b := sv_L_ins z ho 64 hlt (sv_rest g (fm j)) hd
        have e : sv_rest g (fm j) ||| (g &&& fm j) = g := by
          apply Nat.eq_of_testBit_eq
          intro i
          rw [Nat.testBit_or, sv_rest_tb, Nat.testBit_and]
          cases g.testBit i <;> cases (fm j).testBit i <;> rfl
        rw [e] at b
        omega
theorem sv_final {M S : Nat} {fm : Nat → Nat} {one : Nat → Bool} {x : Int32} (hS : S < 64) (h1 : ∀ P, one P = true → ∃ j, j < M ∧ sv_sub P (fm j))
    (h2 : ∀ P, P ≠ 0 → P < 64 → sv_sub P S → (∃ j, j < M ∧ sv_sub P (fm j)) → one P = true) (hx : sv_good M fm x S) :
    (sv_L one 64 S = 100 → x = -2) ∧ (¬ sv_L one 64 S = 100 → x = nI (sv_L one 64 S)) := by
  have hle := sv_L_le one 64 S
  rcases hx with ⟨k, a, b, c, d⟩ | ⟨a, b⟩
  · have e := sv_L_comp hS h2 k S (fun _ h => h) c
    have f := d _ (sv_L_sound h1 64 S (by omega))
    have g : sv_L one 64 S = k := by omega
    exact ⟨fun z => by omega, fun _ => by rw [g]; exact b⟩
  · exact ⟨fun _ => a, fun z => absurd (sv_L_sound h1 64 S (by omega)) (b _)⟩
def sv_Li (one : Nat → Bool) (P i t : Nat) : Nat := if t &&& P = P ∧ sv_rest t P < i then sv_L one (P + 1) t else sv_L one P t
theorem sv_Li_0 (one : Nat → Bool) (P t : Nat) : sv_Li one P 0 t = sv_L one P t := by
  unfold sv_Li
  rw [if_neg (fun z => Nat.not_lt_zero _ z.2)]
theorem sv_Li_64 (one : Nat → Bool) (P : Nat) {t : Nat} (ht : t < 64) : sv_Li one P 64 t = sv_L one (P + 1) t := by
  unfold sv_Li
  have := sv_rest_le t P
  by_cases h : t &&& P = P
  · rw [if_pos ⟨h, by omega⟩]
  · rw [if_neg (fun z => h z.1), sv_L_s, if_neg (fun z => h z.2.1)]
theorem sv_Li_skip (one : Nat → Bool) {P i : Nat} (h : ¬ i &&& P = 0) (t : Nat) : sv_Li one P (i + 1) t = sv_Li one P i t := by
  unfold sv_Li
  by_cases e : t &&& P = P ∧ sv_rest t P < i
  · rw [if_pos e, if_pos ⟨e.1, by omega⟩]
  · rw [if_neg e, if_neg]
    intro z
    have hne : sv_rest t P ≠ i := fun q => h (q ▸ sv_rest_disj t P)
    exact e ⟨z.1, by omega⟩
theorem sv_Li_other (one : Nat → Bool) {P i t : Nat} (ht : t ≠ i ||| P) : sv_Li one P (i + 1) t = sv_Li one P i t := by
  unfold sv_Li
  by_cases e : t &&& P = P ∧ sv_rest t P < i
  · rw [if_pos e, if_pos ⟨e.1, by omega⟩]
  · rw [if_neg e, if_neg]
    intro z
    have hne : sv_rest t P ≠ i := fun q => ht (by rw [← q]; exact (sv_or_rest z.1).symm)
    exact e ⟨z.1, by omega⟩
theorem sv_Li_off {one : Nat → Bool} {P : Nat} (h : one P = false) (i t : Nat) : sv_Li one P i t = sv_L one P t := by
  unfold sv_Li
  have e : sv_L one (P + 1) t = sv_L one P t := by
    rw [sv_L_s, if_neg]
    intro z
    rw [h] at z
    exact absurd z.1 (by decide)
  rw [e]
  split <;> rfl
theorem sv_Li_src (one : Nat → Bool) {P i : Nat} (hP : P ≠ 0) (h : i &&& P = 0) : sv_Li one P i i = sv_L one P i := by
  unfold sv_Li
  rw [if_neg]
  intro z
  omega
theorem sv_Li_dst (one : Nat → Bool) {P i : Nat} (h : i &&& P = 0) : sv_Li one P i (i ||| P) = sv_L one P (i ||| P) := by
  unfold sv_Li
  rw [if_neg]
  intro z
  rw [sv_rest_or h] at z
  omega
theorem sv_Li_new {one : Nat → Bool} {P i : Nat} (ho : one P = true) (h : i &&& P = 0) : sv_Li one P (i + 1) (i ||| P) = if sv_L one P i + 1 < sv_L one P (i ||| P) then sv_L one P i + 1 else sv_L one P (i ||| P) := by
  unfold sv_Li
  rw [if_pos ⟨sv_or_and i P, by rw [sv_rest_or h]; omega⟩, sv_L_s, sv_rest_or h]
  by_cases e : sv_L one P i + 1 < sv_L one P (i ||| P)
  · rw [if_pos e, if_pos ⟨ho, sv_or_and i P, e⟩]
  · rw [if_neg e, if_neg (fun z => e z.2.2)]
