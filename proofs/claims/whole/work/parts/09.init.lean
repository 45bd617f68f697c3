def sv_shf (x3 : Int32) : Nat → Nat → Int32
  | 0 => fun _ => 0
  | i + 1 => upd (sv_shf x3 i) i ((1 : Int32) <<< ((nI i - nI i / x3 * x3) &&& 31))
theorem sv_mM : ∀ m, m < 9 → (1 : Int32) <<< (nI m &&& 31) = nI (2 ^ m) := by decide +kernel
theorem sv_X62 {post : SX → Prop} {m : Nat} {k1 : Int32} (hm0 : m ≠ 0) (hm : m < 9)
    (h : post (nI m, nI (2 ^ m), k1 &&& (nI (2 ^ m) - 1), sv_shf (nI m) 4, fun _ => 0, fun _ => 0, fun _ => 0, fun _ => 0)) :
    wX_init_62 post k1 (nI m) 0 0 0 (fun _ => 0) (fun _ => 0) (fun _ => 0) (fun _ => 0) (fun _ => 0) := by
  refine nm_r (sv_mM m hm) (nm_e ⟨5, ?_⟩)
  have key : ∀ d i, i + d = 4 → wX_init_89 post (nI m) (nI m) (nI (2 ^ m)) (k1 &&& (nI (2 ^ m) - 1)) (d + 1) (nI i) (sv_shf (nI m) i) (fun _ => 0) (fun _ => 0) (fun _ => 0) (fun _ => 0) := by
    intro d
    induction d with
    | zero =>
      intro i hi
      obtain rfl : i = 4 := by omega
      exact br_t (by decide) h
    | succ d ih =>
      intro i hi
      refine br_f (nI_ge (b := 4) (by omega) (by decide)) ⟨nI_ne0 (by omega) (by omega), vp_in_nI (by omega) (by decide), nm_r (e' := sv_shf (nI m) (i + 1)) ?_ (nm_r (nI_1 i) (ih (i + 1) (by omega)))⟩
      rw [nI_clamp (by omega)]
      rfl
  exact key 4 0 rfl
theorem sv_Y50 {post : SY → Prop} {m : Nat} {k1 : Int32} (hm0 : m ≠ 0) (hm : m < 9)
    (h : ∀ wa, (∀ t, t < 384 → wa t = 2) → post (nI m, k1 &&& (nI (2 ^ m) - 1), sv_shf (nI m) 4, wa, fun _ => 0)) :
    wY_init_50 post k1 (nI m) 0 0 (fun _ => 0) (fun _ => 0) (fun _ => 0) := by
  have key2 : ∀ d i wa, i + d = 384 → (∀ t, t < i → wa t = 2) → wY_init_96 post (nI m) (k1 &&& (nI (2 ^ m) - 1)) (d + 1) (nI i) (sv_shf (nI m) 4) wa (fun _ => 0) := by
    intro d
    induction d with
    | zero =>
      intro i wa hi hw
      obtain rfl : i = 384 := by omega
      exact br_t (by decide) (h wa hw)
    | succ d ih =>
      intro i wa hi hw
      refine br_f (nI_ge (b := 384) (by omega) (by decide)) ⟨vp_in_nI (by omega) (by decide), nm_e (nm_r (nI_1 i) (ih (i + 1) _ (by omega) ?_))⟩
      intro t ht
      rw [nI_clamp (by omega)]
      by_cases e : t = i
      · rw [e, pk_us]
      · rw [pk_un e]; exact hw t (by omega)
  have key : ∀ d i, i + d = 4 → wY_init_69 post (nI m) (k1 &&& (nI (2 ^ m) - 1)) (d + 1) (nI i) (sv_shf (nI m) i) (fun _ => 0) (fun _ => 0) := by
    intro d
    induction d with
    | zero =>
      intro i hi
      obtain rfl : i = 4 := by omega
      exact br_t (by decide) ⟨385, key2 384 0 _ rfl (fun t ht => absurd ht (Nat.not_lt_zero t))⟩
    | succ d ih =>
      intro i hi
      refine br_f (nI_ge (b := 4) (by omega) (by decide)) ⟨nI_ne0 (by omega) (by omega), vp_in_nI (by omega) (by decide), nm_r (e' := sv_shf (nI m) (i + 1)) ?_ (nm_r (nI_1 i) (ih (i + 1) (by omega)))⟩
      rw [nI_clamp (by omega)]
      rfl
  exact nm_r (by rw [sv_mM m hm]) ⟨5, key 4 0 rfl⟩
def i_Rel (k : Nat) (u : SX) (v : SY) : Prop := sv_R u v
theorem i_up {k : Nat} {u : SX} {v : SY} (h : i_Rel k u v) : i_Rel (k + 5) u v := h
theorem sv_start {m : Nat} {k1 : Int32} (hm0 : m ≠ 0) (hm : m < 9) {Q : SX → Prop}
    (h : ∀ u, (∀ wa, (∀ t, t < 384 → wa t = 2) → i_Rel 2 u (nI m, k1 &&& (nI (2 ^ m) - 1), sv_shf (nI m) 4, wa, fun _ => 0)) → Q u) :
    wX_init_62 Q k1 (nI m) 0 0 0 (fun _ => 0) (fun _ => 0) (fun _ => 0) (fun _ => 0) (fun _ => 0) := by
  refine sv_X62 hm0 hm (h _ (fun wa hw => ?_))
  have h1 : 1 ≤ 2 ^ m := Nat.two_pow_pos m
  have h2 : 2 ^ m ≤ 2 ^ 8 := Nat.pow_le_pow_right (by decide) (by omega)
  refine sv_Rmk h1 h2 (sv_mM m hm) ?_
  intro c hc p hp
  refine Or.inl ⟨hw _ (by omega), ?_⟩
  exact BitVec.getLsbD_zero
theorem i_vc0 (k0 : Int32) (k1 : Int32) : wpX_init (fun u => wpY_init (fun v => i_Rel 2 u v) k0 k1) k0 k1 := by
  by_cases h3 : 3 ≤ k0
  · by_cases h8 : k0 ≤ 8
    · have hn : ¬ k0 < 0 := fun z => by
        have : (3 : Int32) < 0 := Int32.lt_of_le_of_lt h3 z
        exact absurd this (by decide)
      obtain ⟨m, hm, rfl⟩ := nI_of2 (M := 8) (n := 8) (by decide) hn h8
      have hm3 : 3 ≤ m := (nI_leI (a := 3) (by decide) (by omega)).mp h3
      exact br_t h3 (br_t h8 (sv_start (by omega) (by omega) (fun u hu => br_t h3 (br_t h8 (sv_Y50 (by omega) (by omega) hu)))))
    · exact br_t h3 (br_f h8 (sv_start (m := 8) (by omega) (by omega) (fun u hu => br_t h3 (br_f h8 (sv_Y50 (m := 8) (by omega) (by omega) hu)))))
  · exact br_f h3 (br_t (by decide) (sv_start (m := 3) (by omega) (by omega) (fun u hu => br_f h3 (sv_Y50 (m := 3) (by omega) (by omega) hu))))
