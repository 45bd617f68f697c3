theorem sv_lim {n : Nat} {x : Int32} (hn : n + 1 < 2 ^ 31) (h : nI (n + 1) ≤ x) : nI n < x := Int32.lt_of_lt_of_le (nI_lt (by omega) hn) h
section
variable {w tp : Int32} {sh : Nat → Int32} {wp wv : Nat → Int64} {cf nd : Nat → Int32} {wa le : Nat → Int32} {M : Nat} {post : Int32 → Prop} {p q : Int32} {i j : Nat}
theorem sv_XisChain_b (hp : p < 0 ∨ nI 4 ≤ p) (h : post 0) : wpX_isChain post p := by
  rcases hp with hp | hp
  · exact br_t hp h
  · exact br_c (fun _ => h) (fun _ => br_t hp h)
theorem sv_XisChain_o (hj : j < 4) (h : post 1) : wpX_isChain post (nI j) := br_f (nI_pos (by omega)) (br_f (nI_ge (b := 4) hj (by decide)) h)
theorem sv_XisCycle_b (hp : p < 0 ∨ nI 16 ≤ p) (h : post 0) : wpX_isCycle post p := by
  rcases hp with hp | hp
  · exact br_t hp h
  · exact br_c (fun _ => h) (fun _ => br_t hp h)
theorem sv_XisCycle_o (hj : j < 16) (h : post 1) : wpX_isCycle post (nI j) := br_f (nI_pos (by omega)) (br_f (nI_ge (b := 16) hj (by decide)) h)
theorem sv_XisCube_b (hp : p < 0 ∨ nI 6 ≤ p) (h : post 0) : wpX_isCube post p := by
  rcases hp with hp | hp
  · exact br_t hp h
  · exact br_c (fun _ => h) (fun _ => br_t hp h)
theorem sv_XisCube_o (hj : j < 6) (h : post 1) : wpX_isCube post (nI j) := br_f (nI_pos (by omega)) (br_f (nI_ge (b := 6) hj (by decide)) h)
theorem sv_XisSet_b (hp : p < 0 ∨ nI 64 ≤ p) (h : post 0) : wpX_isCubeSet post p := by
  rcases hp with hp | hp
  · exact br_t hp h
  · exact br_c (fun _ => h) (fun _ => br_t hp h)
theorem sv_XisSet_o (hj : j < 64) (h : post 1) : wpX_isCubeSet post (nI j) := br_f (nI_pos (by omega)) (br_f (nI_ge (b := 64) hj (by decide)) h)
theorem sv_XisState_b (hp : p < 0 ∨ nI M ≤ p) (h : post 0) : wpX_isState post (w, nI M, tp, sh, wp, wv, cf, nd) p := by
  rcases hp with hp | hp
  · exact br_t hp h
  · exact br_c (fun _ => h) (fun _ => br_t hp h)
theorem sv_XisState_o (hM : M ≤ 256) (hj : j < M) (h : post 1) : wpX_isState post (w, nI M, tp, sh, wp, wv, cf, nd) (nI j) := br_f (nI_pos (by omega)) (br_f (nI_ge hj (by omega)) h)
theorem sv_YisState_b (hm : (1 : Int32) <<< (w &&& 31) = nI M) (hp : p < 0 ∨ nI M ≤ p) (h : post 0) : wpY_isState post (w, tp, sh, wa, le) p := by
  rcases hp with hp | hp
  · exact br_t hp h
  · exact br_c (fun _ => h) (fun _ => br_t (by rw [hm]; exact hp) h)
theorem sv_YisState_o (hm : (1 : Int32) <<< (w &&& 31) = nI M) (hM : M ≤ 256) (hj : j < M) (h : post 1) : wpY_isState post (w, tp, sh, wa, le) (nI j) := br_f (nI_pos (by omega)) (br_f (by rw [hm]; exact nI_ge hj (by omega)) h)
theorem sv_YisSet_b (hp : p < 0 ∨ nI 64 ≤ p) (h : post 0) : wpY_isSet post (w, tp, sh, wa, le) p := by
  rcases hp with hp | hp
  · exact br_t hp h
  · exact br_c (fun _ => h) (fun _ => br_t (sv_lim (n := 63) (by decide) hp) h)
theorem sv_YisSet_o (hj : j < 64) (h : post 1) : wpY_isSet post (w, tp, sh, wa, le) (nI j) := br_f (nI_pos (by omega)) (br_f (nI_nlt (a := 63) (by omega) (by decide)) h)
theorem sv_YisPlace_b (hp : p < 0 ∨ nI 16 ≤ p) (h : post 0) : wpY_isPlace post (w, tp, sh, wa, le) p q := by
  rcases hp with hp | hp
  · exact br_t hp h
  · exact br_c (fun _ => h) (fun _ => br_t (sv_lim (n := 15) (by decide) hp) h)
theorem sv_YisPlace_c (hi : i < 16) (hp : p < 0 ∨ nI 4 ≤ p) (h : post 0) : wpY_isPlace post (w, tp, sh, wa, le) (nI i) p := by
  refine br_f (nI_pos (by omega)) (br_f (nI_nlt (a := 15) (by omega) (by decide)) ?_)
  rcases hp with hp | hp
  · exact br_t hp h
  · exact br_c (fun _ => h) (fun _ => br_t (sv_lim (n := 3) (by decide) hp) h)
theorem sv_YisPlace_o (hi : i < 16) (hj : j < 4) (h : post 1) : wpY_isPlace post (w, tp, sh, wa, le) (nI i) (nI j) :=
  br_f (nI_pos (by omega)) (br_f (nI_nlt (a := 15) (by omega) (by decide)) (br_f (nI_pos (by omega)) (br_f (nI_nlt (a := 3) (by omega) (by decide)) h)))
end
theorem sv_ix (x : Int32) {n : Nat} (hn : n < 2 ^ 31) : (x < 0 ∨ nI n ≤ x) ∨ ∃ j : Nat, j < n ∧ x = nI j := by
  rcases pk_ix x hn with a | a | a
  · exact Or.inl (Or.inl a)
  · exact Or.inl (Or.inr a)
  · exact Or.inr a
theorem sv_clr (a : Int64) {p q : Nat} (hp : p < 64) (hq : q < 64) : (a &&& (sv_pl p ^^^ (-1))).toBitVec.getLsbD q = (a.toBitVec.getLsbD q && !decide (p = q)) := by
  have h1 : (-1 : Int64).toBitVec = BitVec.allOnes 64 := by decide
  rw [Int64.toBitVec_and, Int64.toBitVec_xor, h1, BitVec.getLsbD_and, BitVec.getLsbD_xor, sv_pl_bit hp hq, BitVec.getLsbD_allOnes, decide_eq_true hq, Bool.xor_true]
theorem sv_set (a : Int64) {p q : Nat} (hp : p < 64) (hq : q < 64) : (a ||| sv_pl p).toBitVec.getLsbD q = (a.toBitVec.getLsbD q || decide (p = q)) := by
  rw [Int64.toBitVec_or, BitVec.getLsbD_or, sv_pl_bit hp hq]
theorem sv_W_put {wp wv wp' wv' : Nat → Int64} {wa : Nat → Int32} {c p : Nat} {x : Int32} (hW : sv_W wp wv wa) (hp : p < 64) (h1 : ∀ c', c' ≠ c → wp' c' = wp c' ∧ wv' c' = wv c')
    (h2 : ∀ q, q < 64 → q ≠ p → (wp' c).toBitVec.getLsbD q = (wp c).toBitVec.getLsbD q ∧ (wv' c).toBitVec.getLsbD q = (wv c).toBitVec.getLsbD q)
    (h3 : (x = 2 ∧ (wp' c).toBitVec.getLsbD p = false) ∨ (x = 0 ∧ (wp' c).toBitVec.getLsbD p = true ∧ (wv' c).toBitVec.getLsbD p = false) ∨ (x = 1 ∧ (wp' c).toBitVec.getLsbD p = true ∧ (wv' c).toBitVec.getLsbD p = true)) :
    sv_W wp' wv' (upd wa (64 * c + p) x) := by
  intro c' hc' q hq
  by_cases e : c' = c
  · subst e
    by_cases e2 : q = p
    · subst e2
      rw [pk_us]
      exact h3
    · rw [pk_un (by omega), (h2 q hq e2).1, (h2 q hq e2).2]
      exact hW c' hc' q hq
  · rw [pk_un (by omega), (h1 c' e).1, (h1 c' e).2]
    exact hW c' hc' q hq
def sv_R (u : SX) (v : SY) : Prop := ∃ (w tp : Int32) (sh : Nat → Int32) (wp wv : Nat → Int64) (cf nd wa le : Nat → Int32) (M : Nat),
  1 ≤ M ∧ M ≤ 256 ∧ (1 : Int32) <<< (w &&& 31) = nI M ∧ sv_W wp wv wa ∧ u = (w, nI M, tp, sh, wp, wv, cf, nd) ∧ v = (w, tp, sh, wa, le)
theorem sv_Rmk {w tp : Int32} {sh : Nat → Int32} {wp wv : Nat → Int64} {cf nd wa le : Nat → Int32} {M : Nat} (h1 : 1 ≤ M) (h2 : M ≤ 256) (hm : (1 : Int32) <<< (w &&& 31) = nI M) (hW : sv_W wp wv wa) :
    sv_R (w, nI M, tp, sh, wp, wv, cf, nd) (w, tp, sh, wa, le) := ⟨w, tp, sh, wp, wv, cf, nd, wa, le, M, h1, h2, hm, hW, rfl, rfl⟩
