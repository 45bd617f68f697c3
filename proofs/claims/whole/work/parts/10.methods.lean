theorem i_vc_shifter {k : Nat} {u : SX} {v : SY} (I : i_Rel k u v) (hk : k + 5 ≤ 2562) (v1 : Int32) (v2 : Int32) : wpX_shifter (fun r u' => wpY_shifter (fun r' v' => r' = r ∧ i_Rel (k + 5) u' v') v v1 v2) u v1 v2 := by
  obtain ⟨w, tp, sh, wp, wv, cf, nd, wa, le, M, h1, h2, hm, hW, rfl, rfl⟩ := I
  have R : ∀ sh', sv_R (w, nI M, tp, sh', wp, wv, cf, nd) (w, tp, sh', wa, le) := fun sh' => sv_Rmk h1 h2 hm hW
  unfold wpX_shifter wpY_shifter
  dsimp only
  rcases sv_ix v1 (n := 4) (by decide) with a | ⟨c, hc, rfl⟩
  · refine sv_XisChain_b a (br_t rfl ?_)
    rcases a with a | a
    · exact br_t a ⟨rfl, R sh⟩
    · exact br_c (fun _ => ⟨rfl, R sh⟩) (fun _ => br_t (sv_lim (n := 3) (by decide) a) ⟨rfl, R sh⟩)
  · refine sv_XisChain_o hc (br_f (by decide) ?_)
    have q1 : ¬ nI c < 0 := nI_pos (by omega)
    have q2 : ¬ (3 : Int32) < nI c := nI_nlt (a := 3) (by omega) (by decide)
    rcases sv_ix v2 (n := M) (by omega) with b | ⟨j, hj, rfl⟩
    · exact sv_XisState_b b (br_t rfl (br_f q1 (br_f q2 (sv_YisState_b hm b (br_t rfl ⟨rfl, R sh⟩)))))
    · have hin : vp_in (nI c) 4 := vp_in_nI hc (by decide)
      exact sv_XisState_o h2 hj (br_f (by decide) ⟨hin, nm_e (br_f q1 (br_f q2 (sv_YisState_o hm h2 hj (br_f (by decide) ⟨hin, nm_e ⟨rfl, R _⟩⟩))))⟩)
theorem i_vc_expand {k : Nat} {u : SX} {v : SY} (I : i_Rel k u v) (hk : k + 5 ≤ 2562) (v1 : Int32) (v2 : Int32) (v3 : Int32) : wpX_expand (fun r => wpY_expand (fun r' => r' = r ∧ i_Rel (k + 5) u v) v v1 v2 v3) u v1 v2 v3 := by
  have R : i_Rel (k + 5) u v := I
  obtain ⟨w, tp, sh, wp, wv, cf, nd, wa, le, M, h1, h2, hm, hW, rfl, rfl⟩ := I
  unfold wpX_expand wpY_expand
  dsimp only
  rcases sv_ix v1 (n := M) (by omega) with a | ⟨j, hj, rfl⟩
  · exact sv_XisState_b a (br_t rfl (sv_YisState_b hm a (br_t rfl ⟨rfl, R⟩)))
  · refine sv_XisState_o h2 hj (br_f (by decide) ?_)
    rcases sv_ix v2 (n := 16) (by decide) with b | ⟨cy, hcy, rfl⟩
    · exact sv_XisCycle_b b (br_t rfl (sv_YisState_o hm h2 hj (br_f (by decide) (sv_YisPlace_b b (br_t rfl ⟨rfl, R⟩)))))
    · refine sv_XisCycle_o hcy (br_f (by decide) ?_)
      rcases sv_ix v3 (n := 4) (by decide) with c | ⟨ch, hch, rfl⟩
      · exact sv_XisChain_b c (br_t rfl (sv_YisState_o hm h2 hj (br_f (by decide) (sv_YisPlace_c hcy c (br_t rfl ⟨rfl, R⟩)))))
      · exact sv_XisChain_o hch (br_f (by decide) (sv_Xchain hcy hch (sv_YisState_o hm h2 hj (br_f (by decide) (sv_YisPlace_o hcy hch (br_f (by decide) (sv_Ychain hcy hch ⟨rfl, R⟩)))))))
theorem i_vc_seeds {k : Nat} {u : SX} {v : SY} (I : i_Rel k u v) (hk : k + 5 ≤ 2562) (v1 : Int32) : wpX_seeds (fun r => wpY_seeds (fun r' => r' = r ∧ i_Rel (k + 5) u v) v v1) u v1 := by
  have R : i_Rel (k + 5) u v := I
  obtain ⟨w, tp, sh, wp, wv, cf, nd, wa, le, M, h1, h2, hm, hW, rfl, rfl⟩ := I
  unfold wpX_seeds wpY_seeds
  dsimp only
  rcases sv_ix v1 (n := 64) (by decide) with a | ⟨g, hg, rfl⟩
  · exact sv_XisSet_b a (br_t rfl (sv_YisSet_b a (br_t rfl ⟨rfl, R⟩)))
  · exact sv_XisSet_o hg (br_f (by decide) (sv_Xseeds h2 hg hW (sv_YisSet_o hg (br_f (by decide) (sv_Yseeds h2 hg hm ⟨rfl, R⟩)))))
theorem i_vc_leastSeed {k : Nat} {u : SX} {v : SY} (I : i_Rel k u v) (hk : k + 5 ≤ 2562) (v1 : Int32) : wpX_leastSeed (fun r => wpY_leastSeed (fun r' => r' = r ∧ i_Rel (k + 5) u v) v v1) u v1 := by
  have R : i_Rel (k + 5) u v := I
  obtain ⟨w, tp, sh, wp, wv, cf, nd, wa, le, M, h1, h2, hm, hW, rfl, rfl⟩ := I
  unfold wpX_leastSeed wpY_leastSeed
  dsimp only
  rcases sv_ix v1 (n := 64) (by decide) with a | ⟨g, hg, rfl⟩
  · exact sv_XisSet_b a (br_t rfl (sv_YisSet_b a (br_t rfl ⟨rfl, R⟩)))
  · exact sv_XisSet_o hg (br_f (by decide) (sv_Xleast h2 hg hW (sv_YisSet_o hg (br_f (by decide) (sv_Yfirst h2 hg hm ⟨rfl, R⟩)))))
theorem i_vc_greatestSeed {k : Nat} {u : SX} {v : SY} (I : i_Rel k u v) (hk : k + 5 ≤ 2562) (v1 : Int32) : wpX_greatestSeed (fun r => wpY_greatestSeed (fun r' => r' = r ∧ i_Rel (k + 5) u v) v v1) u v1 := by
  have R : i_Rel (k + 5) u v := I
  obtain ⟨w, tp, sh, wp, wv, cf, nd, wa, le, M, h1, h2, hm, hW, rfl, rfl⟩ := I
  unfold wpX_greatestSeed wpY_greatestSeed
  dsimp only
  rcases sv_ix v1 (n := 64) (by decide) with a | ⟨g, hg, rfl⟩
  · exact sv_XisSet_b a (br_t rfl (sv_YisSet_b a (br_t rfl ⟨rfl, R⟩)))
  · have e : nI M - 1 = nI M + (-1) := Int32.sub_eq_add_neg _ _
    refine sv_XisSet_o hg (br_f (by decide) (nm_r e ⟨M + 1, sv_Xgreat hg hW M h2 (sv_YisSet_o hg (br_f (by decide) (nm_r (e' := nI M + (-1)) (by rw [hm, e]) ⟨M + 1, sv_Ygreat hg M h2 ⟨rfl, R⟩⟩)))⟩))
theorem i_vc_forced {k : Nat} {u : SX} {v : SY} (I : i_Rel k u v) (hk : k + 5 ≤ 2562) (v1 : Int32) (v2 : Int32) (v3 : Int32) : wpX_forced (fun r => wpY_forced (fun r' => r' = r ∧ i_Rel (k + 5) u v) v v1 v2 v3) u v1 v2 v3 := by
  have R : i_Rel (k + 5) u v := I
  obtain ⟨w, tp, sh, wp, wv, cf, nd, wa, le, M, h1, h2, hm, hW, rfl, rfl⟩ := I
  unfold wpX_forced wpY_forced
  dsimp only
  rcases sv_ix v1 (n := 64) (by decide) with a | ⟨g, hg, rfl⟩
  · exact sv_XisSet_b a (br_t rfl (sv_YisSet_b a (br_t rfl ⟨rfl, R⟩)))
  · refine sv_XisSet_o hg (br_f (by decide) ?_)
    rcases sv_ix v2 (n := 16) (by decide) with b | ⟨cy, hcy, rfl⟩
    · exact sv_XisCycle_b b (br_t rfl (sv_YisSet_o hg (br_f (by decide) (sv_YisPlace_b b (br_t rfl ⟨rfl, R⟩)))))
    · refine sv_XisCycle_o hcy (br_f (by decide) ?_)
      rcases sv_ix v3 (n := 4) (by decide) with c | ⟨ch, hch, rfl⟩
      · exact sv_XisChain_b c (br_t rfl (sv_YisSet_o hg (br_f (by decide) (sv_YisPlace_c hcy c (br_t rfl ⟨rfl, R⟩)))))
      · exact sv_XisChain_o hch (br_f (by decide) (sv_Xforced h2 hg hcy hch hW (sv_YisSet_o hg (br_f (by decide) (sv_YisPlace_o hcy hch (br_f (by decide) (sv_Yforced h2 hg hcy hch hm ⟨rfl, R⟩)))))))
theorem i_vc_seedsNeeded {k : Nat} {u : SX} {v : SY} (I : i_Rel k u v) (hk : k + 5 ≤ 2562) (v1 : Int32) : wpX_seedsNeeded (fun r u' => wpY_seedsNeeded (fun r' v' => r' = r ∧ i_Rel (k + 5) u' v') v v1) u v1 := by
  obtain ⟨w, tp, sh, wp, wv, cf, nd, wa, le, M, h1, h2, hm, hW, rfl, rfl⟩ := I
  have R : ∀ cf' nd' le', sv_R (w, nI M, tp, sh, wp, wv, cf', nd') (w, tp, sh, wa, le') := fun cf' nd' le' => sv_Rmk h1 h2 hm hW
  unfold wpX_seedsNeeded wpY_seedsNeeded
  dsimp only
  rcases sv_ix v1 (n := 64) (by decide) with a | ⟨g, hg, rfl⟩
  · exact sv_XisSet_b a (br_t rfl (sv_YisSet_b a (br_t rfl ⟨rfl, R _ _ _⟩)))
  · exact sv_XisSet_o hg (br_f (by decide) (sv_Xneeded h2 hg hW (fun x cf' nd' hx => sv_YisSet_o hg (br_f (by decide) (sv_Yneeded h2 hg hm (fun le' => ⟨sv_meet h2 hg hx, R cf' nd' le'⟩))))))
theorem i_vc_forget {k : Nat} {u : SX} {v : SY} (I : i_Rel k u v) (hk : k + 5 ≤ 2562) (v1 : Int32) : wpX_forget (fun r u' => wpY_forget (fun r' v' => r' = r ∧ i_Rel (k + 5) u' v') v v1) u v1 := by
  obtain ⟨w, tp, sh, wp, wv, cf, nd, wa, le, M, h1, h2, hm, hW, rfl, rfl⟩ := I
  have R : ∀ wp' wv' wa', sv_W wp' wv' wa' → sv_R (w, nI M, tp, sh, wp', wv', cf, nd) (w, tp, sh, wa', le) := fun wp' wv' wa' h => sv_Rmk h1 h2 hm h
  unfold wpX_forget wpY_forget
  dsimp only
  rcases sv_ix v1 (n := 6) (by decide) with a | ⟨c, hc, rfl⟩
  · refine sv_XisCube_b a (br_t rfl ?_)
    rcases a with a | a
    · exact br_t a ⟨rfl, R _ _ _ hW⟩
    · refine br_c (fun _ => ⟨rfl, R _ _ _ hW⟩) (fun _ => br_f ?_ ⟨rfl, R _ _ _ hW⟩)
      exact Int32.not_le.mpr (sv_lim (n := 5) (by decide) a)
  · have hin : vp_in (nI c) 6 := vp_in_nI hc (by decide)
    refine sv_XisCube_o hc (br_f (by decide) ⟨hin, nm_e ⟨hin, nm_e ?_⟩⟩)
    refine br_f (nI_pos (by omega)) (br_t (nI_le (b := 5) (by omega) (by decide)) ?_)
    rw [nI_clamp (by omega)]
    have key : ∀ d i wa', i + d = 64 → (∀ p, p < i → wa' (64 * c + p) = 2) → (∀ t, (t < 64 * c ∨ 64 * c + 64 ≤ t) → wa' t = wa t) →
        wY_forget_13 (fun r' v' => r' = 1 ∧ i_Rel (k + 5) (w, nI M, tp, sh, vp_updL wp c 0, vp_updL wv c 0, cf, nd) v') (nI c) w tp (d + 1) (nI i) sh wa' le := by
      intro d
      induction d with
      | zero =>
        intro i wa' hi ha hb
        obtain rfl : i = 64 := by omega
        refine br_t (by decide) ⟨rfl, R _ _ _ ?_⟩
        intro c' hc' p hp
        by_cases e : c' = c
        · subst e
          refine Or.inl ⟨ha p hp, ?_⟩
          rw [pk_uLs]
          exact BitVec.getLsbD_zero
        · rw [pk_uLn e, pk_uLn e, hb _ (by omega)]
          exact hW c' hc' p hp
      | succ d ih =>
        intro i wa' hi ha hb
        have e : (64 : Int32) * nI c + nI i = nI (64 * c + i) := by
          rw [show (64 : Int32) = nI 64 from rfl, pk_mul, nI_add]
        refine br_f (nI_ge (b := 64) (by omega) (by decide)) ?_
        rw [e, nI_clamp (by omega)]
        refine ⟨vp_in_nI (by omega) (by decide), nm_e (nm_r (nI_1 i) (ih (i + 1) _ (by omega) ?_ ?_))⟩
        · intro p hp
          by_cases q : p = i
          · rw [q, pk_us]
          · rw [pk_un (by omega)]; exact ha p (by omega)
        · intro t ht
          rw [pk_un (by omega)]
          exact hb t ht
    exact ⟨65, key 64 0 wa rfl (fun p hp => absurd hp (Nat.not_lt_zero p)) (fun t _ => rfl)⟩
