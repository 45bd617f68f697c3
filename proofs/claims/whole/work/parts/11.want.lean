theorem sv_ne_dec {p q : Nat} (h : q ≠ p) : decide (p = q) = false := decide_eq_false (fun z => h z.symm)
theorem i_vc_want {k : Nat} {u : SX} {v : SY} (I : i_Rel k u v) (hk : k + 5 ≤ 2562) (v1 : Int32) (v2 : Int32) (v3 : Int32) (v4 : Int32) : wpX_want (fun r u' => wpY_want (fun r' v' => r' = r ∧ i_Rel (k + 5) u' v') v v1 v2 v3 v4) u v1 v2 v3 v4 := by
  obtain ⟨w, tp, sh, wp, wv, cf, nd, wa, le, M, h1, h2, hm, hW, rfl, rfl⟩ := I
  have R : ∀ wp' wv' wa', sv_W wp' wv' wa' → sv_R (w, nI M, tp, sh, wp', wv', cf, nd) (w, tp, sh, wa', le) := fun wp' wv' wa' h => sv_Rmk h1 h2 hm h
  unfold wpX_want
  dsimp only
  rcases sv_ix v1 (n := 6) (by decide) with a | ⟨c, hc, rfl⟩
  · refine sv_XisCube_b a (br_t rfl ?_)
    unfold wpY_want
    dsimp only
    rcases a with a | a
    · exact br_t a ⟨rfl, R _ _ _ hW⟩
    · exact br_c (fun _ => ⟨rfl, R _ _ _ hW⟩) (fun _ => br_t (sv_lim (n := 5) (by decide) a) ⟨rfl, R _ _ _ hW⟩)
  · have q1 : ¬ nI c < 0 := nI_pos (by omega)
    have q2 : ¬ (5 : Int32) < nI c := nI_nlt (a := 5) (by omega) (by decide)
    have hin : vp_in (nI c) 6 := vp_in_nI hc (by decide)
    refine sv_XisCube_o hc (br_f (by decide) ?_)
    rcases sv_ix v2 (n := 16) (by decide) with b | ⟨cy, hcy, rfl⟩
    · refine sv_XisCycle_b b (br_t rfl ?_)
      unfold wpY_want
      dsimp only
      exact ((br_f q1 (br_f q2 (sv_YisPlace_b b (br_t rfl ⟨rfl, R _ _ _ hW⟩)))))
    · refine sv_XisCycle_o hcy (br_f (by decide) ?_)
      rcases sv_ix v3 (n := 4) (by decide) with d | ⟨ch, hch, rfl⟩
      · refine sv_XisChain_b d (br_t rfl ?_)
        unfold wpY_want
        dsimp only
        exact ((br_f q1 (br_f q2 (sv_YisPlace_c hcy d (br_t rfl ⟨rfl, R _ _ _ hW⟩)))))
      · refine sv_XisChain_o hch (br_f (by decide) ?_)
        by_cases e0 : v4 < 0
        · refine br_t e0 ?_
          unfold wpY_want
          dsimp only
          exact (br_f q1 (br_f q2 (sv_YisPlace_o hcy hch (br_f (by decide) (br_t e0 ⟨rfl, R _ _ _ hW⟩)))))
        · refine br_f e0 ?_
          by_cases e2 : v4 ≤ 2
          · obtain ⟨x, hx, rfl⟩ := nI_of2 (M := 2) (n := 2) (by decide) e0 e2
            have hp : 4 * cy + ch < 64 := by omega
            have ei : ((64 : Int32) * nI c + 4 * nI cy) + nI ch = nI (64 * c + (4 * cy + ch)) := by
              rw [show (64 : Int32) = nI 64 from rfl, show (4 : Int32) = nI 4 from rfl, pk_mul, pk_mul, nI_add, nI_add, Nat.add_assoc]
            have Y : ∀ (wp' wv' : Nat → Int64), sv_W wp' wv' (upd wa (64 * c + (4 * cy + ch)) (nI x)) →
                wpY_want (fun r' v' => r' = 1 ∧ i_Rel (k + 5) (w, nI M, tp, sh, wp', wv', cf, nd) v') (w, tp, sh, wa, le) (nI c) (nI cy) (nI ch) (nI x) := by
              intro wp' wv' hW'
              unfold wpY_want
              dsimp only
              refine br_f q1 (br_f q2 (sv_YisPlace_o hcy hch (br_f (by decide) (br_f e0 (br_t e2 ?_)))))
              rw [ei]
              refine ⟨vp_in_nI (by omega) (by decide), nm_e ⟨rfl, R _ _ _ ?_⟩⟩
              rw [nI_clamp (by omega)]
              exact hW'
            have cl : (nI c).toNatClampNeg = c := nI_clamp (by omega)
            refine br_t e2 (sv_Xplace ?_)
            refine ⟨hin, hin, nm_e ⟨hin, hin, nm_e ?_⟩⟩
            rw [cl]
            have base : ∀ q, q < 64 → (wp c &&& (sv_pl (4 * cy + ch) ^^^ (-1))).toBitVec.getLsbD q = ((wp c).toBitVec.getLsbD q && !decide (4 * cy + ch = q)) := fun q hq => sv_clr _ hp hq
            have base2 : ∀ q, q < 64 → (wv c &&& (sv_pl (4 * cy + ch) ^^^ (-1))).toBitVec.getLsbD q = ((wv c).toBitVec.getLsbD q && !decide (4 * cy + ch = q)) := fun q hq => sv_clr _ hp hq
            rcases (by omega : x = 0 ∨ x = 1 ∨ x = 2) with rfl | rfl | rfl
            · refine br_f (by decide) ⟨hin, hin, nm_e ?_⟩
              rw [pk_uLs]
              unfold wX_want_90
              refine br_f (by decide) (Y _ _ (sv_W_put hW hp ?_ ?_ ?_))
              · intro c' e
                rw [pk_uLn e, pk_uLn e, pk_uLn e]
                exact ⟨rfl, rfl⟩
              · intro q hq e
                rw [pk_uLs, pk_uLs, sv_set _ hp hq, base q hq, base2 q hq, sv_ne_dec e]
                simp
              · refine Or.inr (Or.inl ⟨rfl, ?_, ?_⟩)
                · rw [pk_uLs, sv_set _ hp hp]
                  simp
                · rw [pk_uLs, base2 _ hp]
                  simp
            · refine br_f (by decide) ⟨hin, hin, nm_e ?_⟩
              rw [pk_uLs]
              unfold wX_want_90
              refine br_t rfl ⟨hin, hin, nm_e ?_⟩
              rw [cl, pk_uLs]
              refine Y _ _ (sv_W_put hW hp ?_ ?_ ?_)
              · intro c' e
                rw [pk_uLn e, pk_uLn e, pk_uLn e, pk_uLn e]
                exact ⟨rfl, rfl⟩
              · intro q hq e
                rw [pk_uLs, pk_uLs, sv_set _ hp hq, sv_set _ hp hq, base q hq, base2 q hq, sv_ne_dec e]
                simp
              · refine Or.inr (Or.inr ⟨rfl, ?_, ?_⟩)
                · rw [pk_uLs, sv_set _ hp hp]
                  simp
                · rw [pk_uLs, sv_set _ hp hp]
                  simp
            · refine br_t rfl ?_
              unfold wX_want_90
              refine br_f (by decide) (Y _ _ (sv_W_put hW hp ?_ ?_ ?_))
              · intro c' e
                rw [pk_uLn e, pk_uLn e]
                exact ⟨rfl, rfl⟩
              · intro q hq e
                rw [pk_uLs, pk_uLs, base q hq, base2 q hq, sv_ne_dec e]
                simp
              · refine Or.inl ⟨rfl, ?_⟩
                rw [pk_uLs, base _ hp]
                simp
          · refine br_f e2 ?_
            unfold wpY_want
            dsimp only
            exact (br_f q1 (br_f q2 (sv_YisPlace_o hcy hch (br_f (by decide) (br_f e0 (br_f e2 ⟨rfl, R _ _ _ hW⟩))))))
