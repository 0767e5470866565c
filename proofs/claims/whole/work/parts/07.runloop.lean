/-! run: the loop of visits -/
theorem rr_runL (C O V W G T P L e t p l : Nat → Int32) (hC : rr_cnts C) (hS : rr_slots O V W) (hE : rr_ends G T P L e t p l) :
    ∀ (d b oc : Nat) (la : Int32) (A N R Q : Nat → Int32), d ≤ 300 → b < 10 → oc + 3 * d ≤ 900 → rr_ring oc R Q →
    ∃ (r : Int32) (oc' : Nat) (la' : Int32) (A' N' R' Q' : Nat → Int32), oc' ≤ 900 ∧ rr_ring oc' R' Q' ∧
      (∀ post : Int32 → SX → Prop, post r (rr_X oc' la' A' C O V W G T P L N' R') → wX_run_8 post (d + 1) (nI b) (nI (301 - d)) (nI oc) la A C O V W G T P L N R) ∧
      (∀ post : Int32 → SY → Prop, post r (rr_Y oc' la' A' C O V W e t p l N' Q') → wY_run_30 post (d + 1) (nI b) (nI (300 - d)) (nI oc) la C O V W e t p l A Q N) := by
  intro d
  induction d with
  | zero =>
    intro b oc la A N R Q _ hb hoc hR
    have x3 : (300 : Int32) < nI (301 - 0) := by decide
    have y3 : (300 : Int32) ≤ nI (300 - 0) := by decide
    exact ⟨2, oc, la, A, N, R, Q, by omega, hR, fun post hp => br_t x3 hp, fun post hp => br_t y3 hp⟩
  | succ d ih =>
    intro b oc la A N R Q hd hb hoc hR
    have x3 : ¬ (300 : Int32) < nI (301 - (d + 1)) := nI_nlt (a := 300) (by omega) (by decide)
    have y3 : ¬ (300 : Int32) ≤ nI (300 - (d + 1)) := nI_ge (b := 300) (by omega) (by decide)
    have ex : nI (301 - (d + 1)) + 1 = nI (301 - d) := by rw [nI_1]; exact congrArg nI (by omega)
    have ey : nI (300 - (d + 1)) + 1 = nI (300 - d) := by rw [nI_1]; exact congrArg nI (by omega)
    have ec : (nI b).toNatClampNeg = b := nI_clamp (by omega)
    have hin : vp_in (nI b) 10 := vp_in_nI hb (by decide)
    obtain ⟨oc1, A1, R1, Q1, h1, hR1, hX1, hY1⟩ := rr_visit oc la A C O V W G T P L N R e t p l Q b hb hC hS (by omega) hR
    rcases hE b hb with ⟨g, eb⟩ | ⟨g, eb, hP, hp', hL, hT⟩ | ⟨g, eb, hP, hL, hT, hp', hl', ht'⟩
    · refine ⟨1, oc1, nI b, A1, upd N b (N b + 1), R1, Q1, by omega, hR1, fun post hp => ?_, fun post hp => ?_⟩
      · refine br_f x3 (hX1 _ ⟨hin, br_t ?_ hp⟩)
        rw [ec]; exact g
      · refine br_f y3 (hY1 _ ⟨hin, br_t ?_ hp⟩)
        rw [ec]; exact eb
    · obtain ⟨j, hj, ej⟩ := vp_in_of hP (by decide)
      obtain ⟨r, oc2, la2, A2, N2, R2, Q2, h2, hR2, hX2, hY2⟩ := ih j oc1 (nI b) A1 (upd N b (N b + 1)) R1 Q1 (by omega) hj (by omega) hR1
      refine ⟨r, oc2, la2, A2, N2, R2, Q2, h2, hR2, fun post hp => ?_, fun post hp => ?_⟩
      · refine br_f x3 (hX1 _ ⟨hin, br_f ?_ ?_⟩)
        · rw [ec, g]; decide
        · refine rx_targetOf hb (by rw [hT]; exact rr_z4) (fun _ => ?_) (fun _ => ?_)
          · rw [hL, ej]; exact nm_r ex (hX2 post hp)
          · rw [ej]; exact nm_r ex (hX2 post hp)
      · refine br_f y3 (hY1 _ ⟨hin, br_f ?_ ⟨hin, br_t ?_ ⟨hin, nm_r (e' := nI j) ?_ (nm_r ey (hY2 post hp))⟩⟩⟩)
        · rw [ec, eb]; decide
        · rw [ec]; exact eb
        · rw [ec, hp', ej]
    · obtain ⟨j, hj, ej⟩ := vp_in_of hP (by decide)
      obtain ⟨q, hq, eq⟩ := vp_in_of hL (by decide)
      by_cases s : A1 (T b).toNatClampNeg ≤ 0
      · obtain ⟨r, oc2, la2, A2, N2, R2, Q2, h2, hR2, hX2, hY2⟩ := ih q oc1 (nI b) A1 (upd N b (N b + 1)) R1 Q1 (by omega) hq (by omega) hR1
        refine ⟨r, oc2, la2, A2, N2, R2, Q2, h2, hR2, fun post hp => ?_, fun post hp => ?_⟩
        · refine br_f x3 (hX1 _ ⟨hin, br_f ?_ ?_⟩)
          · rw [ec, g]; decide
          · refine rx_targetOf hb hT (fun _ => ?_) (fun z => absurd s z)
            rw [eq]; exact nm_r ex (hX2 post hp)
        · refine br_f y3 (hY1 _ ⟨hin, br_f ?_ ⟨hin, br_f ?_ ⟨hin, ?_, br_t ?_ ⟨hin, nm_r (e' := nI q) ?_ (nm_r ey (hY2 post hp))⟩⟩⟩⟩)
          · rw [ec, eb]; decide
          · rw [ec, eb]; decide
          · rw [ec, ht']; exact hT
          · rw [ec, ht']; exact s
          · rw [ec, hl', eq]
      · obtain ⟨r, oc2, la2, A2, N2, R2, Q2, h2, hR2, hX2, hY2⟩ := ih j oc1 (nI b) A1 (upd N b (N b + 1)) R1 Q1 (by omega) hj (by omega) hR1
        refine ⟨r, oc2, la2, A2, N2, R2, Q2, h2, hR2, fun post hp => ?_, fun post hp => ?_⟩
        · refine br_f x3 (hX1 _ ⟨hin, br_f ?_ ?_⟩)
          · rw [ec, g]; decide
          · refine rx_targetOf hb hT (fun z => absurd z s) (fun _ => ?_)
            rw [ej]; exact nm_r ex (hX2 post hp)
        · refine br_f y3 (hY1 _ ⟨hin, br_f ?_ ⟨hin, br_f ?_ ⟨hin, ?_, br_f ?_ ⟨hin, nm_r (e' := nI j) ?_ (nm_r ey (hY2 post hp))⟩⟩⟩⟩)
          · rw [ec, eb]; decide
          · rw [ec, eb]; decide
          · rw [ec, ht']; exact hT
          · rw [ec, ht']; exact s
          · rw [ec, hp', ej]
theorem i_vc_run {k : Nat} {u : SX} {v : SY} (I : i_Rel k u v) (hk : k + 5 ≤ 2560) : wpX_run (fun r u' => wpY_run (fun r' v' => r' = r ∧ i_Rel (k + 5) u' v') v) u := by
  obtain ⟨oc, la, A, C, O, V, W, G, T, P, L, N, R, e, t, p, l, Q, rfl, rfl, h, hC, hS, hE, hR⟩ := I
  obtain ⟨N1, hX1, hY1⟩ := rr_forget la A C O V W G T P L R e t p l Q 10 0 N rfl
  obtain ⟨r, oc2, la2, A2, N2, R2, Q2, h2, hR2, hX2, hY2⟩ := rr_runL C O V W G T P L e t p l hC hS hE 300 0 0 la A N1 R Q (by decide) (by decide) (by decide) (rr_ring0 R Q)
  unfold wpX_run wpY_run
  dsimp only
  refine ⟨11, hX1 _ ⟨301, hX2 _ ?_⟩⟩
  exact ⟨11, hY1 _ ⟨301, hY2 _ ⟨rfl, rr_mk _ h2 hC hS hE hR2⟩⟩⟩
