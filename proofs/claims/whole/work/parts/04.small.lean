/-! the tests of arguments, and the methods without a loop -/
theorem rx_isBlock {post : Int32 → Prop} {u : SX} {x : Int32} (h1 : vp_in x 10 → post 1) (h0 : ¬ vp_in x 10 → post 0) : wpX_isBlock post u x := by
  have hi := rr_in x (n := 10) (by decide)
  by_cases a : x < 0
  · exact br_t a (h0 (fun h => (hi.mp h).1 a))
  · by_cases b : (10 : Int32) ≤ x
    · exact br_f a (br_t b (h0 (fun h => (hi.mp h).2 b)))
    · exact br_f a (br_f b (h1 (hi.mpr ⟨a, b⟩)))
theorem rx_isVariable {post : Int32 → Prop} {u : SX} {x : Int32} (h1 : vp_in x 4 → post 1) (h0 : ¬ vp_in x 4 → post 0) : wpX_isVariable post u x := by
  have hi := rr_in x (n := 4) (by decide)
  by_cases a : x < 0
  · exact br_t a (h0 (fun h => (hi.mp h).1 a))
  · by_cases b : (4 : Int32) ≤ x
    · exact br_f a (br_t b (h0 (fun h => (hi.mp h).2 b)))
    · exact br_f a (br_f b (h1 (hi.mpr ⟨a, b⟩)))
theorem rx_reads {post : Int32 → Prop} {u : SX} {x : Int32} (h1 : (x = 1 ∨ x = 2 ∨ x = 3) → post 1) (h0 : ¬ (x = 1 ∨ x = 2 ∨ x = 3) → post 0) : wpX_readsSecondVariable post u x := by
  by_cases a : x = 1
  · exact br_t a (h1 (Or.inl a))
  · by_cases b : x = 2
    · exact br_f a (br_t b (h1 (Or.inr (Or.inl b))))
    · by_cases c : x = 3
      · exact br_f a (br_f b (br_t c (h1 (Or.inr (Or.inr c)))))
      · refine br_f a (br_f b (br_f c (h0 ?_)))
        intro h
        rcases h with h | h | h
        · exact a h
        · exact b h
        · exact c h
theorem ry_bad {post : Int32 → Prop} {u : SY} {x : Int32} (h0 : vp_in x 10 → post 0) (h1 : ¬ vp_in x 10 → post 1) : wpY_bad post u x := by
  have hi := rr_in1 x (n := 9) (by decide)
  by_cases a : x < 0
  · exact br_t a (h1 (fun h => (hi.mp h).1 a))
  · by_cases b : x ≤ (9 : Int32)
    · exact br_f a (br_t b (h0 (hi.mpr ⟨a, b⟩)))
    · exact br_f a (br_f b (h1 (fun h => b (hi.mp h).2)))
theorem ry_badVariable {post : Int32 → Prop} {u : SY} {x : Int32} (h0 : vp_in x 4 → post 0) (h1 : ¬ vp_in x 4 → post 1) : wpY_badVariable post u x := by
  have hi := rr_in1 x (n := 3) (by decide)
  by_cases a : x < 0
  · exact br_t a (h1 (fun h => (hi.mp h).1 a))
  · by_cases b : x ≤ (3 : Int32)
    · exact br_f a (br_t b (h0 (hi.mpr ⟨a, b⟩)))
    · exact br_f a (br_f b (h1 (fun h => b (hi.mp h).2)))
theorem i_vc_empty {k : Nat} {u : SX} {v : SY} (I : i_Rel k u v) (hk : k + 5 ≤ 2560) (v1 : Int32) : wpX_empty (fun r u' => wpY_empty (fun r' v' => r' = r ∧ i_Rel (k + 5) u' v') v v1) u v1 := by
  obtain ⟨oc, la, A, C, O, V, W, G, T, P, L, N, R, e, t, p, l, Q, rfl, rfl, h, hC, hS, hE, hR⟩ := I
  unfold wpX_empty wpY_empty
  dsimp only
  by_cases h1 : vp_in v1 10
  · refine rx_isBlock (fun _ => br_f rr_10 ⟨h1, nm_e ⟨h1, nm_e ?_⟩⟩) (fun z => absurd h1 z)
    exact ry_bad (fun _ => br_t rfl ⟨h1, nm_e ⟨h1, nm_e ⟨rfl, rr_mk _ h (rr_cntsU hC _ 0 (by decide)) hS hE hR⟩⟩⟩) (fun z => absurd h1 z)
  · refine rx_isBlock (fun z => absurd z h1) (fun _ => br_t rfl ?_)
    exact ry_bad (fun z => absurd z h1) (fun _ => br_f rr_10 ⟨rfl, rr_mk _ h hC hS hE hR⟩)
theorem i_vc_stop {k : Nat} {u : SX} {v : SY} (I : i_Rel k u v) (hk : k + 5 ≤ 2560) (v1 : Int32) : wpX_stop (fun r u' => wpY_stop (fun r' v' => r' = r ∧ i_Rel (k + 5) u' v') v v1) u v1 := by
  obtain ⟨oc, la, A, C, O, V, W, G, T, P, L, N, R, e, t, p, l, Q, rfl, rfl, h, hC, hS, hE, hR⟩ := I
  unfold wpX_stop wpY_stop
  dsimp only
  by_cases h1 : vp_in v1 10
  · refine rx_isBlock (fun _ => br_f rr_10 ⟨h1, nm_e ?_⟩) (fun z => absurd h1 z)
    exact ry_bad (fun _ => br_t rfl ⟨h1, nm_e ⟨rfl, rr_mk _ h hC hS (rr_endsStop _ hE) hR⟩⟩) (fun z => absurd h1 z)
  · refine rx_isBlock (fun z => absurd z h1) (fun _ => br_t rfl ?_)
    exact ry_bad (fun z => absurd z h1) (fun _ => br_f rr_10 ⟨rfl, rr_mk _ h hC hS hE hR⟩)
theorem rx_ends {post : SX → Prop} {oc : Nat} {la : Int32} {A C O V W G T P L N R : Nat → Int32} {b v x y : Int32} (hb : vp_in b 10) (hp : post (rr_X oc la A C O V W (upd G b.toNatClampNeg 1) (upd T b.toNatClampNeg v) (upd P b.toNatClampNeg x) (upd L b.toNatClampNeg y) N R)) : wpX_endWithTargets post (rr_X oc la A C O V W G T P L N R) b v x y :=
  ⟨hb, nm_e ⟨hb, nm_e ⟨hb, nm_e ⟨hb, nm_e hp⟩⟩⟩⟩
theorem i_vc_go {k : Nat} {u : SX} {v : SY} (I : i_Rel k u v) (hk : k + 5 ≤ 2560) (v1 : Int32) (v2 : Int32) : wpX_go (fun r u' => wpY_go (fun r' v' => r' = r ∧ i_Rel (k + 5) u' v') v v1 v2) u v1 v2 := by
  obtain ⟨oc, la, A, C, O, V, W, G, T, P, L, N, R, e, t, p, l, Q, rfl, rfl, h, hC, hS, hE, hR⟩ := I
  unfold wpX_go wpY_go
  dsimp only
  by_cases h1 : vp_in v1 10
  · by_cases h2 : vp_in v2 10
    · refine rx_isBlock (fun _ => br_f rr_10 (rx_isBlock (fun _ => br_f rr_10 (rx_ends h1 ?_)) (fun z => absurd h2 z))) (fun z => absurd h1 z)
      exact ry_bad (fun _ => br_t rfl (ry_bad (fun _ => br_t rfl ⟨h1, nm_e ⟨h1, nm_e ⟨rfl, rr_mk _ h hC hS (rr_endsGo _ _ h2 hE) hR⟩⟩⟩) (fun z => absurd h2 z))) (fun z => absurd h1 z)
    · refine rx_isBlock (fun _ => br_f rr_10 (rx_isBlock (fun z => absurd z h2) (fun _ => br_t rfl ?_))) (fun z => absurd h1 z)
      exact ry_bad (fun _ => br_t rfl (ry_bad (fun z => absurd z h2) (fun _ => br_f rr_10 ⟨rfl, rr_mk _ h hC hS hE hR⟩))) (fun z => absurd h1 z)
  · refine rx_isBlock (fun z => absurd z h1) (fun _ => br_t rfl ?_)
    exact ry_bad (fun z => absurd z h1) (fun _ => br_f rr_10 ⟨rfl, rr_mk _ h hC hS hE hR⟩)
theorem i_vc_branch {k : Nat} {u : SX} {v : SY} (I : i_Rel k u v) (hk : k + 5 ≤ 2560) (v1 : Int32) (v2 : Int32) (v3 : Int32) (v4 : Int32) : wpX_branch (fun r u' => wpY_branch (fun r' v' => r' = r ∧ i_Rel (k + 5) u' v') v v1 v2 v3 v4) u v1 v2 v3 v4 := by
  obtain ⟨oc, la, A, C, O, V, W, G, T, P, L, N, R, e, t, p, l, Q, rfl, rfl, h, hC, hS, hE, hR⟩ := I
  have J := rr_mk (k + 5) (la := la) (A := A) (N := N) h hC hS hE hR
  unfold wpX_branch wpY_branch
  dsimp only
  by_cases h1 : vp_in v1 10
  · refine rx_isBlock (fun _ => br_f rr_10 ?_) (fun z => absurd h1 z)
    by_cases h3 : vp_in v3 10
    · refine rx_isBlock (fun _ => br_f rr_10 ?_) (fun z => absurd h3 z)
      by_cases h4 : vp_in v4 10
      · refine rx_isBlock (fun _ => br_f rr_10 ?_) (fun z => absurd h4 z)
        by_cases h2 : vp_in v2 4
        · refine rx_isVariable (fun _ => br_f rr_10 (rx_ends h1 ?_)) (fun z => absurd h2 z)
          refine ry_bad (fun _ => br_t rfl ?_) (fun z => absurd h1 z)
          refine ry_bad (fun _ => br_t rfl ?_) (fun z => absurd h3 z)
          refine ry_bad (fun _ => br_t rfl ?_) (fun z => absurd h4 z)
          refine ry_badVariable (fun _ => br_t rfl ?_) (fun z => absurd h2 z)
          exact ⟨h1, nm_e ⟨h1, nm_e ⟨h1, nm_e ⟨h1, nm_e ⟨rfl, rr_mk _ h hC hS (rr_endsIf _ _ _ _ h2 h3 h4 hE) hR⟩⟩⟩⟩⟩
        · refine rx_isVariable (fun z => absurd z h2) (fun _ => br_t rfl ?_)
          refine ry_bad (fun _ => br_t rfl ?_) (fun z => absurd h1 z)
          refine ry_bad (fun _ => br_t rfl ?_) (fun z => absurd h3 z)
          refine ry_bad (fun _ => br_t rfl ?_) (fun z => absurd h4 z)
          exact ry_badVariable (fun z => absurd z h2) (fun _ => br_f rr_10 ⟨rfl, J⟩)
      · refine rx_isBlock (fun z => absurd z h4) (fun _ => br_t rfl ?_)
        refine ry_bad (fun _ => br_t rfl ?_) (fun z => absurd h1 z)
        refine ry_bad (fun _ => br_t rfl ?_) (fun z => absurd h3 z)
        exact ry_bad (fun z => absurd z h4) (fun _ => br_f rr_10 ⟨rfl, J⟩)
    · refine rx_isBlock (fun z => absurd z h3) (fun _ => br_t rfl ?_)
      refine ry_bad (fun _ => br_t rfl ?_) (fun z => absurd h1 z)
      exact ry_bad (fun z => absurd z h3) (fun _ => br_f rr_10 ⟨rfl, J⟩)
  · refine rx_isBlock (fun z => absurd z h1) (fun _ => br_t rfl ?_)
    exact ry_bad (fun z => absurd z h1) (fun _ => br_f rr_10 ⟨rfl, J⟩)
theorem i_vc_set {k : Nat} {u : SX} {v : SY} (I : i_Rel k u v) (hk : k + 5 ≤ 2560) (v1 : Int32) (v2 : Int32) : wpX_set (fun r u' => wpY_set (fun r' v' => r' = r ∧ i_Rel (k + 5) u' v') v v1 v2) u v1 v2 := by
  obtain ⟨oc, la, A, C, O, V, W, G, T, P, L, N, R, e, t, p, l, Q, rfl, rfl, h, hC, hS, hE, hR⟩ := I
  unfold wpX_set wpY_set
  dsimp only
  by_cases h1 : vp_in v1 4
  · refine rx_isVariable (fun _ => br_f rr_10 ⟨h1, nm_e ?_⟩) (fun z => absurd h1 z)
    exact ry_badVariable (fun _ => br_t rfl ⟨h1, nm_e ⟨rfl, rr_mk _ h hC hS hE hR⟩⟩) (fun z => absurd h1 z)
  · refine rx_isVariable (fun z => absurd z h1) (fun _ => br_t rfl ?_)
    exact ry_badVariable (fun z => absurd z h1) (fun _ => br_f rr_10 ⟨rfl, rr_mk _ h hC hS hE hR⟩)
theorem i_vc_get {k : Nat} {u : SX} {v : SY} (I : i_Rel k u v) (hk : k + 5 ≤ 2560) (v1 : Int32) : wpX_get (fun r => wpY_get (fun r' => r' = r ∧ i_Rel (k + 5) u v) v v1) u v1 := by
  have J := I
  obtain ⟨oc, la, A, C, O, V, W, G, T, P, L, N, R, e, t, p, l, Q, rfl, rfl, h, hC, hS, hE, hR⟩ := I
  unfold wpX_get wpY_get
  dsimp only
  by_cases h1 : vp_in v1 4
  · refine rx_isVariable (fun _ => br_f rr_10 ⟨h1, ?_⟩) (fun z => absurd h1 z)
    exact ry_badVariable (fun _ => br_t rfl ⟨h1, rfl, J⟩) (fun z => absurd h1 z)
  · refine rx_isVariable (fun z => absurd z h1) (fun _ => br_t rfl ?_)
    exact ry_badVariable (fun z => absurd z h1) (fun _ => br_f rr_10 ⟨rfl, J⟩)
theorem i_vc_outputs {k : Nat} {u : SX} {v : SY} (I : i_Rel k u v) (hk : k + 5 ≤ 2560) : wpX_outputs (fun r => wpY_outputs (fun r' => r' = r ∧ i_Rel (k + 5) u v) v) u := by
  have J := I
  obtain ⟨oc, la, A, C, O, V, W, G, T, P, L, N, R, e, t, p, l, Q, rfl, rfl, h, hC, hS, hE, hR⟩ := I
  exact ⟨rfl, J⟩
theorem i_vc_visits {k : Nat} {u : SX} {v : SY} (I : i_Rel k u v) (hk : k + 5 ≤ 2560) (v1 : Int32) : wpX_visits (fun r => wpY_visits (fun r' => r' = r ∧ i_Rel (k + 5) u v) v v1) u v1 := by
  have J := I
  obtain ⟨oc, la, A, C, O, V, W, G, T, P, L, N, R, e, t, p, l, Q, rfl, rfl, h, hC, hS, hE, hR⟩ := I
  unfold wpX_visits wpY_visits
  dsimp only
  by_cases h1 : vp_in v1 10
  · refine rx_isBlock (fun _ => br_f rr_10 ⟨h1, ?_⟩) (fun z => absurd h1 z)
    exact ry_bad (fun _ => br_t rfl ⟨h1, rfl, J⟩) (fun z => absurd h1 z)
  · refine rx_isBlock (fun z => absurd z h1) (fun _ => br_t rfl ?_)
    exact ry_bad (fun z => absurd z h1) (fun _ => br_f rr_10 ⟨rfl, J⟩)
theorem i_vc_last {k : Nat} {u : SX} {v : SY} (I : i_Rel k u v) (hk : k + 5 ≤ 2560) : wpX_last (fun r => wpY_last (fun r' => r' = r ∧ i_Rel (k + 5) u v) v) u := by
  have J := I
  obtain ⟨oc, la, A, C, O, V, W, G, T, P, L, N, R, e, t, p, l, Q, rfl, rfl, h, hC, hS, hE, hR⟩ := I
  exact ⟨rfl, J⟩
