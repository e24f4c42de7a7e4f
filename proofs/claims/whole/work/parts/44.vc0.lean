section CLB
theorem i_vc0 : wpX_init (fun u => wpY_init (fun v => i_Rel 0 u v)) := by
  refine ⟨4, ?_⟩
  have c0 : (0 : Int32).toNatClampNeg = 0 := by decide
  have c1 : (0 + 1 : Int32).toNatClampNeg = 1 := by decide
  have c2 : (0 + 1 + 1 : Int32).toNatClampNeg = 2 := by decide
  have v0 : vp_in (0 : Int32) 3 := vp_in_nI (n := 0) (by decide) (by decide)
  have v1 : vp_in (0 + 1 : Int32) 3 := vp_in_nI (n := 1) (by decide) (by decide)
  have v2 : vp_in (0 + 1 + 1 : Int32) 3 := vp_in_nI (n := 2) (by decide) (by decide)
  refine br_f (by decide) ⟨v0, nm_e ⟨v0, nm_e (nm_e (br_f (by decide) ⟨v1, nm_e ⟨v1, nm_e (nm_e (br_f (by decide) ⟨v2, nm_e ⟨v2, nm_e (nm_e (br_t (by decide) ?_))⟩⟩))⟩⟩))⟩⟩
  refine ⟨4, br_f (by decide) ⟨v0, nm_e ⟨v0, nm_e (nm_e (br_f (by decide) ⟨v1, nm_e ⟨v1, nm_e (nm_e (br_f (by decide) ⟨v2, nm_e ⟨v2, nm_e (nm_e (br_t (by decide) ?_))⟩⟩))⟩⟩))⟩⟩⟩
  rw [c0, c1, c2]
  refine rl_mk ⟨⟨⟨0, by omega, rfl⟩, ⟨fun k => ?_, fun k => ?_, fun n => ?_, fun a ha => ?_⟩, fun a ha => ?_, fun a _ => ⟨rfl, rfl⟩, fun g _ => ⟨rfl, rfl⟩, by decide, ⟨20, by omega, rfl⟩, by decide, ⟨3, by omega, rfl⟩⟩, Or.inl ⟨rfl, rfl, rfl, rfl, rfl⟩⟩
  · show 0 ≤ (0 : Int32).toInt ∧ (0 : Int32).toInt ≤ 9; decide
  · show -3000 ≤ (0 : Int32).toInt ∧ (0 : Int32).toInt ≤ 3000; decide
  · exact ⟨by unfold px_n; show (0 : Int32) = nI ((0 : Int32).toNatClampNeg); decide, by unfold px_n; show (0 : Int32).toNatClampNeg ≤ 8; decide⟩
  · exact co_3 (P := fun a => 0 ≤ (upd (upd (upd (fun _ => (0 : Int32)) 0 1000) 1 1000) 2 1000 a).toInt ∧ (upd (upd (upd (fun _ => (0 : Int32)) 0 1000) 1 1000) 2 1000 a).toInt ≤ 1000) (by decide) (by decide) (by decide) ha
  · exact co_3 (P := fun a => 0 ≤ (0 : Int32).toInt ∧ (0 : Int32).toInt ≤ (upd (upd (upd (fun _ => (0 : Int32)) 0 1000) 1 1000) 2 1000 a).toInt) (by decide) (by decide) (by decide) ha
end CLB
