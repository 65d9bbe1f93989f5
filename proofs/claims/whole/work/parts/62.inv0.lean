/-! WHAT HOLDS AT THE BEGINNING -/
section I0
theorem tz_0 : TZ (fun _ => (0 : Int32)) := fun _ _ => rfl
theorem szq_ok : ∀ t, t < 3 → szq t = -1 := by decide +kernel
theorem INV_0 : INV P0 S0 := by
  have wf : wfS (beginF zS 3 2 2 1) 3 2 2 := by
    refine ⟨⟨rfl, rfl, rfl⟩, ⟨1, by omega, rfl⟩, Or.inl rfl, fill_tz 1 tz_0, ⟨fill_tz 8 tz_0, fun v hv => ⟨8, by omega, by omega, ?_⟩⟩, ?_, ⟨tz_0, fun v _ s _ z => ?_⟩⟩
    · show fillF 8 8 (fun _ => 0) v = nI 8
      unfold fillF
      rw [if_pos hv]
      rfl
    · show wfL (fillF 8 0 (fun _ => 0)) 3
      rw [fill_z tz_0]
      exact wfL_0 3
    · have z : bt 0 s = true := z
      rw [b_0] at z
      exact absurd z (by decide)
  have sg : ∀ (a : Nat) (x : Int32), (∀ v, v < 8 → anR (fun _ => 0) 1 8 (0 + (a + v)) = x) → seg (fun j => anR (fun _ => 0) 1 8 (0 + j)) a = fillF 8 x (fun _ => 0) := by
    intro a x hx
    funext v
    unfold seg fillF
    by_cases q : v < 8
    · rw [if_pos q, if_pos q]; exact hx v q
    · rw [if_neg q, if_neg q]
  refine ⟨3, 2, 2, ⟨⟨⟨by omega, by omega⟩, ⟨by omega, by omega⟩, by omega, by omega⟩, ⟨rfl, rfl, rfl⟩, wf, ⟨⟨⟨rfl, ?_, ?_, ?_⟩, rfl⟩, rfl, fun z => ?_⟩⟩, ⟨0, 0, ⟨by omega, by omega⟩, ⟨rfl, rfl, rfl⟩, fun i hi => by omega⟩, fun k hk => ⟨rfl, Or.inl rfl⟩, fun t ht => ?_, ⟨⟨0, by omega, rfl, rfl, fun i hi => by omega⟩, fun i hi => wdq_ok i hi⟩, fun j hj => ?_⟩
  · refine sg 1 8 (fun v hv => ?_)
    unfold anR
    rw [if_neg (by omega), if_pos (by omega)]
  · refine sg 17 0 (fun v hv => ?_)
    unfold anR
    rw [if_neg (by omega), if_neg (by omega), if_neg (by omega), if_pos (by omega)]
  · refine (sg 9 0 (fun v hv => ?_)).trans (fill_z tz_0)
    unfold anR
    rw [if_neg (by omega), if_neg (by omega), if_pos (by omega)]
  · exact absurd (show (0 : Int32) = 1 from z) (by decide)
  · refine Or.inl ?_
    have e : S0 (13 + t) = tS := by unfold S0; rw [if_neg (by omega), if_neg (by omega), if_pos (by omega)]
    rw [e]
    exact ⟨rfl, rfl, szq_ok t ht⟩
  · by_cases q : j = 0
    · rw [q]; exact wf_tz wf
    · have e : S0 j = zS := by unfold S0; rw [if_neg q, if_pos (by omega)]
      rw [e]
      exact ⟨tz_0, tz_0, tz_0, tz_0⟩
end I0
