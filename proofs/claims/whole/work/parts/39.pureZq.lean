/-! THE PURE PART. ZQ: the start -/
def zst (c i : Nat) : Int32 := (h_MM (h_MC (fun _ _ => (0 : Int32)) 0) 41) c i
theorem inv_start : inv (h_MM (h_MC (fun _ _ => (0 : Int32)) 0) 41) := by
  refine ⟨⟨?_, ?_, ?_, ?_, ⟨0, by decide, ?_, ?_⟩, ?_, ⟨0, by decide, ?_, ?_, fun r hr => absurd hr (by omega)⟩, 0, by decide, ?_, ?_, fun r hr => absurd hr (by omega), 0, by decide, ?_, ?_, fun r hr => absurd hr (by omega)⟩, ?_, ⟨0, by decide, ?_, ?_, fun i hi => absurd hi (by omega)⟩, ⟨0, by decide, ?_, ?_, fun i hi => absurd hi (by omega)⟩, ⟨0, by decide, ?_, ?_, fun i hi => absurd hi (by omega)⟩, ?_, Or.inl ?_⟩
  · unfold p_bd; decide +kernel
  · unfold p_bd; decide +kernel
  · unfold p_bd; decide +kernel
  · unfold p_bd; decide +kernel
  · decide +kernel
  · decide +kernel
  · unfold p_bd; decide +kernel
  · decide +kernel
  · decide +kernel
  · decide +kernel
  · decide +kernel
  · decide +kernel
  · decide +kernel
  · unfold iRef; decide +kernel
  · decide +kernel
  · decide +kernel
  · decide +kernel
  · decide +kernel
  · decide +kernel
  · decide +kernel
  · decide +kernel
  · decide +kernel
