/-! ===== the statics stay ===== -/
theorem zk_law {A : Nat → Prop} {ad : Nat × Nat → Nat} {xv : Value} {xs : Nat → Int32} {L : Nat} : ZLaw A (ZK A ad xv xs L) := by
  refine ⟨fun s U locs hz hW hS => ?_, fun U V hz hv hh => ?_⟩
  · obtain ⟨h1, h2, h3, h4, h5, h6, h7, h8⟩ := hz
    exact ⟨fun q hq => va_Nw.warmM hW (h1 q hq), fun q hq => vk_R.warm hW (h2 q hq), (vk_S.moved hW.alike h3).kept hS.2.1, fun i hi => (va_T.moved hW.alike (h4 i hi)).kept hS.2.1, fun i C n d v g1 g2 => (va_Z.moved hW.alike (h5 i C n d v g1 g2)).kept hS.2.1, (va_T.moved hW.alike h6).kept hS.2.1, va_AO.moved hW.alike h7, va_AO.moved hW.alike h8⟩
  · obtain ⟨h1, h2, h3, h4, h5, h6, h7, h8⟩ := hz
    have ha : U.vm.Alike V.vm := by rw [hv]; exact Vm.Alike.refl U.vm
    refine ⟨fun q hq => va_Nw.same rfl hv.symm (h1 q hq), fun q hq => vk_R.same hv (h2 q hq), ?_, fun i hi => ?_, fun i C n d v g1 g2 => ?_, ?_, va_AO.moved ha h7, va_AO.moved ha h8⟩
    · rw [hh]; exact vk_S.moved ha h3
    · rw [hh]; exact va_T.moved ha (h4 i hi)
    · rw [hh]; exact va_Z.moved ha (h5 i C n d v g1 g2)
    · rw [hh]; exact va_T.moved ha h6
