/-! the invariant at the start -/
theorem inv0 {u v : nl_HW} (hu0 : u.1 0 = cX 4 9 0 0 0) (hF : iF u.1 123) (hR : gRC u.1 zz zz zz (fun _ => zz)) (h91 : u.1 91 = nl_ra 3 2 imgL) (h92 : u.1 92 = nl_ra 4 2 imgW) (hIm : ∀ i, i < 2 → lawAt u.1 (123 + 8 * i) zz ∧ clothAt u.1 (128 + 8 * i) zz 0) (e : v.2 = (151, 3199)) (fr : ∀ q, q < 139 → v.1 q = u.1 q) (hm : v.1 139 = .inr (10, [.ref (139 + 1), .ref (139 + 2), .ref (139 + 3), .int 0, .ref (139 + 4), .int 0, .int 0, .int 0, .ref (139 + 5), .int 0, .ref (139 + 6), .ref (139 + 7), .ref (139 + 8), .int 0, .ref (139 + 9), .int 0, .int 0, .int 0, .int 0, .int 0, .ref (139 + 10), .ref (139 + 11), .int 0, .int 0])) (k1 : v.1 (139 + 1) = nl_ia 8 fun _ => 0) (k2 : ∃ g, v.1 (139 + 2) = nl_ia 8 g ∧ ∀ j, j < 8 → g j = -1) (k3 : v.1 (139 + 3) = nl_ia 320 fun _ => 0) (k4 : v.1 (139 + 4) = nl_ia 120 fun _ => 0) (k5 : v.1 (139 + 5) = nl_ia 48 fun _ => 0) (k6 : v.1 (139 + 6) = nl_ia 1152 fun _ => 0) (k7 : v.1 (139 + 7) = nl_ia 96 fun _ => 0) (k8 : v.1 (139 + 8) = nl_za 2 fun _ => 0) (k9 : v.1 (139 + 9) = nl_ia 16 fun _ => 0) (k10 : v.1 (139 + 10) = nl_ia 48 fun _ => 0) (k11 : v.1 (139 + 11) = nl_ia 48 fun _ => 0) : Inv (151, 3199) v := by
  obtain ⟨f1, f2, f3, f4, f5, f6, f7, f8, f9, f10⟩ := hF
  obtain ⟨g, k2, k2'⟩ := k2
  obtain ⟨r1, r2⟩ := hR
  have yz : yl zz = 0 := by decide
  refine ⟨e, 4, 9, 0, 0, 0, 0, 0, 0, 0, 0, 0, 0, 0, 0, 0, 0, 0, zz, zz, Or.inl ⟨rfl, rfl⟩, ⟨(fr 0 (by omega)).trans hu0, hm⟩, ?_, ?_, ?_, ?_, ?_, ?_, ?_⟩
  · refine ⟨zz, zz, zz, fun _ => zz, zz, g, zz, ⟨(fr 1 (by omega)).trans r1, fun i hi => ?_⟩, ⟨k1, k2, k3⟩, fun i hi => Or.inl ⟨rfl, k2' i hi⟩, fun i j _ _ => rfl⟩
    exact ⟨(fr _ (by omega)).trans (r2 i hi).1, (fr _ (by omega)).trans (r2 i hi).2⟩
  · exact ⟨by omega, zz, 0, 0, 0, 0, 0, (fr 2 (by omega)).trans (f1 (by omega)).1, (fr 3 (by omega)).trans (f1 (by omega)).2, k4, fun j hj => by omega⟩
  · refine ⟨law_of (f2 (by omega)) (fun q r1 r2 => fr q (by omega)), ⟨zz, law_of (f3 (by omega)) (fun q r1 r2 => fr q (by omega))⟩, ?_, k5, fun j _ => rfl, fun j _ => rfl, by omega, by omega, by decide, by decide, fun _ => ⟨fun _ => rfl, rfl, rfl⟩, fun q => absurd rfl q⟩
    rw [yz]
    exact cl_fr (f4 (by omega)) (fun q r1 r2 => fr q (by omega))
  · exact ⟨by omega, fun _ => rfl, 0, zz, by omega, (fr 17 (by omega)).trans (f5 (by omega)).1, (fr 18 (by omega)).trans (f5 (by omega)).2.1, k6, fun i hi => ⟨zz, 0, cl_fr ((f5 (by omega)).2.2 i hi) (fun q r1 r2 => fr q (by omega))⟩, fun j hj => by omega⟩
  · refine ⟨zz, zz, (fr 91 (by omega)).trans h91, (fr 92 (by omega)).trans h92, (fr 93 (by omega)).trans (f6 (by omega)), k8, k7, fun i hi => ⟨zz, 0, law_of (hIm i hi).1 (fun q r1 r2 => fr q (by omega)), cl_fr (hIm i hi).2 (fun q r1 r2 => fr q (by omega)), Or.inl rfl, fun q => absurd rfl q⟩⟩
  · exact ⟨⟨0, 0, 0, 0, 0, 0, 0, 0, (fr 94 (by omega)).trans (f7 (by omega)).1⟩, ⟨zz, law_of (f7 (by omega)).2.1 (fun q r1 r2 => fr q (by omega))⟩, ⟨zz, 0, cl_fr (f7 (by omega)).2.2 (fun q r1 r2 => fr q (by omega))⟩, ⟨0, 0, 0, (fr 103 (by omega)).trans (f8 (by omega))⟩, ⟨0, 0, 0, (fr 104 (by omega)).trans (f9 (by omega))⟩, ⟨zz, fun _ _ => rfl, k10⟩, zz, fun _ _ => rfl, k11⟩
  · exact ⟨by omega, 0, 0, 0, 0, zz, zz, (fr 105 (by omega)).trans (f10 (by omega)).1, (fr 106 (by omega)).trans (f10 (by omega)).2, k9, fun j hj => by omega⟩
