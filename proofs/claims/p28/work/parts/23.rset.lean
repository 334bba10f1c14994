/-! one write into a row of the reference, and what the state then says; its small methods (by wip/whole/gen/gen_rset.py) -/
theorem zz_frJ.trans {b : Nat} {J J1 J2 : Nat → Nat → Int32} (h1 : zz_frJ b J J1) (h2 : zz_frJ b J1 J2) : zz_frJ b J J2 := ⟨fun x hx => (h2.1 x hx).trans (h1.1 x hx), fun i hi => (h2.2 i hi).trans (h1.2 i hi)⟩
theorem zz_frJ.rfl {b : Nat} {J : Nat → Nat → Int32} : zz_frJ b J J := ⟨fun _ _ => Eq.refl _, fun _ _ => Eq.refl _⟩
