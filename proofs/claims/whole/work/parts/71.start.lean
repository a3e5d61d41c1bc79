theorem r_all : xSteps xRel := ⟨r_points, r_moves, r_drops, r_order, r_of, r_number, r_element, r_image, r_least, r_images, r_carrier, r_holds, r_heads, r_head, r_type, r_clear, r_reads, r_back, r_told, r_digest⟩
theorem r_start {fo : Nat → Int32} (hfo : ∀ x, x < 256 → fo x = (-1 : Int32)) (ra rb : Nat → Nat) : xRel (xct0 ra rb fo) xmt0 :=
  ⟨5, 0, fun _ => gp_id, ⟨by omega, by omega, by omega, rfl, rfl, fun i hi => absurd hi (Nat.not_lt_zero _), fun i hi => absurd hi (Nat.not_lt_zero _)⟩,
    ⟨by omega, by omega, by omega, up_s, up_n (by omega), fun i hi => absurd hi (Nat.not_lt_zero _), fun i hi => absurd hi (Nat.not_lt_zero _)⟩,
    ⟨Or.inl rfl, ⟨[], List.nodup_nil, fun x hx => absurd hx List.not_mem_nil, rowL_nil _, rfl, fun x hx _ => hfo x hx⟩, Or.inl rfl⟩, Or.inl rfl, Or.inl rfl, ⟨rfl, rfl, rfl⟩,
    ⟨0, by omega, rfl, rfl, fun i hi => absurd hi (Nat.not_lt_zero _)⟩, 0, by omega, rfl, rfl, fun i hi => absurd hi (Nat.not_lt_zero _)⟩
