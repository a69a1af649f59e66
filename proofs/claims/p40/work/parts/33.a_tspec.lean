theorem tA.s3 {ν : jm_M} {ρ : sR} {a p c v : Int} {b : sB} (h : tA ν ρ a p c b) : tA (jm_up ν a 3 v) ρ a p c b := by
  obtain ⟨hP, hp, hW, hr, hb, hG, hc⟩ := h
  exact ⟨hP, by rw [jm_up_i (by decide)]; exact hp, hW, tRu_of (fun q q0 q1 => jm_up_ne (hP.sep q q0 q1).1) hr, ⟨by rw [jm_up_i (by decide)]; exact hb.1, by rw [jm_up_i (by decide)]; exact hb.2.1, fun f t f0 f1 t0 t1 => by rw [jm_up_ne (by omega)]; exact hb.2.2 f t f0 f1 t0 t1⟩, hG, hc⟩

