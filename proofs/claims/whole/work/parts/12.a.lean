theorem fw_R.toS {G : fw_G} {kd : Nat → Option Nat} {S : fw_S} {H : Heap} {locs : List Loc} (h : fw_R G kd S H locs) : va_S (fw_A G) G.2.2 H locs := ⟨h.2.2.1, fun q h1 _ => h.2.1 q h1, h.2.2.2.1⟩
