theorem st_text {G : GS} {K : Int32 → Int32 → GS → Prop} (hI : Inv G) (hK : ∀ r G2, Inv G2 → K r r G2) : wp_X9_text G (fun r G1 => wp_X10_text G1 (fun r' G2 => K r r' G2)) := sorry
