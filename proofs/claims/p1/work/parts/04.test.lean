theorem zt_b : zok ((nat_lit 0), [(nat_lit 640), (nat_lit 16), (nat_lit 16), (nat_lit 16), (nat_lit 0)]) = true := by decide +kernel
