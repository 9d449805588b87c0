theorem ltc {j n : Nat} {c : Int32} (hc : c = nI n) (hj : j < 2 ^ 31) (hn : n < 2 ^ 31) : (nI j < c) = (j < n) := by rw [hc]; exact nlt hj hn
theorem gtc {j n : Nat} {c : Int32} (hc : c = nI n) (hj : j < 2 ^ 31) (hn : n < 2 ^ 31) : (c < nI j) = (n < j) := by rw [hc]; exact nlt hn hj
theorem eqc {j n : Nat} {c : Int32} (hc : c = nI n) (hj : j < 2 ^ 31) (hn : n < 2 ^ 31) : (nI j = c) = (j = n) := by rw [hc]; exact neq hj hn
theorem lt1 {j : Nat} (hj : j < 2 ^ 31) : (nI j < 1) = (j < 1) := ltc rfl hj (by omega)
theorem gt1 {j : Nat} (hj : j < 2 ^ 31) : (1 < nI j) = (1 < j) := gtc rfl hj (by omega)
theorem eq1 {j : Nat} (hj : j < 2 ^ 31) : (nI j = 1) = (j = 1) := eqc rfl hj (by omega)
theorem lt2 {j : Nat} (hj : j < 2 ^ 31) : (nI j < 2) = (j < 2) := ltc rfl hj (by omega)
theorem gt2 {j : Nat} (hj : j < 2 ^ 31) : (2 < nI j) = (2 < j) := gtc rfl hj (by omega)
theorem eq2 {j : Nat} (hj : j < 2 ^ 31) : (nI j = 2) = (j = 2) := eqc rfl hj (by omega)
theorem lt3 {j : Nat} (hj : j < 2 ^ 31) : (nI j < 3) = (j < 3) := ltc rfl hj (by omega)
theorem gt3 {j : Nat} (hj : j < 2 ^ 31) : (3 < nI j) = (3 < j) := gtc rfl hj (by omega)
theorem eq3 {j : Nat} (hj : j < 2 ^ 31) : (nI j = 3) = (j = 3) := eqc rfl hj (by omega)
theorem lt4 {j : Nat} (hj : j < 2 ^ 31) : (nI j < 4) = (j < 4) := ltc rfl hj (by omega)
theorem gt4 {j : Nat} (hj : j < 2 ^ 31) : (4 < nI j) = (4 < j) := gtc rfl hj (by omega)
theorem eq4 {j : Nat} (hj : j < 2 ^ 31) : (nI j = 4) = (j = 4) := eqc rfl hj (by omega)
theorem lt5 {j : Nat} (hj : j < 2 ^ 31) : (nI j < 5) = (j < 5) := ltc rfl hj (by omega)
theorem gt5 {j : Nat} (hj : j < 2 ^ 31) : (5 < nI j) = (5 < j) := gtc rfl hj (by omega)
theorem eq5 {j : Nat} (hj : j < 2 ^ 31) : (nI j = 5) = (j = 5) := eqc rfl hj (by omega)
theorem lt6 {j : Nat} (hj : j < 2 ^ 31) : (nI j < 6) = (j < 6) := ltc rfl hj (by omega)
theorem gt6 {j : Nat} (hj : j < 2 ^ 31) : (6 < nI j) = (6 < j) := gtc rfl hj (by omega)
theorem eq6 {j : Nat} (hj : j < 2 ^ 31) : (nI j = 6) = (j = 6) := eqc rfl hj (by omega)
theorem lt7 {j : Nat} (hj : j < 2 ^ 31) : (nI j < 7) = (j < 7) := ltc rfl hj (by omega)
theorem gt7 {j : Nat} (hj : j < 2 ^ 31) : (7 < nI j) = (7 < j) := gtc rfl hj (by omega)
theorem eq7 {j : Nat} (hj : j < 2 ^ 31) : (nI j = 7) = (j = 7) := eqc rfl hj (by omega)
theorem lt8 {j : Nat} (hj : j < 2 ^ 31) : (nI j < 8) = (j < 8) := ltc rfl hj (by omega)
theorem gt8 {j : Nat} (hj : j < 2 ^ 31) : (8 < nI j) = (8 < j) := gtc rfl hj (by omega)
theorem eq8 {j : Nat} (hj : j < 2 ^ 31) : (nI j = 8) = (j = 8) := eqc rfl hj (by omega)
theorem lt9 {j : Nat} (hj : j < 2 ^ 31) : (nI j < 9) = (j < 9) := ltc rfl hj (by omega)
theorem gt9 {j : Nat} (hj : j < 2 ^ 31) : (9 < nI j) = (9 < j) := gtc rfl hj (by omega)
theorem eq9 {j : Nat} (hj : j < 2 ^ 31) : (nI j = 9) = (j = 9) := eqc rfl hj (by omega)
theorem lt10 {j : Nat} (hj : j < 2 ^ 31) : (nI j < 10) = (j < 10) := ltc rfl hj (by omega)
theorem gt10 {j : Nat} (hj : j < 2 ^ 31) : (10 < nI j) = (10 < j) := gtc rfl hj (by omega)
theorem eq10 {j : Nat} (hj : j < 2 ^ 31) : (nI j = 10) = (j = 10) := eqc rfl hj (by omega)
theorem lt11 {j : Nat} (hj : j < 2 ^ 31) : (nI j < 11) = (j < 11) := ltc rfl hj (by omega)
theorem gt11 {j : Nat} (hj : j < 2 ^ 31) : (11 < nI j) = (11 < j) := gtc rfl hj (by omega)
theorem eq11 {j : Nat} (hj : j < 2 ^ 31) : (nI j = 11) = (j = 11) := eqc rfl hj (by omega)
theorem lt12 {j : Nat} (hj : j < 2 ^ 31) : (nI j < 12) = (j < 12) := ltc rfl hj (by omega)
theorem gt12 {j : Nat} (hj : j < 2 ^ 31) : (12 < nI j) = (12 < j) := gtc rfl hj (by omega)
theorem eq12 {j : Nat} (hj : j < 2 ^ 31) : (nI j = 12) = (j = 12) := eqc rfl hj (by omega)
theorem lt15 {j : Nat} (hj : j < 2 ^ 31) : (nI j < 15) = (j < 15) := ltc rfl hj (by omega)
theorem gt15 {j : Nat} (hj : j < 2 ^ 31) : (15 < nI j) = (15 < j) := gtc rfl hj (by omega)
theorem eq15 {j : Nat} (hj : j < 2 ^ 31) : (nI j = 15) = (j = 15) := eqc rfl hj (by omega)
theorem lt16 {j : Nat} (hj : j < 2 ^ 31) : (nI j < 16) = (j < 16) := ltc rfl hj (by omega)
theorem gt16 {j : Nat} (hj : j < 2 ^ 31) : (16 < nI j) = (16 < j) := gtc rfl hj (by omega)
theorem eq16 {j : Nat} (hj : j < 2 ^ 31) : (nI j = 16) = (j = 16) := eqc rfl hj (by omega)
theorem lt40 {j : Nat} (hj : j < 2 ^ 31) : (nI j < 40) = (j < 40) := ltc rfl hj (by omega)
theorem gt40 {j : Nat} (hj : j < 2 ^ 31) : (40 < nI j) = (40 < j) := gtc rfl hj (by omega)
theorem eq40 {j : Nat} (hj : j < 2 ^ 31) : (nI j = 40) = (j = 40) := eqc rfl hj (by omega)
theorem lt41 {j : Nat} (hj : j < 2 ^ 31) : (nI j < 41) = (j < 41) := ltc rfl hj (by omega)
theorem gt41 {j : Nat} (hj : j < 2 ^ 31) : (41 < nI j) = (41 < j) := gtc rfl hj (by omega)
theorem eq41 {j : Nat} (hj : j < 2 ^ 31) : (nI j = 41) = (j = 41) := eqc rfl hj (by omega)
theorem lt42 {j : Nat} (hj : j < 2 ^ 31) : (nI j < 42) = (j < 42) := ltc rfl hj (by omega)
theorem gt42 {j : Nat} (hj : j < 2 ^ 31) : (42 < nI j) = (42 < j) := gtc rfl hj (by omega)
theorem eq42 {j : Nat} (hj : j < 2 ^ 31) : (nI j = 42) = (j = 42) := eqc rfl hj (by omega)
theorem lt43 {j : Nat} (hj : j < 2 ^ 31) : (nI j < 43) = (j < 43) := ltc rfl hj (by omega)
theorem gt43 {j : Nat} (hj : j < 2 ^ 31) : (43 < nI j) = (43 < j) := gtc rfl hj (by omega)
theorem eq43 {j : Nat} (hj : j < 2 ^ 31) : (nI j = 43) = (j = 43) := eqc rfl hj (by omega)
theorem lt60 {j : Nat} (hj : j < 2 ^ 31) : (nI j < 60) = (j < 60) := ltc rfl hj (by omega)
theorem gt60 {j : Nat} (hj : j < 2 ^ 31) : (60 < nI j) = (60 < j) := gtc rfl hj (by omega)
theorem eq60 {j : Nat} (hj : j < 2 ^ 31) : (nI j = 60) = (j = 60) := eqc rfl hj (by omega)
theorem lt64 {j : Nat} (hj : j < 2 ^ 31) : (nI j < 64) = (j < 64) := ltc rfl hj (by omega)
theorem gt64 {j : Nat} (hj : j < 2 ^ 31) : (64 < nI j) = (64 < j) := gtc rfl hj (by omega)
theorem eq64 {j : Nat} (hj : j < 2 ^ 31) : (nI j = 64) = (j = 64) := eqc rfl hj (by omega)
theorem lt99 {j : Nat} (hj : j < 2 ^ 31) : (nI j < 99) = (j < 99) := ltc rfl hj (by omega)
theorem gt99 {j : Nat} (hj : j < 2 ^ 31) : (99 < nI j) = (99 < j) := gtc rfl hj (by omega)
theorem eq99 {j : Nat} (hj : j < 2 ^ 31) : (nI j = 99) = (j = 99) := eqc rfl hj (by omega)
theorem lt198 {j : Nat} (hj : j < 2 ^ 31) : (nI j < 198) = (j < 198) := ltc rfl hj (by omega)
theorem gt198 {j : Nat} (hj : j < 2 ^ 31) : (198 < nI j) = (198 < j) := gtc rfl hj (by omega)
theorem eq198 {j : Nat} (hj : j < 2 ^ 31) : (nI j = 198) = (j = 198) := eqc rfl hj (by omega)
theorem lt255 {j : Nat} (hj : j < 2 ^ 31) : (nI j < 255) = (j < 255) := ltc rfl hj (by omega)
theorem gt255 {j : Nat} (hj : j < 2 ^ 31) : (255 < nI j) = (255 < j) := gtc rfl hj (by omega)
theorem eq255 {j : Nat} (hj : j < 2 ^ 31) : (nI j = 255) = (j = 255) := eqc rfl hj (by omega)
theorem lt256 {j : Nat} (hj : j < 2 ^ 31) : (nI j < 256) = (j < 256) := ltc rfl hj (by omega)
theorem gt256 {j : Nat} (hj : j < 2 ^ 31) : (256 < nI j) = (256 < j) := gtc rfl hj (by omega)
theorem eq256 {j : Nat} (hj : j < 2 ^ 31) : (nI j = 256) = (j = 256) := eqc rfl hj (by omega)
theorem lt4096 {j : Nat} (hj : j < 2 ^ 31) : (nI j < 4096) = (j < 4096) := ltc rfl hj (by omega)
theorem gt4096 {j : Nat} (hj : j < 2 ^ 31) : (4096 < nI j) = (4096 < j) := gtc rfl hj (by omega)
theorem eq4096 {j : Nat} (hj : j < 2 ^ 31) : (nI j = 4096) = (j = 4096) := eqc rfl hj (by omega)
theorem lt65536 {j : Nat} (hj : j < 2 ^ 31) : (nI j < 65536) = (j < 65536) := ltc rfl hj (by omega)
theorem gt65536 {j : Nat} (hj : j < 2 ^ 31) : (65536 < nI j) = (65536 < j) := gtc rfl hj (by omega)
theorem eq65536 {j : Nat} (hj : j < 2 ^ 31) : (nI j = 65536) = (j = 65536) := eqc rfl hj (by omega)
theorem eq0 {j : Nat} (hj : j < 2 ^ 31) : (nI j = 0) = (j = 0) := eqc rfl hj (by omega)
theorem gt0 {j : Nat} (hj : j < 2 ^ 31) : (0 < nI j) = (0 < j) := gtc rfl hj (by omega)
theorem mul4 (j : Nat) : nI j * 4 = nI (4 * j) := by
  show nI j * nI 4 = _
  rw [pk_mul, Nat.mul_comm]
theorem lmul4 (j : Nat) : 4 * nI j = nI (4 * j) := by
  show nI 4 * nI j = _
  rw [pk_mul]
theorem ladd4 (j : Nat) : 4 + nI j = nI (4 + j) := by
  show nI 4 + nI j = _
  rw [nI_add]
theorem mul6 (j : Nat) : nI j * 6 = nI (6 * j) := by
  show nI j * nI 6 = _
  rw [pk_mul, Nat.mul_comm]
theorem lmul6 (j : Nat) : 6 * nI j = nI (6 * j) := by
  show nI 6 * nI j = _
  rw [pk_mul]
theorem ladd6 (j : Nat) : 6 + nI j = nI (6 + j) := by
  show nI 6 + nI j = _
  rw [nI_add]
theorem mul16 (j : Nat) : nI j * 16 = nI (16 * j) := by
  show nI j * nI 16 = _
  rw [pk_mul, Nat.mul_comm]
theorem lmul16 (j : Nat) : 16 * nI j = nI (16 * j) := by
  show nI 16 * nI j = _
  rw [pk_mul]
theorem ladd16 (j : Nat) : 16 + nI j = nI (16 + j) := by
  show nI 16 + nI j = _
  rw [nI_add]
theorem mul40 (j : Nat) : nI j * 40 = nI (40 * j) := by
  show nI j * nI 40 = _
  rw [pk_mul, Nat.mul_comm]
theorem lmul40 (j : Nat) : 40 * nI j = nI (40 * j) := by
  show nI 40 * nI j = _
  rw [pk_mul]
theorem ladd40 (j : Nat) : 40 + nI j = nI (40 + j) := by
  show nI 40 + nI j = _
  rw [nI_add]
theorem mul24 (j : Nat) : nI j * 24 = nI (24 * j) := by
  show nI j * nI 24 = _
  rw [pk_mul, Nat.mul_comm]
theorem lmul24 (j : Nat) : 24 * nI j = nI (24 * j) := by
  show nI 24 * nI j = _
  rw [pk_mul]
theorem ladd24 (j : Nat) : 24 + nI j = nI (24 + j) := by
  show nI 24 + nI j = _
  rw [nI_add]
theorem mul43 (j : Nat) : nI j * 43 = nI (43 * j) := by
  show nI j * nI 43 = _
  rw [pk_mul, Nat.mul_comm]
theorem lmul43 (j : Nat) : 43 * nI j = nI (43 * j) := by
  show nI 43 * nI j = _
  rw [pk_mul]
theorem ladd43 (j : Nat) : 43 + nI j = nI (43 + j) := by
  show nI 43 + nI j = _
  rw [nI_add]
theorem add2 (j : Nat) : nI j + 2 = nI (j + 2) := by
  show nI j + nI 2 = _
  rw [nI_add]
theorem add3 (j : Nat) : nI j + 3 = nI (j + 3) := by
  show nI j + nI 3 = _
  rw [nI_add]
theorem add4 (j : Nat) : nI j + 4 = nI (j + 4) := by
  show nI j + nI 4 = _
  rw [nI_add]
theorem add5 (j : Nat) : nI j + 5 = nI (j + 5) := by
  show nI j + nI 5 = _
  rw [nI_add]
