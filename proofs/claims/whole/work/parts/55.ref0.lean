/-! ===== the reference: its shape, what it holds, the leaves ===== -/
def RS (M : Mm) : Prop := (m_sh M 206).1 = 11 ∧
  (m_r M 206 9 = 207 ∧ m_sh M 207 = (20, 500)) ∧
  (m_r M 206 17 = 226 ∧ m_sh M 226 = (20, 10)) ∧
  (m_r M 206 18 = 227 ∧ m_sh M 227 = (20, 10)) ∧
  (m_r M 206 19 = 228 ∧ m_sh M 228 = (20, 10)) ∧
  (m_r M 206 20 = 229 ∧ m_sh M 229 = (20, 10)) ∧
  (m_r M 206 21 = 230 ∧ m_sh M 230 = (20, 10)) ∧
  (m_r M 206 22 = 231 ∧ m_sh M 231 = (20, 10)) ∧
  (m_r M 206 25 = 254 ∧ m_sh M 254 = (20, 800)) ∧
  (m_r M 206 26 = 255 ∧ m_sh M 255 = (20, 7)) ∧
  (m_r M 206 29 = 256 ∧ m_sh M 256 = (20, 8)) ∧
  (m_r M 206 31 = 261 ∧ m_sh M 261 = (20, 8)) ∧
  (m_r M 206 32 = 262 ∧ m_sh M 262 = (20, 8)) ∧
  (m_r M 206 45 = 263 ∧ m_sh M 263 = (20, 9)) ∧
  (m_r M 206 46 = 264 ∧ m_sh M 264 = (20, 9)) ∧
  (m_r M 206 47 = 265 ∧ m_sh M 265 = (20, 9)) ∧
  (m_r M 206 48 = 266 ∧ m_sh M 266 = (20, 9)) ∧
  (m_r M 206 49 = 267 ∧ m_sh M 267 = (20, 9)) ∧
  (m_r M 206 50 = 268 ∧ m_sh M 268 = (20, 9)) ∧
  (m_r M 206 51 = 269 ∧ m_sh M 269 = (20, 8)) ∧
  (m_r M 206 54 = 345 ∧ m_sh M 345 = (20, 8)) ∧
  (m_r M 206 55 = 346 ∧ m_sh M 346 = (20, 8)) ∧
  (m_r M 206 56 = 347 ∧ m_sh M 347 = (20, 8)) ∧
  (m_r M 206 12 = 208 ∧ m_sh M 208 = (33, 8) ∧ ∀ i, i < 8 → m_r M 208 i = 209 + i ∧ m_sh M (209 + i) = (20, 8)) ∧
  (m_r M 206 13 = 217 ∧ m_sh M 217 = (33, 8) ∧ ∀ i, i < 8 → m_r M 217 i = 218 + i ∧ m_sh M (218 + i) = (20, 8)) ∧
  (m_r M 206 23 = 232 ∧ m_sh M 232 = (33, 10) ∧ ∀ i, i < 10 → m_r M 232 i = 233 + i ∧ m_sh M (233 + i) = (20, 800)) ∧
  (m_r M 206 24 = 243 ∧ m_sh M 243 = (33, 10) ∧ ∀ i, i < 10 → m_r M 243 i = 244 + i ∧ m_sh M (244 + i) = (20, 800)) ∧
  (m_r M 206 30 = 257 ∧ m_sh M 257 = (33, 3) ∧ ∀ i, i < 3 → m_r M 257 i = 258 + i ∧ m_sh M (258 + i) = (20, 32)) ∧
  (m_r M 206 52 = 270 ∧ m_sh M 270 = (33, 9) ∧ ∀ i, i < 9 → m_r M 270 i = 271 + i ∧ m_sh M (271 + i) = (20, 100)) ∧
  (m_r M 206 53 = 280 ∧ m_sh M 280 = (33, 64) ∧ ∀ i, i < 64 → m_r M 280 i = 281 + i ∧ m_sh M (281 + i) = (20, 4)) ∧
  (m_r M 206 58 = 348 ∧ m_sh M 348 = (33, 8) ∧ ∀ i, i < 8 → m_r M 348 i = 349 + i ∧ m_sh M (349 + i) = (20, 8)) ∧
  (m_r M 206 59 = 357 ∧ m_sh M 357 = (33, 3125) ∧ ∀ i, i < 3125 → m_r M 357 i = 358 + i ∧ m_sh M (358 + i) = (20, 5))
theorem RS.c {M : Mm} (h : RS M) : (m_sh M 206).1 = 11 := h.1
theorem RS.r_fed {M : Mm} (h : RS M) : m_r M 206 9 = 207 := h.2.1.1
theorem RS.s_fed {M : Mm} (h : RS M) : m_sh M 207 = (20, 500) := h.2.1.2
theorem RS.r_rKind {M : Mm} (h : RS M) : m_r M 206 17 = 226 := h.2.2.1.1
theorem RS.s_rKind {M : Mm} (h : RS M) : m_sh M 226 = (20, 10) := h.2.2.1.2
theorem RS.r_kind {M : Mm} (h : RS M) : m_r M 206 18 = 227 := h.2.2.2.1.1
theorem RS.s_kind {M : Mm} (h : RS M) : m_sh M 227 = (20, 10) := h.2.2.2.1.2
theorem RS.r_rNum {M : Mm} (h : RS M) : m_r M 206 19 = 228 := h.2.2.2.2.1.1
theorem RS.s_rNum {M : Mm} (h : RS M) : m_sh M 228 = (20, 10) := h.2.2.2.2.1.2
theorem RS.r_num {M : Mm} (h : RS M) : m_r M 206 20 = 229 := h.2.2.2.2.2.1.1
theorem RS.s_num {M : Mm} (h : RS M) : m_sh M 229 = (20, 10) := h.2.2.2.2.2.1.2
theorem RS.r_rLong {M : Mm} (h : RS M) : m_r M 206 21 = 230 := h.2.2.2.2.2.2.1.1
theorem RS.s_rLong {M : Mm} (h : RS M) : m_sh M 230 = (20, 10) := h.2.2.2.2.2.2.1.2
theorem RS.r_cLong {M : Mm} (h : RS M) : m_r M 206 22 = 231 := h.2.2.2.2.2.2.2.1.1
theorem RS.s_cLong {M : Mm} (h : RS M) : m_sh M 231 = (20, 10) := h.2.2.2.2.2.2.2.1.2
theorem RS.r_stack {M : Mm} (h : RS M) : m_r M 206 25 = 254 := h.2.2.2.2.2.2.2.2.1.1
theorem RS.s_stack {M : Mm} (h : RS M) : m_sh M 254 = (20, 800) := h.2.2.2.2.2.2.2.2.1.2
theorem RS.r_names {M : Mm} (h : RS M) : m_r M 206 26 = 255 := h.2.2.2.2.2.2.2.2.2.1.1
theorem RS.s_names {M : Mm} (h : RS M) : m_sh M 255 = (20, 7) := h.2.2.2.2.2.2.2.2.2.1.2
theorem RS.r_row {M : Mm} (h : RS M) : m_r M 206 29 = 256 := h.2.2.2.2.2.2.2.2.2.2.1.1
theorem RS.s_row {M : Mm} (h : RS M) : m_sh M 256 = (20, 8) := h.2.2.2.2.2.2.2.2.2.2.1.2
theorem RS.r_ruleOf {M : Mm} (h : RS M) : m_r M 206 31 = 261 := h.2.2.2.2.2.2.2.2.2.2.2.1.1
theorem RS.s_ruleOf {M : Mm} (h : RS M) : m_sh M 261 = (20, 8) := h.2.2.2.2.2.2.2.2.2.2.2.1.2
theorem RS.r_ways {M : Mm} (h : RS M) : m_r M 206 32 = 262 := h.2.2.2.2.2.2.2.2.2.2.2.2.1.1
theorem RS.s_ways {M : Mm} (h : RS M) : m_sh M 262 = (20, 8) := h.2.2.2.2.2.2.2.2.2.2.2.2.1.2
theorem RS.r_cWho {M : Mm} (h : RS M) : m_r M 206 45 = 263 := h.2.2.2.2.2.2.2.2.2.2.2.2.2.1.1
theorem RS.s_cWho {M : Mm} (h : RS M) : m_sh M 263 = (20, 9) := h.2.2.2.2.2.2.2.2.2.2.2.2.2.1.2
theorem RS.r_cMin {M : Mm} (h : RS M) : m_r M 206 46 = 264 := h.2.2.2.2.2.2.2.2.2.2.2.2.2.2.1.1
theorem RS.s_cMin {M : Mm} (h : RS M) : m_sh M 264 = (20, 9) := h.2.2.2.2.2.2.2.2.2.2.2.2.2.2.1.2
theorem RS.r_cOff {M : Mm} (h : RS M) : m_r M 206 47 = 265 := h.2.2.2.2.2.2.2.2.2.2.2.2.2.2.2.1.1
theorem RS.s_cOff {M : Mm} (h : RS M) : m_sh M 265 = (20, 9) := h.2.2.2.2.2.2.2.2.2.2.2.2.2.2.2.1.2
theorem RS.r_cTh {M : Mm} (h : RS M) : m_r M 206 48 = 266 := h.2.2.2.2.2.2.2.2.2.2.2.2.2.2.2.2.1.1
theorem RS.s_cTh {M : Mm} (h : RS M) : m_sh M 266 = (20, 9) := h.2.2.2.2.2.2.2.2.2.2.2.2.2.2.2.2.1.2
theorem RS.r_cEnd {M : Mm} (h : RS M) : m_r M 206 49 = 267 := h.2.2.2.2.2.2.2.2.2.2.2.2.2.2.2.2.2.1.1
theorem RS.s_cEnd {M : Mm} (h : RS M) : m_sh M 267 = (20, 9) := h.2.2.2.2.2.2.2.2.2.2.2.2.2.2.2.2.2.1.2
theorem RS.r_hds {M : Mm} (h : RS M) : m_r M 206 50 = 268 := h.2.2.2.2.2.2.2.2.2.2.2.2.2.2.2.2.2.2.1.1
theorem RS.s_hds {M : Mm} (h : RS M) : m_sh M 268 = (20, 9) := h.2.2.2.2.2.2.2.2.2.2.2.2.2.2.2.2.2.2.1.2
theorem RS.r_ends {M : Mm} (h : RS M) : m_r M 206 51 = 269 := h.2.2.2.2.2.2.2.2.2.2.2.2.2.2.2.2.2.2.2.1.1
theorem RS.s_ends {M : Mm} (h : RS M) : m_sh M 269 = (20, 8) := h.2.2.2.2.2.2.2.2.2.2.2.2.2.2.2.2.2.2.2.1.2
theorem RS.r_there {M : Mm} (h : RS M) : m_r M 206 54 = 345 := h.2.2.2.2.2.2.2.2.2.2.2.2.2.2.2.2.2.2.2.2.1.1
theorem RS.s_there {M : Mm} (h : RS M) : m_sh M 345 = (20, 8) := h.2.2.2.2.2.2.2.2.2.2.2.2.2.2.2.2.2.2.2.2.1.2
theorem RS.r_offd {M : Mm} (h : RS M) : m_r M 206 55 = 346 := h.2.2.2.2.2.2.2.2.2.2.2.2.2.2.2.2.2.2.2.2.2.1.1
theorem RS.s_offd {M : Mm} (h : RS M) : m_sh M 346 = (20, 8) := h.2.2.2.2.2.2.2.2.2.2.2.2.2.2.2.2.2.2.2.2.2.1.2
theorem RS.r_had {M : Mm} (h : RS M) : m_r M 206 56 = 347 := h.2.2.2.2.2.2.2.2.2.2.2.2.2.2.2.2.2.2.2.2.2.2.1.1
theorem RS.s_had {M : Mm} (h : RS M) : m_sh M 347 = (20, 8) := h.2.2.2.2.2.2.2.2.2.2.2.2.2.2.2.2.2.2.2.2.2.2.1.2
theorem RS.r_rPer {M : Mm} (h : RS M) : m_r M 206 12 = 208 := h.2.2.2.2.2.2.2.2.2.2.2.2.2.2.2.2.2.2.2.2.2.2.2.1.1
theorem RS.s_rPer {M : Mm} (h : RS M) : m_sh M 208 = (33, 8) := h.2.2.2.2.2.2.2.2.2.2.2.2.2.2.2.2.2.2.2.2.2.2.2.1.2.1
theorem RS.r_rP {M : Mm} (h : RS M) {i : Nat} (hi : i < 8) : m_r M 208 i = 209 + i := (h.2.2.2.2.2.2.2.2.2.2.2.2.2.2.2.2.2.2.2.2.2.2.2.1.2.2 i hi).1
theorem RS.s_rP {M : Mm} (h : RS M) {i : Nat} (hi : i < 8) : m_sh M (209 + i) = (20, 8) := (h.2.2.2.2.2.2.2.2.2.2.2.2.2.2.2.2.2.2.2.2.2.2.2.1.2.2 i hi).2
theorem RS.r_per {M : Mm} (h : RS M) : m_r M 206 13 = 217 := h.2.2.2.2.2.2.2.2.2.2.2.2.2.2.2.2.2.2.2.2.2.2.2.2.1.1
theorem RS.s_per {M : Mm} (h : RS M) : m_sh M 217 = (33, 8) := h.2.2.2.2.2.2.2.2.2.2.2.2.2.2.2.2.2.2.2.2.2.2.2.2.1.2.1
theorem RS.r_pr {M : Mm} (h : RS M) {i : Nat} (hi : i < 8) : m_r M 217 i = 218 + i := (h.2.2.2.2.2.2.2.2.2.2.2.2.2.2.2.2.2.2.2.2.2.2.2.2.1.2.2 i hi).1
theorem RS.s_pr {M : Mm} (h : RS M) {i : Nat} (hi : i < 8) : m_sh M (218 + i) = (20, 8) := (h.2.2.2.2.2.2.2.2.2.2.2.2.2.2.2.2.2.2.2.2.2.2.2.2.1.2.2 i hi).2
theorem RS.r_rCode {M : Mm} (h : RS M) : m_r M 206 23 = 232 := h.2.2.2.2.2.2.2.2.2.2.2.2.2.2.2.2.2.2.2.2.2.2.2.2.2.1.1
theorem RS.s_rCode {M : Mm} (h : RS M) : m_sh M 232 = (33, 10) := h.2.2.2.2.2.2.2.2.2.2.2.2.2.2.2.2.2.2.2.2.2.2.2.2.2.1.2.1
theorem RS.r_rC {M : Mm} (h : RS M) {i : Nat} (hi : i < 10) : m_r M 232 i = 233 + i := (h.2.2.2.2.2.2.2.2.2.2.2.2.2.2.2.2.2.2.2.2.2.2.2.2.2.1.2.2 i hi).1
theorem RS.s_rC {M : Mm} (h : RS M) {i : Nat} (hi : i < 10) : m_sh M (233 + i) = (20, 800) := (h.2.2.2.2.2.2.2.2.2.2.2.2.2.2.2.2.2.2.2.2.2.2.2.2.2.1.2.2 i hi).2
theorem RS.r_code {M : Mm} (h : RS M) : m_r M 206 24 = 243 := h.2.2.2.2.2.2.2.2.2.2.2.2.2.2.2.2.2.2.2.2.2.2.2.2.2.2.1.1
theorem RS.s_code {M : Mm} (h : RS M) : m_sh M 243 = (33, 10) := h.2.2.2.2.2.2.2.2.2.2.2.2.2.2.2.2.2.2.2.2.2.2.2.2.2.2.1.2.1
theorem RS.r_cd {M : Mm} (h : RS M) {i : Nat} (hi : i < 10) : m_r M 243 i = 244 + i := (h.2.2.2.2.2.2.2.2.2.2.2.2.2.2.2.2.2.2.2.2.2.2.2.2.2.2.1.2.2 i hi).1
theorem RS.s_cd {M : Mm} (h : RS M) {i : Nat} (hi : i < 10) : m_sh M (244 + i) = (20, 800) := (h.2.2.2.2.2.2.2.2.2.2.2.2.2.2.2.2.2.2.2.2.2.2.2.2.2.2.1.2.2 i hi).2
theorem RS.r_kept {M : Mm} (h : RS M) : m_r M 206 30 = 257 := h.2.2.2.2.2.2.2.2.2.2.2.2.2.2.2.2.2.2.2.2.2.2.2.2.2.2.2.1.1
theorem RS.s_kept {M : Mm} (h : RS M) : m_sh M 257 = (33, 3) := h.2.2.2.2.2.2.2.2.2.2.2.2.2.2.2.2.2.2.2.2.2.2.2.2.2.2.2.1.2.1
theorem RS.r_kp {M : Mm} (h : RS M) {i : Nat} (hi : i < 3) : m_r M 257 i = 258 + i := (h.2.2.2.2.2.2.2.2.2.2.2.2.2.2.2.2.2.2.2.2.2.2.2.2.2.2.2.1.2.2 i hi).1
theorem RS.s_kp {M : Mm} (h : RS M) {i : Nat} (hi : i < 3) : m_sh M (258 + i) = (20, 32) := (h.2.2.2.2.2.2.2.2.2.2.2.2.2.2.2.2.2.2.2.2.2.2.2.2.2.2.2.1.2.2 i hi).2
theorem RS.r_holder {M : Mm} (h : RS M) : m_r M 206 52 = 270 := h.2.2.2.2.2.2.2.2.2.2.2.2.2.2.2.2.2.2.2.2.2.2.2.2.2.2.2.2.1.1
theorem RS.s_holder {M : Mm} (h : RS M) : m_sh M 270 = (33, 9) := h.2.2.2.2.2.2.2.2.2.2.2.2.2.2.2.2.2.2.2.2.2.2.2.2.2.2.2.2.1.2.1
theorem RS.r_hd {M : Mm} (h : RS M) {i : Nat} (hi : i < 9) : m_r M 270 i = 271 + i := (h.2.2.2.2.2.2.2.2.2.2.2.2.2.2.2.2.2.2.2.2.2.2.2.2.2.2.2.2.1.2.2 i hi).1
theorem RS.s_hd {M : Mm} (h : RS M) {i : Nat} (hi : i < 9) : m_sh M (271 + i) = (20, 100) := (h.2.2.2.2.2.2.2.2.2.2.2.2.2.2.2.2.2.2.2.2.2.2.2.2.2.2.2.2.1.2.2 i hi).2
theorem RS.r_pass {M : Mm} (h : RS M) : m_r M 206 53 = 280 := h.2.2.2.2.2.2.2.2.2.2.2.2.2.2.2.2.2.2.2.2.2.2.2.2.2.2.2.2.2.1.1
theorem RS.s_pass {M : Mm} (h : RS M) : m_sh M 280 = (33, 64) := h.2.2.2.2.2.2.2.2.2.2.2.2.2.2.2.2.2.2.2.2.2.2.2.2.2.2.2.2.2.1.2.1
theorem RS.r_ps {M : Mm} (h : RS M) {i : Nat} (hi : i < 64) : m_r M 280 i = 281 + i := (h.2.2.2.2.2.2.2.2.2.2.2.2.2.2.2.2.2.2.2.2.2.2.2.2.2.2.2.2.2.1.2.2 i hi).1
theorem RS.s_ps {M : Mm} (h : RS M) {i : Nat} (hi : i < 64) : m_sh M (281 + i) = (20, 4) := (h.2.2.2.2.2.2.2.2.2.2.2.2.2.2.2.2.2.2.2.2.2.2.2.2.2.2.2.2.2.1.2.2 i hi).2
theorem RS.r_debt {M : Mm} (h : RS M) : m_r M 206 58 = 348 := h.2.2.2.2.2.2.2.2.2.2.2.2.2.2.2.2.2.2.2.2.2.2.2.2.2.2.2.2.2.2.1.1
theorem RS.s_debt {M : Mm} (h : RS M) : m_sh M 348 = (33, 8) := h.2.2.2.2.2.2.2.2.2.2.2.2.2.2.2.2.2.2.2.2.2.2.2.2.2.2.2.2.2.2.1.2.1
theorem RS.r_db {M : Mm} (h : RS M) {i : Nat} (hi : i < 8) : m_r M 348 i = 349 + i := (h.2.2.2.2.2.2.2.2.2.2.2.2.2.2.2.2.2.2.2.2.2.2.2.2.2.2.2.2.2.2.1.2.2 i hi).1
theorem RS.s_db {M : Mm} (h : RS M) {i : Nat} (hi : i < 8) : m_sh M (349 + i) = (20, 8) := (h.2.2.2.2.2.2.2.2.2.2.2.2.2.2.2.2.2.2.2.2.2.2.2.2.2.2.2.2.2.2.1.2.2 i hi).2
theorem RS.r_endBy {M : Mm} (h : RS M) : m_r M 206 59 = 357 := h.2.2.2.2.2.2.2.2.2.2.2.2.2.2.2.2.2.2.2.2.2.2.2.2.2.2.2.2.2.2.2.1
theorem RS.s_endBy {M : Mm} (h : RS M) : m_sh M 357 = (33, 3125) := h.2.2.2.2.2.2.2.2.2.2.2.2.2.2.2.2.2.2.2.2.2.2.2.2.2.2.2.2.2.2.2.2.1
theorem RS.r_eb {M : Mm} (h : RS M) {i : Nat} (hi : i < 3125) : m_r M 357 i = 358 + i := (h.2.2.2.2.2.2.2.2.2.2.2.2.2.2.2.2.2.2.2.2.2.2.2.2.2.2.2.2.2.2.2.2.2 i hi).1
theorem RS.s_eb {M : Mm} (h : RS M) {i : Nat} (hi : i < 3125) : m_sh M (358 + i) = (20, 5) := (h.2.2.2.2.2.2.2.2.2.2.2.2.2.2.2.2.2.2.2.2.2.2.2.2.2.2.2.2.2.2.2.2.2 i hi).2
theorem RS.of {M M' : Mm} (h : RS M) (hr : ∀ a j, 206 ≤ a → a < 358 → m_r M' a j = m_r M a j) (hs : ∀ a, 206 ≤ a → a < 358 + 3125 → m_sh M' a = m_sh M a) : RS M' :=
  ⟨by rw [hs _ (by omega) (by omega)]; exact h.c, ⟨by rw [hr _ _ (by omega) (by omega)]; exact h.r_fed, by rw [hs _ (by omega) (by omega)]; exact h.s_fed⟩, ⟨by rw [hr _ _ (by omega) (by omega)]; exact h.r_rKind, by rw [hs _ (by omega) (by omega)]; exact h.s_rKind⟩, ⟨by rw [hr _ _ (by omega) (by omega)]; exact h.r_kind, by rw [hs _ (by omega) (by omega)]; exact h.s_kind⟩, ⟨by rw [hr _ _ (by omega) (by omega)]; exact h.r_rNum, by rw [hs _ (by omega) (by omega)]; exact h.s_rNum⟩, ⟨by rw [hr _ _ (by omega) (by omega)]; exact h.r_num, by rw [hs _ (by omega) (by omega)]; exact h.s_num⟩, ⟨by rw [hr _ _ (by omega) (by omega)]; exact h.r_rLong, by rw [hs _ (by omega) (by omega)]; exact h.s_rLong⟩, ⟨by rw [hr _ _ (by omega) (by omega)]; exact h.r_cLong, by rw [hs _ (by omega) (by omega)]; exact h.s_cLong⟩, ⟨by rw [hr _ _ (by omega) (by omega)]; exact h.r_stack, by rw [hs _ (by omega) (by omega)]; exact h.s_stack⟩, ⟨by rw [hr _ _ (by omega) (by omega)]; exact h.r_names, by rw [hs _ (by omega) (by omega)]; exact h.s_names⟩, ⟨by rw [hr _ _ (by omega) (by omega)]; exact h.r_row, by rw [hs _ (by omega) (by omega)]; exact h.s_row⟩, ⟨by rw [hr _ _ (by omega) (by omega)]; exact h.r_ruleOf, by rw [hs _ (by omega) (by omega)]; exact h.s_ruleOf⟩, ⟨by rw [hr _ _ (by omega) (by omega)]; exact h.r_ways, by rw [hs _ (by omega) (by omega)]; exact h.s_ways⟩, ⟨by rw [hr _ _ (by omega) (by omega)]; exact h.r_cWho, by rw [hs _ (by omega) (by omega)]; exact h.s_cWho⟩, ⟨by rw [hr _ _ (by omega) (by omega)]; exact h.r_cMin, by rw [hs _ (by omega) (by omega)]; exact h.s_cMin⟩, ⟨by rw [hr _ _ (by omega) (by omega)]; exact h.r_cOff, by rw [hs _ (by omega) (by omega)]; exact h.s_cOff⟩, ⟨by rw [hr _ _ (by omega) (by omega)]; exact h.r_cTh, by rw [hs _ (by omega) (by omega)]; exact h.s_cTh⟩, ⟨by rw [hr _ _ (by omega) (by omega)]; exact h.r_cEnd, by rw [hs _ (by omega) (by omega)]; exact h.s_cEnd⟩, ⟨by rw [hr _ _ (by omega) (by omega)]; exact h.r_hds, by rw [hs _ (by omega) (by omega)]; exact h.s_hds⟩, ⟨by rw [hr _ _ (by omega) (by omega)]; exact h.r_ends, by rw [hs _ (by omega) (by omega)]; exact h.s_ends⟩, ⟨by rw [hr _ _ (by omega) (by omega)]; exact h.r_there, by rw [hs _ (by omega) (by omega)]; exact h.s_there⟩, ⟨by rw [hr _ _ (by omega) (by omega)]; exact h.r_offd, by rw [hs _ (by omega) (by omega)]; exact h.s_offd⟩, ⟨by rw [hr _ _ (by omega) (by omega)]; exact h.r_had, by rw [hs _ (by omega) (by omega)]; exact h.s_had⟩, ⟨by rw [hr _ _ (by omega) (by omega)]; exact h.r_rPer, by rw [hs _ (by omega) (by omega)]; exact h.s_rPer, fun i hi => ⟨by rw [hr _ _ (by omega) (by omega)]; exact h.r_rP hi, by rw [hs _ (by omega) (by omega)]; exact h.s_rP hi⟩⟩, ⟨by rw [hr _ _ (by omega) (by omega)]; exact h.r_per, by rw [hs _ (by omega) (by omega)]; exact h.s_per, fun i hi => ⟨by rw [hr _ _ (by omega) (by omega)]; exact h.r_pr hi, by rw [hs _ (by omega) (by omega)]; exact h.s_pr hi⟩⟩, ⟨by rw [hr _ _ (by omega) (by omega)]; exact h.r_rCode, by rw [hs _ (by omega) (by omega)]; exact h.s_rCode, fun i hi => ⟨by rw [hr _ _ (by omega) (by omega)]; exact h.r_rC hi, by rw [hs _ (by omega) (by omega)]; exact h.s_rC hi⟩⟩, ⟨by rw [hr _ _ (by omega) (by omega)]; exact h.r_code, by rw [hs _ (by omega) (by omega)]; exact h.s_code, fun i hi => ⟨by rw [hr _ _ (by omega) (by omega)]; exact h.r_cd hi, by rw [hs _ (by omega) (by omega)]; exact h.s_cd hi⟩⟩, ⟨by rw [hr _ _ (by omega) (by omega)]; exact h.r_kept, by rw [hs _ (by omega) (by omega)]; exact h.s_kept, fun i hi => ⟨by rw [hr _ _ (by omega) (by omega)]; exact h.r_kp hi, by rw [hs _ (by omega) (by omega)]; exact h.s_kp hi⟩⟩, ⟨by rw [hr _ _ (by omega) (by omega)]; exact h.r_holder, by rw [hs _ (by omega) (by omega)]; exact h.s_holder, fun i hi => ⟨by rw [hr _ _ (by omega) (by omega)]; exact h.r_hd hi, by rw [hs _ (by omega) (by omega)]; exact h.s_hd hi⟩⟩, ⟨by rw [hr _ _ (by omega) (by omega)]; exact h.r_pass, by rw [hs _ (by omega) (by omega)]; exact h.s_pass, fun i hi => ⟨by rw [hr _ _ (by omega) (by omega)]; exact h.r_ps hi, by rw [hs _ (by omega) (by omega)]; exact h.s_ps hi⟩⟩, ⟨by rw [hr _ _ (by omega) (by omega)]; exact h.r_debt, by rw [hs _ (by omega) (by omega)]; exact h.s_debt, fun i hi => ⟨by rw [hr _ _ (by omega) (by omega)]; exact h.r_db hi, by rw [hs _ (by omega) (by omega)]; exact h.s_db hi⟩⟩, ⟨by rw [hr _ _ (by omega) (by omega)]; exact h.r_endBy, by rw [hs _ (by omega) (by omega)]; exact h.s_endBy, fun i hi => ⟨by rw [hr _ _ (by omega) (by omega)]; exact h.r_eb hi, by rw [hs _ (by omega) (by omega)]; exact h.s_eb hi⟩⟩⟩

theorem RS.fr {M M' : Mm} {Q : Nat → Nat → Prop} (h : RS M) (hF : FrS Q M M') : RS M' := h.of (fun a j _ _ => hF.2.1 a j) (fun a _ _ => hF.2.2.2.1 a)
/-- persons and their facts; rules: kinds, numbers, codes -/
def cpos (s : List Int32) : Nat → Nat
  | 0 => 0
  | j + 1 => cpos s j + (if stL s j < 0 then 1 else 2)
def encS (s : Int32) : Int32 := if -8 < s then -s else if s = -8 then 17 else if -16 < s then 1 - s else 2 - s
def CDrep (M : Mm) (a : Nat) (s : List Int32) : Prop := ∀ j, j < s.length → if stL s j < 0 then m_i M a (cpos s j) = encS (stL s j) else m_i M a (cpos s j) = 0 ∧ m_i M a (cpos s j + 1) = stL s j
def RPrep (M : Mm) (n : Nat) (f : Nat → Nat → Int32) : Prop := m_i M 206 11 = nI n ∧ n ≤ 8 ∧ ∀ p w, p < n → w < 8 → m_i M (218 + p) w = f p w
def RRrep (M : Mm) (R : List RU) : Prop := m_i M 206 15 = nI R.length ∧ R.length ≤ 10 ∧ ∀ i, i < R.length → m_i M 227 i = nI ((R.getD i ru0).1 - 2) ∧ ((R.getD i ru0).1 < 8 → m_i M 229 i = nI (R.getD i ru0).2.1) ∧ (8 ≤ (R.getD i ru0).1 → m_i M 231 i = nI (cpos (R.getD i ru0).2.2 (R.getD i ru0).2.2.length) ∧ cpos (R.getD i ru0).2.2 (R.getD i ru0).2.2.length ≤ 800 ∧ CDrep M (244 + i) (R.getD i ru0).2.2)
theorem RPrep.fr {M M' : Mm} {n : Nat} {f : Nat → Nat → Int32} {Q : Nat → Nat → Prop} (h : RPrep M n f) (hF : FrS Q M M') (h0 : ¬ Q 206 11) (h1 : ∀ p j, p < 8 → ¬ Q (218 + p) j) : RPrep M' n f := by
  obtain ⟨a1, a2, a3⟩ := h
  exact ⟨by rw [hF.1 _ _ h0]; exact a1, a2, fun p w hp hw => by rw [hF.1 _ _ (h1 p w (by omega))]; exact a3 p w hp hw⟩
theorem RRrep.fr {M M' : Mm} {R : List RU} {Q : Nat → Nat → Prop} (h : RRrep M R) (hF : FrS Q M M') (h0 : ¬ Q 206 15) (h1 : ∀ j, ¬ Q 227 j) (h2 : ∀ j, ¬ Q 229 j) (h3 : ∀ j, ¬ Q 231 j) (h4 : ∀ i j, i < 10 → ¬ Q (244 + i) j) : RRrep M' R := by
  obtain ⟨a1, a2, a3⟩ := h
  refine ⟨by rw [hF.1 _ _ h0]; exact a1, a2, fun i hi => ?_⟩
  obtain ⟨b1, b2, b3⟩ := a3 i hi
  refine ⟨by rw [hF.1 _ _ (h1 _)]; exact b1, fun q => by rw [hF.1 _ _ (h2 _)]; exact b2 q, fun q => ?_⟩
  obtain ⟨c1, c2, c3⟩ := b3 q
  refine ⟨by rw [hF.1 _ _ (h3 _)]; exact c1, c2, fun j hj => ?_⟩
  have := c3 j hj
  rw [hF.1 _ _ (h4 i _ (by omega)), hF.1 _ _ (h4 i _ (by omega))]
  exact this
/-- which RULE of a kind is in force -/
def ruO (R : List RU) (out : Nat) : Nat → Nat → Int32
  | 0, _ => -1
  | i + 1, w => if out.testBit i = true then ruO R out i w else if (R.getD i ru0).1 = w + 2 then nI i else ruO R out i w
theorem ruO_some {R : List RU} {out w : Nat} : ∀ i, ruO R out i w = -1 ∨ ∃ r, r < i ∧ ruO R out i w = nI r ∧ (R.getD r ru0).1 = w + 2
  | 0 => Or.inl rfl
  | i + 1 => by
    have ih : ruO R out i w = -1 ∨ ∃ r, r < i + 1 ∧ ruO R out i w = nI r ∧ (R.getD r ru0).1 = w + 2 := (ruO_some i).imp id (fun ⟨r, a, b⟩ => ⟨r, by omega, b⟩)
    unfold ruO
    by_cases q1 : out.testBit i = true
    · rw [if_pos q1]; exact ih
    · rw [if_neg q1]
      by_cases q2 : (R.getD i ru0).1 = w + 2
      · rw [if_pos q2]; exact Or.inr ⟨i, by omega, rfl, q2⟩
      · rw [if_neg q2]; exact ih
theorem nuS_num {R : List RU} {out w : Nat} (hw : w < 6) : ∀ i, i < 2 ^ 31 → nuS R out i (w + 2) = if ruO R out i w = -1 then nuS R out 0 (w + 2) else nI (R.getD (ruO R out i w).toNatClampNeg ru0).2.1
  | 0, _ => by rw [show ruO R out 0 w = -1 from rfl, if_pos rfl]
  | i + 1, hi => by
    have ih := nuS_num (R := R) (out := out) hw i (by omega)
    unfold ruO
    show (if out.testBit i = true then _ else if (R.getD i ru0).1 = w + 2 then (if w + 2 = 8 ∨ w + 2 = 9 then _ else _) else _) = _
    by_cases q1 : out.testBit i = true
    · rw [if_pos q1]; simp only [if_pos q1]; exact ih
    · rw [if_neg q1]; simp only [if_neg q1]
      by_cases q2 : (R.getD i ru0).1 = w + 2
      · rw [if_pos q2]; simp only [if_pos q2]
        rw [if_neg (by omega), if_neg (nI_neg (by omega)), nI_clamp (by omega)]
      · rw [if_neg q2]; simp only [if_neg q2]; exact ih
theorem nuS_ru {R : List RU} {out w : Nat} (hw : w = 6 ∨ w = 7) : ∀ i, nuS R out i (w + 2) = ruO R out i w
  | 0 => by rcases hw with rfl | rfl <;> rfl
  | i + 1 => by
    have ih := nuS_ru (R := R) (out := out) hw i
    show (if out.testBit i = true then _ else if (R.getD i ru0).1 = w + 2 then (if w + 2 = 8 ∨ w + 2 = 9 then _ else _) else _) = (if out.testBit i = true then _ else if _ then _ else _)
    rw [ih, if_pos (show w + 2 = 8 ∨ w + 2 = 9 by omega)]
/-- the RULES in force are laid out -/
def LRd (M : Mm) (R : List RU) (out : Nat) : Prop := ∀ w, w < 8 → m_i M 261 w = ruO R out R.length w
section SR0
variable {l : Launch} {G : Gx} {d : Nat} {bc bs : Nat} {Φ : OutV → Mm → Prop}
theorem ct_rIn (M : Mm) (x y z : Int32) (h : Φ (.inl (some (.int (if ¬ x < y ∧ ¬ z < x then 1 else 0)))) M) : Ct l G d mRe_in bc bs [.int x, .int y, .int z] M Φ := by
  refine Ct.of rfl (Nat.le_of_ble_eq_true rfl) ?_
  refine bRe_in_0 M x y z ⟨fun q => ?_, fun q => ⟨fun q2 => ?_, fun q2 => ?_⟩⟩
  · rw [if_neg (fun z => z.1 q)] at h; exact h
  · rw [if_neg (fun z => z.2 q2)] at h; exact h
  · rw [if_pos ⟨q, q2⟩] at h; exact h
theorem ct_numberOf (M : Mm) (hS : RS M) (R : List RU) (hR : RRrep M R) (out : Nat) (hL : LRd M R out) (w : Nat) (hw : w < 6) (h : Φ (.inl (some (.int (nuS R out R.length (w + 2))))) M) : Ct l G d mRe_numberOf bc bs [.ref 206, .int (nI w), .int (nuS R out 0 (w + 2))] M Φ := by
  have h10 := hR.2.1
  refine Ct.of rfl (Nat.le_of_ble_eq_true rfl) ?_
  rw [nuS_num hw R.length (by omega)] at h
  refine bRe_numberOf_0 M 206 _ _ ⟨hS.c, by rw [hS.r_ruleOf, hS.s_ruleOf], by rw [hS.r_ruleOf, hS.s_ruleOf]; exact vp_in_nI (by omega) (by omega), ?_⟩
  rw [hS.r_ruleOf, nI_clamp (by omega), hL w (by omega)]
  refine ⟨fun q => ?_, fun q => by rw [if_pos q] at h; exact h⟩
  rw [if_neg q] at h
  rcases ruO_some (R := R) (out := out) (w := w) R.length with z | ⟨r, r1, r2, r3⟩
  · exact absurd z q
  · rw [r2, nI_clamp (by omega)] at h
    rw [r2, hS.r_num, hS.s_num, nI_clamp (by omega), (hR.2.2 r r1).2.1 (by omega)]
    exact ⟨rfl, vp_in_nI (by omega) (by omega), h⟩
theorem ct_layRules (M : Mm) (hS : RS M) (R : List RU) (hR : RRrep M R) (hRok : ∀ r ∈ R, RUok r) (out : Nat) (ho : out < 1024) (hst : m_i M 206 33 = nI out) (h : ∀ M', FrS (fun a _ => a = 261) M M' → LRd M' R out → Φ (.inl none) M') : Ct l G d mRe_layRules bc bs [.ref 206] M Φ := by
  have h10 := hR.2.1
  refine Ct.of rfl (Nat.le_of_ble_eq_true rfl) ?_
  refine bRe_layRules_0 M 206 ?_
  have loop2 : ∀ e i M', i + e = R.length → FrS (fun a _ => a = 261) M M' → (∀ w, w < 8 → m_i M' 261 w = ruO R out i w) → Ev l G d mRe_layRules 23 [.ref 206, .int (nI i)] [] M' bc bs Φ := by
    intro e
    induction e with
    | zero =>
      intro i M' hi hF hw
      have : i = R.length := by omega
      subst this
      have hS' := hS.fr hF
      exact bRe_layRules_23 M' 206 _ ⟨hS'.c, fun _ => h M' hF hw, fun q => absurd (by rw [hF.1 _ _ (by omega), hR.1]; exact nI_le (Nat.le_refl _) (by omega)) q⟩
    | succ e ih =>
      intro i M' hi hF hw
      have hS' := hS.fr hF
      obtain ⟨b1, -⟩ := hR.2.2 i (by omega)
      have hru : RUok (R.getD i ru0) := hRok _ (by
        rw [List.getD_eq_getElem?_getD, List.getElem?_eq_getElem (show i < R.length by omega)]
        exact List.getElem_mem _)
      obtain ⟨u1, u2, -⟩ := hru
      refine bRe_layRules_23 M' 206 _ ⟨hS'.c, fun q => absurd q (by rw [hF.1 _ _ (by omega), hR.1]; exact nI_not_le (by omega) (by omega)), fun _ => ?_⟩
      rw [hF.1 _ _ (by omega), hst, bit_get10 ho (by omega), hS'.r_kind, hS'.r_ruleOf, nI_clamp (by omega), hF.1 227 _ (by omega), b1]
      refine ⟨fun q => ?_, fun q => ⟨by rw [hS'.s_kind], by rw [hS'.s_kind]; exact vp_in_nI (by omega) (by omega), by rw [hS'.s_ruleOf], by rw [hS'.s_ruleOf]; exact vp_in_nI (by omega) (by omega), ?_⟩⟩
      · have hb : out.testBit i = true := by
          cases hb : out.testBit i with
          | true => rfl
          | false => rw [hb] at q; exact absurd rfl q
        refine bRe_layRules_54 M' 206 _ ?_
        rw [nI_1]
        refine ih (i + 1) M' (by omega) hF (fun w hw8 => ?_)
        unfold ruO
        rw [if_pos hb]
        exact hw w hw8
      · have hb : ¬ out.testBit i = true := by
          cases hb : out.testBit i with
          | false => decide
          | true => rw [hb] at q; exact absurd q (by decide)
        refine bRe_layRules_54 _ 206 _ ?_
        rw [nI_1, nI_clamp (by omega)]
        refine ih (i + 1) _ (by omega) (hF.tr (FrS.si (P := fun a _ => a = 261) rfl _)) (fun w hw8 => ?_)
        unfold ruO
        rw [if_neg hb, m_i_si]
        by_cases z : w = (R.getD i ru0).1 - 2
        · rw [if_pos ⟨rfl, z⟩, if_pos (by omega)]
        · rw [if_neg (fun y => z y.2), if_neg (by omega)]
          exact hw w hw8
  have loop1 : ∀ e i M', i + e = 8 → FrS (fun a _ => a = 261) M M' → (∀ w, w < i → m_i M' 261 w = -1) → Ev l G d mRe_layRules 2 [.ref 206, .int (nI i)] [] M' bc bs Φ := by
    intro e
    induction e with
    | zero =>
      intro i M' hi hF hw
      exact bRe_layRules_2 M' 206 _ ⟨fun _ => loop2 R.length 0 M' (by omega) hF (fun w hw8 => hw w (by omega)), fun q => absurd (nI_le (a := 8) (by omega) (by omega)) q⟩
    | succ e ih =>
      intro i M' hi hF hw
      have hS' := hS.fr hF
      refine bRe_layRules_2 M' 206 _ ⟨fun q => absurd q (nI_not_le (b := 8) (by omega) (by omega)), fun _ => ⟨hS'.c, by rw [hS'.r_ruleOf, hS'.s_ruleOf], by rw [hS'.r_ruleOf, hS'.s_ruleOf]; exact vp_in_nI (by omega) (by omega), ?_⟩⟩
      rw [hS'.r_ruleOf, nI_clamp (by omega), nI_1]
      refine ih (i + 1) _ (by omega) (hF.tr (FrS.si (P := fun a _ => a = 261) rfl _)) (fun w hw8 => ?_)
      rw [m_i_si]
      by_cases z : w = i
      · rw [if_pos ⟨rfl, z⟩]
      · rw [if_neg (fun y => z y.2)]
        exact hw w (by omega)
  exact loop1 8 0 M (by omega) (FrS.rf _ _) (fun w hw => absurd hw (Nat.not_lt_zero w))
/-- the names of a formula: age, load, errand of both, the hour -/
def NMd (M : Mm) (fg fo : Nat → Int32) (h : Int32) : Prop := (∀ j, j < 3 → m_i M 255 j = fg (j + 1) ∧ m_i M 255 (j + 3) = fo (j + 1)) ∧ m_i M 255 6 = h
theorem ct_layNames (M : Mm) (hS : RS M) (n : Nat) (f : Nat → Nat → Int32) (hP : RPrep M n f) (p o : Nat) (hp : p < n) (ho : o < n) (hour : Int32) (h : ∀ M', FrS (fun a _ => a = 255) M M' → NMd M' (f p) (f o) hour → Φ (.inl none) M') : Ct l G d mRe_layNames bc bs [.ref 206, .int (nI p), .int (nI o), .int hour] M Φ := by
  have n8 := hP.2.1
  refine Ct.of rfl (Nat.le_of_ble_eq_true rfl) ?_
  refine bRe_layNames_0 M 206 _ _ _ ?_
  have loop : ∀ e i M', i + e = 3 → FrS (fun a _ => a = 255) M M' → (∀ j, j < i → m_i M' 255 j = f p (j + 1) ∧ m_i M' 255 (j + 3) = f o (j + 1)) → Ev l G d mRe_layNames 3 [.ref 206, .int (nI p), .int (nI o), .int hour, .int (nI i)] [] M' bc bs Φ := by
    intro e
    induction e with
    | zero =>
      intro i M' hi hF hw
      have hS' := hS.fr hF
      refine bRe_layNames_3 M' 206 _ _ _ _ ⟨fun _ => ⟨hS'.c, by rw [hS'.r_names, hS'.s_names], by rw [hS'.r_names, hS'.s_names]; exact vp_in_dec rfl, ?_⟩, fun q => absurd (nI_le (a := 3) (by omega) (by omega)) q⟩
      rw [hS'.r_names]
      refine h _ (hF.tr (FrS.si (P := fun a _ => a = 255) rfl _)) ⟨fun j hj => ?_, ?_⟩
      · have := hw j (by omega)
        rw [m_i_si, if_neg (fun z => by have := z.2; have e6 : (6 : Int32).toNatClampNeg = 6 := rfl; omega), m_i_si, if_neg (fun z => by have := z.2; have e6 : (6 : Int32).toNatClampNeg = 6 := rfl; omega)]
        exact this
      · rw [m_i_si, if_pos ⟨rfl, rfl⟩]
    | succ e ih =>
      intro i M' hi hF hw
      have hS' := hS.fr hF
      have hP' : RPrep M' n f := hP.fr hF (by omega) (fun p j hp => by omega)
      have ci : (nI i).toNatClampNeg = i := nI_clamp (by omega)
      have ci1 : (nI i + 1).toNatClampNeg = i + 1 := by rw [nI_1]; exact nI_clamp (by omega)
      have ci3 : (nI i + 3).toNatClampNeg = i + 3 := by rw [show (3 : Int32) = nI 3 from rfl, nI_add]; exact nI_clamp (by omega)
      have v1 : vp_in (nI i + 1) 8 := by rw [nI_1]; exact vp_in_nI (by omega) (by omega)
      have v3 : vp_in (nI i + 3) 7 := by rw [show (3 : Int32) = nI 3 from rfl, nI_add]; exact vp_in_nI (by omega) (by omega)
      have rp : m_r M' (m_r M' 206 13) (nI p).toNatClampNeg = 218 + p := by rw [hS'.r_per, nI_clamp (by omega)]; exact hS'.r_pr (by omega)
      have ro : m_r M' (m_r M' 206 13) (nI o).toNatClampNeg = 218 + o := by rw [hS'.r_per, nI_clamp (by omega)]; exact hS'.r_pr (by omega)
      refine bRe_layNames_3 M' 206 _ _ _ _ ⟨fun q => absurd q (nI_not_le (b := 3) (by omega) (by omega)), fun _ => ⟨hS'.c, by rw [hS'.r_per, hS'.s_per], by rw [hS'.r_per, hS'.s_per]; exact vp_in_nI (by omega) (by omega), by rw [rp, hS'.s_pr (by omega)], by rw [rp, hS'.s_pr (by omega)]; exact v1, by rw [hS'.r_names, hS'.s_names], by rw [hS'.r_names, hS'.s_names]; exact vp_in_nI (by omega) (by omega), by rw [hS'.r_per, hS'.s_per]; exact vp_in_nI (by omega) (by omega), by rw [ro, hS'.s_pr (by omega)], by rw [ro, hS'.s_pr (by omega)]; exact v1, by rw [hS'.r_names, hS'.s_names]; exact v3, ?_⟩⟩
      rw [rp, ro, ci, ci1, ci3, hS'.r_names, hP'.2.2 p (i + 1) hp (by omega), m_i_si, if_neg (by omega), hP'.2.2 o (i + 1) ho (by omega)]
      refine bRe_layNames_47 _ 206 _ _ _ _ ?_
      rw [nI_1]
      refine ih (i + 1) _ (by omega) ((hF.tr (FrS.si (P := fun a _ => a = 255) rfl _)).tr (FrS.si (P := fun a _ => a = 255) rfl _)) (fun j hj => ?_)
      by_cases z : j = i
      · subst z
        constructor
        · rw [m_i_si, if_neg (by omega), m_i_si, if_pos ⟨rfl, rfl⟩]
        · rw [m_i_si, if_pos ⟨rfl, rfl⟩]
      · have := hw j (by omega)
        constructor
        · rw [m_i_si, if_neg (by omega), m_i_si, if_neg (by omega)]; exact this.1
        · rw [m_i_si, if_neg (by omega), m_i_si, if_neg (by omega)]; exact this.2
  exact loop 3 0 M (by omega) (FrS.rf _ _) (fun w hw => absurd hw (Nat.not_lt_zero w))
end SR0
