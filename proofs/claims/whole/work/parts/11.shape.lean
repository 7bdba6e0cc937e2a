def kd0 (a : Int) : Nat × Int := if a < 18 then (if a = 2 then (10, 0) else if a = 3 then (12, 80) else if a = 4 then (14, 60) else if a = 5 then (12, 12) else if a = 6 then (15, 12) else if a = 7 then (16, 80) else if a = 8 then (12, 120) else if a = 9 then (6, 0) else if a = 10 then (12, 81) else if a = 11 then (12, 16) else if a = 12 then (0, 0) else if a = 13 then (12, 9) else if a = 14 then (12, 9) else if a = 15 then (12, 9) else if a = 16 then (12, 60) else if a = 17 then (12, 10) else (99, 0)) else if a < 142 then (if a % 2 = 0 then (9, 0) else (12, 8)) else if a < 214 then (if (a - 142) % 6 = 0 then (3, 0) else if (a - 142) % 6 = 5 then (12, 8) else (12, 6)) else (if a = 214 then (11, 0) else if a = 215 then (12, 80) else if a = 216 then (12, 60) else if a = 217 then (12, 480) else if a = 218 then (12, 60) else if a = 219 then (13, 60) else if a = 220 then (13, 60) else if a = 221 then (12, 6) else if a = 222 then (12, 6) else if a = 223 then (12, 13) else if a = 224 then (12, 78) else if a = 225 then (12, 78) else if a = 226 then (12, 78) else if a = 227 then (12, 78) else if a = 228 then (12, 80) else if a = 229 then (12, 80) else if a = 230 then (12, 80) else if a = 231 then (12, 80) else if a = 232 then (12, 80) else if a = 233 then (12, 60) else if a = 234 then (13, 60) else if a = 235 then (12, 8) else if a = 236 then (12, 8) else if a = 237 then (12, 81) else if a = 238 then (12, 16) else if a = 239 then (12, 4) else if a = 240 then (12, 4) else if a = 241 then (12, 4) else if a = 242 then (12, 8) else if a = 243 then (12, 6) else if a = 244 then (12, 9) else if a = 245 then (12, 9) else if a = 246 then (12, 60) else if a = 247 then (12, 66) else if a = 248 then (12, 20) else (99, 0))
def rf0 (a j : Int) : Int := if a < 18 then (if a = 2 then (if j = 0 then 3 else if j = 2 then 4 else if j = 4 then 5 else if j = 5 then 6 else if j = 7 then 7 else if j = 14 then 8 else if j = 16 then 9 else if j = 17 then 12 else if j = 18 then 18 else if j = 19 then 20 else 0) else if a = 4 then (if 0 ≤ j ∧ j < 60 then 22 + 2 * j else 0) else if a = 6 then (if 0 ≤ j ∧ j < 12 then 142 + 6 * j else 0) else if a = 9 then (if j = 0 then 10 else if j = 1 then 11 else 0) else if a = 12 then (if j = 0 then 13 else if j = 1 then 14 else if j = 3 then 15 else if j = 4 then 16 else if j = 5 then 17 else 0) else 0) else if a < 142 then (if a % 2 = 0 ∧ j = 0 then a + 1 else 0) else if a < 214 then (if (a - 142) % 6 = 0 ∧ 0 ≤ j ∧ j < 5 then a + 1 + j else 0) else (if a = 214 then (if j = 10 then 215 else if j = 11 then 216 else if j = 12 then 217 else if j = 13 then 218 else if j = 14 then 219 else if j = 15 then 220 else if j = 16 then 221 else if j = 17 then 222 else if j = 18 then 223 else if j = 19 then 224 else if j = 20 then 225 else if j = 21 then 226 else if j = 22 then 227 else if j = 23 then 228 else if j = 24 then 229 else if j = 25 then 230 else if j = 26 then 231 else if j = 27 then 232 else if j = 28 then 233 else if j = 29 then 234 else if j = 33 then 235 else if j = 34 then 236 else if j = 36 then 237 else if j = 37 then 238 else if j = 41 then 239 else if j = 42 then 240 else if j = 43 then 241 else if j = 47 then 242 else if j = 48 then 243 else if j = 49 then 244 else if j = 50 then 245 else if j = 54 then 246 else if j = 55 then 247 else if j = 56 then 248 else 0) else 0)
def Sh (G : mmG) : Prop := 249 ≤ G.1 ∧ (∀ a : Int, 2 ≤ a → a < 249 → G.2.1 a = kd0 a) ∧ (∀ a j : Int, 2 ≤ a → a < 249 → a ≠ 7 → ¬ (a = 2 ∧ j = 9) → G.2.2 a j = rf0 a j)
theorem Sh.lt {G : mmG} (h : Sh G) {a : Int} (h2 : a < 249) : a < G.1 := Int.lt_of_lt_of_le h2 h.1
theorem Sh.k2 {G : mmG} (h : Sh G) : G.2.1 2 = (10, 0) := (h.2.1 2 (by decide) (by decide)).trans (by decide +kernel)
theorem Sh.k3 {G : mmG} (h : Sh G) : G.2.1 3 = (12, 80) := (h.2.1 3 (by decide) (by decide)).trans (by decide +kernel)
theorem Sh.k4 {G : mmG} (h : Sh G) : G.2.1 4 = (14, 60) := (h.2.1 4 (by decide) (by decide)).trans (by decide +kernel)
theorem Sh.k5 {G : mmG} (h : Sh G) : G.2.1 5 = (12, 12) := (h.2.1 5 (by decide) (by decide)).trans (by decide +kernel)
theorem Sh.k6 {G : mmG} (h : Sh G) : G.2.1 6 = (15, 12) := (h.2.1 6 (by decide) (by decide)).trans (by decide +kernel)
theorem Sh.k7 {G : mmG} (h : Sh G) : G.2.1 7 = (16, 80) := (h.2.1 7 (by decide) (by decide)).trans (by decide +kernel)
theorem Sh.k8 {G : mmG} (h : Sh G) : G.2.1 8 = (12, 120) := (h.2.1 8 (by decide) (by decide)).trans (by decide +kernel)
theorem Sh.k9 {G : mmG} (h : Sh G) : G.2.1 9 = (6, 0) := (h.2.1 9 (by decide) (by decide)).trans (by decide +kernel)
theorem Sh.k10 {G : mmG} (h : Sh G) : G.2.1 10 = (12, 81) := (h.2.1 10 (by decide) (by decide)).trans (by decide +kernel)
theorem Sh.k11 {G : mmG} (h : Sh G) : G.2.1 11 = (12, 16) := (h.2.1 11 (by decide) (by decide)).trans (by decide +kernel)
theorem Sh.k12 {G : mmG} (h : Sh G) : G.2.1 12 = (0, 0) := (h.2.1 12 (by decide) (by decide)).trans (by decide +kernel)
theorem Sh.k13 {G : mmG} (h : Sh G) : G.2.1 13 = (12, 9) := (h.2.1 13 (by decide) (by decide)).trans (by decide +kernel)
theorem Sh.k14 {G : mmG} (h : Sh G) : G.2.1 14 = (12, 9) := (h.2.1 14 (by decide) (by decide)).trans (by decide +kernel)
theorem Sh.k15 {G : mmG} (h : Sh G) : G.2.1 15 = (12, 9) := (h.2.1 15 (by decide) (by decide)).trans (by decide +kernel)
theorem Sh.k16 {G : mmG} (h : Sh G) : G.2.1 16 = (12, 60) := (h.2.1 16 (by decide) (by decide)).trans (by decide +kernel)
theorem Sh.k17 {G : mmG} (h : Sh G) : G.2.1 17 = (12, 10) := (h.2.1 17 (by decide) (by decide)).trans (by decide +kernel)
theorem Sh.k214 {G : mmG} (h : Sh G) : G.2.1 214 = (11, 0) := (h.2.1 214 (by decide) (by decide)).trans (by decide +kernel)
theorem Sh.k215 {G : mmG} (h : Sh G) : G.2.1 215 = (12, 80) := (h.2.1 215 (by decide) (by decide)).trans (by decide +kernel)
theorem Sh.k216 {G : mmG} (h : Sh G) : G.2.1 216 = (12, 60) := (h.2.1 216 (by decide) (by decide)).trans (by decide +kernel)
theorem Sh.k217 {G : mmG} (h : Sh G) : G.2.1 217 = (12, 480) := (h.2.1 217 (by decide) (by decide)).trans (by decide +kernel)
theorem Sh.k218 {G : mmG} (h : Sh G) : G.2.1 218 = (12, 60) := (h.2.1 218 (by decide) (by decide)).trans (by decide +kernel)
theorem Sh.k219 {G : mmG} (h : Sh G) : G.2.1 219 = (13, 60) := (h.2.1 219 (by decide) (by decide)).trans (by decide +kernel)
theorem Sh.k220 {G : mmG} (h : Sh G) : G.2.1 220 = (13, 60) := (h.2.1 220 (by decide) (by decide)).trans (by decide +kernel)
theorem Sh.k221 {G : mmG} (h : Sh G) : G.2.1 221 = (12, 6) := (h.2.1 221 (by decide) (by decide)).trans (by decide +kernel)
theorem Sh.k222 {G : mmG} (h : Sh G) : G.2.1 222 = (12, 6) := (h.2.1 222 (by decide) (by decide)).trans (by decide +kernel)
theorem Sh.k223 {G : mmG} (h : Sh G) : G.2.1 223 = (12, 13) := (h.2.1 223 (by decide) (by decide)).trans (by decide +kernel)
theorem Sh.k224 {G : mmG} (h : Sh G) : G.2.1 224 = (12, 78) := (h.2.1 224 (by decide) (by decide)).trans (by decide +kernel)
theorem Sh.k225 {G : mmG} (h : Sh G) : G.2.1 225 = (12, 78) := (h.2.1 225 (by decide) (by decide)).trans (by decide +kernel)
theorem Sh.k226 {G : mmG} (h : Sh G) : G.2.1 226 = (12, 78) := (h.2.1 226 (by decide) (by decide)).trans (by decide +kernel)
theorem Sh.k227 {G : mmG} (h : Sh G) : G.2.1 227 = (12, 78) := (h.2.1 227 (by decide) (by decide)).trans (by decide +kernel)
theorem Sh.k228 {G : mmG} (h : Sh G) : G.2.1 228 = (12, 80) := (h.2.1 228 (by decide) (by decide)).trans (by decide +kernel)
theorem Sh.k229 {G : mmG} (h : Sh G) : G.2.1 229 = (12, 80) := (h.2.1 229 (by decide) (by decide)).trans (by decide +kernel)
theorem Sh.k230 {G : mmG} (h : Sh G) : G.2.1 230 = (12, 80) := (h.2.1 230 (by decide) (by decide)).trans (by decide +kernel)
theorem Sh.k231 {G : mmG} (h : Sh G) : G.2.1 231 = (12, 80) := (h.2.1 231 (by decide) (by decide)).trans (by decide +kernel)
theorem Sh.k232 {G : mmG} (h : Sh G) : G.2.1 232 = (12, 80) := (h.2.1 232 (by decide) (by decide)).trans (by decide +kernel)
theorem Sh.k233 {G : mmG} (h : Sh G) : G.2.1 233 = (12, 60) := (h.2.1 233 (by decide) (by decide)).trans (by decide +kernel)
theorem Sh.k234 {G : mmG} (h : Sh G) : G.2.1 234 = (13, 60) := (h.2.1 234 (by decide) (by decide)).trans (by decide +kernel)
theorem Sh.k235 {G : mmG} (h : Sh G) : G.2.1 235 = (12, 8) := (h.2.1 235 (by decide) (by decide)).trans (by decide +kernel)
theorem Sh.k236 {G : mmG} (h : Sh G) : G.2.1 236 = (12, 8) := (h.2.1 236 (by decide) (by decide)).trans (by decide +kernel)
theorem Sh.k237 {G : mmG} (h : Sh G) : G.2.1 237 = (12, 81) := (h.2.1 237 (by decide) (by decide)).trans (by decide +kernel)
theorem Sh.k238 {G : mmG} (h : Sh G) : G.2.1 238 = (12, 16) := (h.2.1 238 (by decide) (by decide)).trans (by decide +kernel)
theorem Sh.k239 {G : mmG} (h : Sh G) : G.2.1 239 = (12, 4) := (h.2.1 239 (by decide) (by decide)).trans (by decide +kernel)
theorem Sh.k240 {G : mmG} (h : Sh G) : G.2.1 240 = (12, 4) := (h.2.1 240 (by decide) (by decide)).trans (by decide +kernel)
theorem Sh.k241 {G : mmG} (h : Sh G) : G.2.1 241 = (12, 4) := (h.2.1 241 (by decide) (by decide)).trans (by decide +kernel)
theorem Sh.k242 {G : mmG} (h : Sh G) : G.2.1 242 = (12, 8) := (h.2.1 242 (by decide) (by decide)).trans (by decide +kernel)
theorem Sh.k243 {G : mmG} (h : Sh G) : G.2.1 243 = (12, 6) := (h.2.1 243 (by decide) (by decide)).trans (by decide +kernel)
theorem Sh.k244 {G : mmG} (h : Sh G) : G.2.1 244 = (12, 9) := (h.2.1 244 (by decide) (by decide)).trans (by decide +kernel)
theorem Sh.k245 {G : mmG} (h : Sh G) : G.2.1 245 = (12, 9) := (h.2.1 245 (by decide) (by decide)).trans (by decide +kernel)
theorem Sh.k246 {G : mmG} (h : Sh G) : G.2.1 246 = (12, 60) := (h.2.1 246 (by decide) (by decide)).trans (by decide +kernel)
theorem Sh.k247 {G : mmG} (h : Sh G) : G.2.1 247 = (12, 66) := (h.2.1 247 (by decide) (by decide)).trans (by decide +kernel)
theorem Sh.k248 {G : mmG} (h : Sh G) : G.2.1 248 = (12, 20) := (h.2.1 248 (by decide) (by decide)).trans (by decide +kernel)
theorem Sh.r2_0 {G : mmG} (h : Sh G) : G.2.2 2 0 = 3 := (h.2.2 2 0 (by decide) (by decide) (by decide) (by decide)).trans (by decide +kernel)
theorem Sh.r2_2 {G : mmG} (h : Sh G) : G.2.2 2 2 = 4 := (h.2.2 2 2 (by decide) (by decide) (by decide) (by decide)).trans (by decide +kernel)
theorem Sh.r2_4 {G : mmG} (h : Sh G) : G.2.2 2 4 = 5 := (h.2.2 2 4 (by decide) (by decide) (by decide) (by decide)).trans (by decide +kernel)
theorem Sh.r2_5 {G : mmG} (h : Sh G) : G.2.2 2 5 = 6 := (h.2.2 2 5 (by decide) (by decide) (by decide) (by decide)).trans (by decide +kernel)
theorem Sh.r2_7 {G : mmG} (h : Sh G) : G.2.2 2 7 = 7 := (h.2.2 2 7 (by decide) (by decide) (by decide) (by decide)).trans (by decide +kernel)
theorem Sh.r2_14 {G : mmG} (h : Sh G) : G.2.2 2 14 = 8 := (h.2.2 2 14 (by decide) (by decide) (by decide) (by decide)).trans (by decide +kernel)
theorem Sh.r2_16 {G : mmG} (h : Sh G) : G.2.2 2 16 = 9 := (h.2.2 2 16 (by decide) (by decide) (by decide) (by decide)).trans (by decide +kernel)
theorem Sh.r2_17 {G : mmG} (h : Sh G) : G.2.2 2 17 = 12 := (h.2.2 2 17 (by decide) (by decide) (by decide) (by decide)).trans (by decide +kernel)
theorem Sh.r2_18 {G : mmG} (h : Sh G) : G.2.2 2 18 = 18 := (h.2.2 2 18 (by decide) (by decide) (by decide) (by decide)).trans (by decide +kernel)
theorem Sh.r2_19 {G : mmG} (h : Sh G) : G.2.2 2 19 = 20 := (h.2.2 2 19 (by decide) (by decide) (by decide) (by decide)).trans (by decide +kernel)
theorem Sh.r9_0 {G : mmG} (h : Sh G) : G.2.2 9 0 = 10 := (h.2.2 9 0 (by decide) (by decide) (by decide) (by decide)).trans (by decide +kernel)
theorem Sh.r9_1 {G : mmG} (h : Sh G) : G.2.2 9 1 = 11 := (h.2.2 9 1 (by decide) (by decide) (by decide) (by decide)).trans (by decide +kernel)
theorem Sh.r12_0 {G : mmG} (h : Sh G) : G.2.2 12 0 = 13 := (h.2.2 12 0 (by decide) (by decide) (by decide) (by decide)).trans (by decide +kernel)
theorem Sh.r12_1 {G : mmG} (h : Sh G) : G.2.2 12 1 = 14 := (h.2.2 12 1 (by decide) (by decide) (by decide) (by decide)).trans (by decide +kernel)
theorem Sh.r12_3 {G : mmG} (h : Sh G) : G.2.2 12 3 = 15 := (h.2.2 12 3 (by decide) (by decide) (by decide) (by decide)).trans (by decide +kernel)
theorem Sh.r12_4 {G : mmG} (h : Sh G) : G.2.2 12 4 = 16 := (h.2.2 12 4 (by decide) (by decide) (by decide) (by decide)).trans (by decide +kernel)
theorem Sh.r12_5 {G : mmG} (h : Sh G) : G.2.2 12 5 = 17 := (h.2.2 12 5 (by decide) (by decide) (by decide) (by decide)).trans (by decide +kernel)
theorem Sh.r214_10 {G : mmG} (h : Sh G) : G.2.2 214 10 = 215 := (h.2.2 214 10 (by decide) (by decide) (by decide) (by decide)).trans (by decide +kernel)
theorem Sh.r214_11 {G : mmG} (h : Sh G) : G.2.2 214 11 = 216 := (h.2.2 214 11 (by decide) (by decide) (by decide) (by decide)).trans (by decide +kernel)
theorem Sh.r214_12 {G : mmG} (h : Sh G) : G.2.2 214 12 = 217 := (h.2.2 214 12 (by decide) (by decide) (by decide) (by decide)).trans (by decide +kernel)
theorem Sh.r214_13 {G : mmG} (h : Sh G) : G.2.2 214 13 = 218 := (h.2.2 214 13 (by decide) (by decide) (by decide) (by decide)).trans (by decide +kernel)
theorem Sh.r214_14 {G : mmG} (h : Sh G) : G.2.2 214 14 = 219 := (h.2.2 214 14 (by decide) (by decide) (by decide) (by decide)).trans (by decide +kernel)
theorem Sh.r214_15 {G : mmG} (h : Sh G) : G.2.2 214 15 = 220 := (h.2.2 214 15 (by decide) (by decide) (by decide) (by decide)).trans (by decide +kernel)
theorem Sh.r214_16 {G : mmG} (h : Sh G) : G.2.2 214 16 = 221 := (h.2.2 214 16 (by decide) (by decide) (by decide) (by decide)).trans (by decide +kernel)
theorem Sh.r214_17 {G : mmG} (h : Sh G) : G.2.2 214 17 = 222 := (h.2.2 214 17 (by decide) (by decide) (by decide) (by decide)).trans (by decide +kernel)
theorem Sh.r214_18 {G : mmG} (h : Sh G) : G.2.2 214 18 = 223 := (h.2.2 214 18 (by decide) (by decide) (by decide) (by decide)).trans (by decide +kernel)
theorem Sh.r214_19 {G : mmG} (h : Sh G) : G.2.2 214 19 = 224 := (h.2.2 214 19 (by decide) (by decide) (by decide) (by decide)).trans (by decide +kernel)
theorem Sh.r214_20 {G : mmG} (h : Sh G) : G.2.2 214 20 = 225 := (h.2.2 214 20 (by decide) (by decide) (by decide) (by decide)).trans (by decide +kernel)
theorem Sh.r214_21 {G : mmG} (h : Sh G) : G.2.2 214 21 = 226 := (h.2.2 214 21 (by decide) (by decide) (by decide) (by decide)).trans (by decide +kernel)
theorem Sh.r214_22 {G : mmG} (h : Sh G) : G.2.2 214 22 = 227 := (h.2.2 214 22 (by decide) (by decide) (by decide) (by decide)).trans (by decide +kernel)
theorem Sh.r214_23 {G : mmG} (h : Sh G) : G.2.2 214 23 = 228 := (h.2.2 214 23 (by decide) (by decide) (by decide) (by decide)).trans (by decide +kernel)
theorem Sh.r214_24 {G : mmG} (h : Sh G) : G.2.2 214 24 = 229 := (h.2.2 214 24 (by decide) (by decide) (by decide) (by decide)).trans (by decide +kernel)
theorem Sh.r214_25 {G : mmG} (h : Sh G) : G.2.2 214 25 = 230 := (h.2.2 214 25 (by decide) (by decide) (by decide) (by decide)).trans (by decide +kernel)
theorem Sh.r214_26 {G : mmG} (h : Sh G) : G.2.2 214 26 = 231 := (h.2.2 214 26 (by decide) (by decide) (by decide) (by decide)).trans (by decide +kernel)
theorem Sh.r214_27 {G : mmG} (h : Sh G) : G.2.2 214 27 = 232 := (h.2.2 214 27 (by decide) (by decide) (by decide) (by decide)).trans (by decide +kernel)
theorem Sh.r214_28 {G : mmG} (h : Sh G) : G.2.2 214 28 = 233 := (h.2.2 214 28 (by decide) (by decide) (by decide) (by decide)).trans (by decide +kernel)
theorem Sh.r214_29 {G : mmG} (h : Sh G) : G.2.2 214 29 = 234 := (h.2.2 214 29 (by decide) (by decide) (by decide) (by decide)).trans (by decide +kernel)
theorem Sh.r214_33 {G : mmG} (h : Sh G) : G.2.2 214 33 = 235 := (h.2.2 214 33 (by decide) (by decide) (by decide) (by decide)).trans (by decide +kernel)
theorem Sh.r214_34 {G : mmG} (h : Sh G) : G.2.2 214 34 = 236 := (h.2.2 214 34 (by decide) (by decide) (by decide) (by decide)).trans (by decide +kernel)
theorem Sh.r214_36 {G : mmG} (h : Sh G) : G.2.2 214 36 = 237 := (h.2.2 214 36 (by decide) (by decide) (by decide) (by decide)).trans (by decide +kernel)
theorem Sh.r214_37 {G : mmG} (h : Sh G) : G.2.2 214 37 = 238 := (h.2.2 214 37 (by decide) (by decide) (by decide) (by decide)).trans (by decide +kernel)
theorem Sh.r214_41 {G : mmG} (h : Sh G) : G.2.2 214 41 = 239 := (h.2.2 214 41 (by decide) (by decide) (by decide) (by decide)).trans (by decide +kernel)
theorem Sh.r214_42 {G : mmG} (h : Sh G) : G.2.2 214 42 = 240 := (h.2.2 214 42 (by decide) (by decide) (by decide) (by decide)).trans (by decide +kernel)
theorem Sh.r214_43 {G : mmG} (h : Sh G) : G.2.2 214 43 = 241 := (h.2.2 214 43 (by decide) (by decide) (by decide) (by decide)).trans (by decide +kernel)
theorem Sh.r214_47 {G : mmG} (h : Sh G) : G.2.2 214 47 = 242 := (h.2.2 214 47 (by decide) (by decide) (by decide) (by decide)).trans (by decide +kernel)
theorem Sh.r214_48 {G : mmG} (h : Sh G) : G.2.2 214 48 = 243 := (h.2.2 214 48 (by decide) (by decide) (by decide) (by decide)).trans (by decide +kernel)
theorem Sh.r214_49 {G : mmG} (h : Sh G) : G.2.2 214 49 = 244 := (h.2.2 214 49 (by decide) (by decide) (by decide) (by decide)).trans (by decide +kernel)
theorem Sh.r214_50 {G : mmG} (h : Sh G) : G.2.2 214 50 = 245 := (h.2.2 214 50 (by decide) (by decide) (by decide) (by decide)).trans (by decide +kernel)
theorem Sh.r214_54 {G : mmG} (h : Sh G) : G.2.2 214 54 = 246 := (h.2.2 214 54 (by decide) (by decide) (by decide) (by decide)).trans (by decide +kernel)
theorem Sh.r214_55 {G : mmG} (h : Sh G) : G.2.2 214 55 = 247 := (h.2.2 214 55 (by decide) (by decide) (by decide) (by decide)).trans (by decide +kernel)
theorem Sh.r214_56 {G : mmG} (h : Sh G) : G.2.2 214 56 = 248 := (h.2.2 214 56 (by decide) (by decide) (by decide) (by decide)).trans (by decide +kernel)
theorem Sh.rw {G : mmG} (h : Sh G) {i : Int} (h0 : 0 ≤ i) (h1 : i < 60) : G.2.2 4 i = 22 + 2 * i := (h.2.2 4 i (by decide) (by decide) (by decide) (by omega)).trans (by unfold rf0; rw [if_pos (by decide), if_neg (by decide), if_pos rfl, if_pos ⟨h0, h1⟩])
theorem Sh.rl {G : mmG} (h : Sh G) {i : Int} (h0 : 0 ≤ i) (h1 : i < 12) : G.2.2 6 i = 142 + 6 * i := (h.2.2 6 i (by decide) (by decide) (by decide) (by omega)).trans (by unfold rf0; rw [if_pos (by decide), if_neg (by decide), if_neg (by decide), if_pos rfl, if_pos ⟨h0, h1⟩])
/-- the place of a WORD -/
def isW (w : Int) : Prop := 18 ≤ w ∧ w < 142 ∧ w % 2 = 0
theorem isW.ge {w : Int} (h : isW w) : 2 ≤ w := by unfold isW at h; omega
theorem isW.gea {w : Int} (h : isW w) : 2 ≤ w + 1 := by unfold isW at h; omega
theorem isW.lt {G : mmG} {w : Int} (hG : Sh G) (h : isW w) : w < G.1 := hG.lt (by unfold isW at h; omega)
theorem isW.lta {G : mmG} {w : Int} (hG : Sh G) (h : isW w) : w + 1 < G.1 := hG.lt (by unfold isW at h; omega)
theorem isW.k {G : mmG} {w : Int} (hG : Sh G) (h : isW w) : G.2.1 w = (9, 0) := by
  unfold isW at h
  rw [hG.2.1 w (by omega) (by omega)]
  unfold kd0
  rw [if_neg (by omega), if_pos (by omega), if_pos (by omega)]
theorem isW.ka {G : mmG} {w : Int} (hG : Sh G) (h : isW w) : G.2.1 (w + 1) = (12, 8) := by
  unfold isW at h
  rw [hG.2.1 (w + 1) (by omega) (by omega)]
  unfold kd0
  rw [if_neg (by omega), if_pos (by omega), if_neg (by omega)]
theorem isW.r {G : mmG} {w : Int} (hG : Sh G) (h : isW w) : G.2.2 w 0 = w + 1 := by
  unfold isW at h
  rw [hG.2.2 w 0 (by omega) (by omega) (by omega) (by omega)]
  unfold rf0
  rw [if_neg (by omega), if_pos (by omega), if_pos ⟨by omega, rfl⟩]
theorem isW.of {i : Int} (h0 : 0 ≤ i) (h1 : i < 60) : isW (22 + 2 * i) := by unfold isW; omega
theorem isW.trial : isW 18 := by unfold isW; omega
theorem isW.other : isW 20 := by unfold isW; omega
/-- a LAW -/
def isLw (l : Int) : Prop := 142 ≤ l ∧ l < 214 ∧ (l - 142) % 6 = 0
theorem isLw.ge {w : Int} (h : isLw w) : 2 ≤ w := by unfold isLw at h; omega
theorem isLw.lt {G : mmG} {w : Int} (hG : Sh G) (h : isLw w) : w < G.1 := hG.lt (by unfold isLw at h; omega)
theorem isLw.k {G : mmG} {w : Int} (hG : Sh G) (h : isLw w) : G.2.1 w = (3, 0) := by
  unfold isLw at h
  rw [hG.2.1 w (by omega) (by omega)]
  unfold kd0
  rw [if_neg (by omega), if_neg (by omega), if_pos (by omega), if_pos (by omega)]
theorem isLw.of {i : Int} (h0 : 0 ≤ i) (h1 : i < 12) : isLw (142 + 6 * i) := by unfold isLw; omega
theorem isLw.ge0 {w : Int} (h : isLw w) : 2 ≤ w + 1 := by unfold isLw at h; omega
theorem isLw.lt0 {G : mmG} {w : Int} (hG : Sh G) (h : isLw w) : w + 1 < G.1 := hG.lt (by unfold isLw at h; omega)
theorem isLw.k0 {G : mmG} {w : Int} (hG : Sh G) (h : isLw w) : G.2.1 (w + 1) = (12, 6) := by
  unfold isLw at h
  rw [hG.2.1 (w + 1) (by omega) (by omega)]
  unfold kd0
  rw [if_neg (by omega), if_neg (by omega), if_pos (by omega), if_neg (by omega), if_neg (by omega)]
theorem isLw.r0 {G : mmG} {w : Int} (hG : Sh G) (h : isLw w) : G.2.2 w 0 = w + 1 := by
  unfold isLw at h
  rw [hG.2.2 w 0 (by omega) (by omega) (by omega) (by omega)]
  unfold rf0
  rw [if_neg (by omega), if_neg (by omega), if_pos (by omega), if_pos ⟨by omega, by omega, by omega⟩]
  omega
theorem isLw.ge1 {w : Int} (h : isLw w) : 2 ≤ w + 2 := by unfold isLw at h; omega
theorem isLw.lt1 {G : mmG} {w : Int} (hG : Sh G) (h : isLw w) : w + 2 < G.1 := hG.lt (by unfold isLw at h; omega)
theorem isLw.k1 {G : mmG} {w : Int} (hG : Sh G) (h : isLw w) : G.2.1 (w + 2) = (12, 6) := by
  unfold isLw at h
  rw [hG.2.1 (w + 2) (by omega) (by omega)]
  unfold kd0
  rw [if_neg (by omega), if_neg (by omega), if_pos (by omega), if_neg (by omega), if_neg (by omega)]
theorem isLw.r1 {G : mmG} {w : Int} (hG : Sh G) (h : isLw w) : G.2.2 w 1 = w + 2 := by
  unfold isLw at h
  rw [hG.2.2 w 1 (by omega) (by omega) (by omega) (by omega)]
  unfold rf0
  rw [if_neg (by omega), if_neg (by omega), if_pos (by omega), if_pos ⟨by omega, by omega, by omega⟩]
  omega
theorem isLw.ge2 {w : Int} (h : isLw w) : 2 ≤ w + 3 := by unfold isLw at h; omega
theorem isLw.lt2 {G : mmG} {w : Int} (hG : Sh G) (h : isLw w) : w + 3 < G.1 := hG.lt (by unfold isLw at h; omega)
theorem isLw.k2 {G : mmG} {w : Int} (hG : Sh G) (h : isLw w) : G.2.1 (w + 3) = (12, 6) := by
  unfold isLw at h
  rw [hG.2.1 (w + 3) (by omega) (by omega)]
  unfold kd0
  rw [if_neg (by omega), if_neg (by omega), if_pos (by omega), if_neg (by omega), if_neg (by omega)]
theorem isLw.r2 {G : mmG} {w : Int} (hG : Sh G) (h : isLw w) : G.2.2 w 2 = w + 3 := by
  unfold isLw at h
  rw [hG.2.2 w 2 (by omega) (by omega) (by omega) (by omega)]
  unfold rf0
  rw [if_neg (by omega), if_neg (by omega), if_pos (by omega), if_pos ⟨by omega, by omega, by omega⟩]
  omega
theorem isLw.ge3 {w : Int} (h : isLw w) : 2 ≤ w + 4 := by unfold isLw at h; omega
theorem isLw.lt3 {G : mmG} {w : Int} (hG : Sh G) (h : isLw w) : w + 4 < G.1 := hG.lt (by unfold isLw at h; omega)
theorem isLw.k3 {G : mmG} {w : Int} (hG : Sh G) (h : isLw w) : G.2.1 (w + 4) = (12, 6) := by
  unfold isLw at h
  rw [hG.2.1 (w + 4) (by omega) (by omega)]
  unfold kd0
  rw [if_neg (by omega), if_neg (by omega), if_pos (by omega), if_neg (by omega), if_neg (by omega)]
theorem isLw.r3 {G : mmG} {w : Int} (hG : Sh G) (h : isLw w) : G.2.2 w 3 = w + 4 := by
  unfold isLw at h
  rw [hG.2.2 w 3 (by omega) (by omega) (by omega) (by omega)]
  unfold rf0
  rw [if_neg (by omega), if_neg (by omega), if_pos (by omega), if_pos ⟨by omega, by omega, by omega⟩]
  omega
theorem isLw.ge4 {w : Int} (h : isLw w) : 2 ≤ w + 5 := by unfold isLw at h; omega
theorem isLw.lt4 {G : mmG} {w : Int} (hG : Sh G) (h : isLw w) : w + 5 < G.1 := hG.lt (by unfold isLw at h; omega)
theorem isLw.k4 {G : mmG} {w : Int} (hG : Sh G) (h : isLw w) : G.2.1 (w + 5) = (12, 8) := by
  unfold isLw at h
  rw [hG.2.1 (w + 5) (by omega) (by omega)]
  unfold kd0
  rw [if_neg (by omega), if_neg (by omega), if_pos (by omega), if_neg (by omega), if_pos (by omega)]
theorem isLw.r4 {G : mmG} {w : Int} (hG : Sh G) (h : isLw w) : G.2.2 w 4 = w + 5 := by
  unfold isLw at h
  rw [hG.2.2 w 4 (by omega) (by omega) (by omega) (by omega)]
  unfold rf0
  rw [if_neg (by omega), if_neg (by omega), if_pos (by omega), if_pos ⟨by omega, by omega, by omega⟩]
  omega
/-- an EVENT of kind ci at e, with its row of bodies behind it -/
def isEv (G : mmG) (ci : Nat) (e : Int) : Prop := 249 ≤ e ∧ e + 1 < G.1 ∧ G.2.1 e = (ci, 0) ∧ G.2.1 (e + 1) = (12, 20) ∧ G.2.2 e 5 = e + 1
theorem isEv.ge {G : mmG} {ci : Nat} {e : Int} (h : isEv G ci e) : 2 ≤ e := by have := h.1; omega
theorem isEv.gea {G : mmG} {ci : Nat} {e : Int} (h : isEv G ci e) : 2 ≤ e + 1 := by have := h.1; omega
theorem isEv.lt {G : mmG} {ci : Nat} {e : Int} (h : isEv G ci e) : e < G.1 := by have := h.2.1; omega
theorem isEv.lta {G : mmG} {ci : Nat} {e : Int} (h : isEv G ci e) : e + 1 < G.1 := h.2.1
/-- an EVENT that is being made -/
def isE0 (G : mmG) (ci : Nat) (e : Int) : Prop := 249 ≤ e ∧ e < G.1 ∧ G.2.1 e = (ci, 0)
theorem isE0.ge {G : mmG} {ci : Nat} {e : Int} (h : isE0 G ci e) : 2 ≤ e := by have := h.1; omega
theorem isE0.push {G : mmG} {ci kd : Nat} {e n : Int} (h : isE0 G ci e) : isE0 (mm_push G kd n) ci e := by
  obtain ⟨h1, h2, h3⟩ := h
  refine ⟨h1, by show e < G.1 + 1; omega, ?_⟩
  show (if e = G.1 then (kd, n) else G.2.1 e) = _
  rw [if_neg (by omega)]
  exact h3
/-- a row of four numbers -/
def isA4 (G : mmG) (a : Int) : Prop := 249 ≤ a ∧ a < G.1 ∧ G.2.1 a = (12, 4)
theorem isA4.ge {G : mmG} {e : Int} (h : isA4 G e) : 2 ≤ e := by have := h.1; omega
theorem Sh.push {G : mmG} {kd : Nat} {n : Int} (h : Sh G) : Sh (mm_push G kd n) := by
  obtain ⟨h1, h2, h3⟩ := h
  refine ⟨by show 249 ≤ G.1 + 1; omega, fun a x y => ?_, fun a j x y z u => ?_⟩
  · have : ¬ a = G.1 := by omega
    simp only [mm_push, this, if_false]
    exact h2 a x y
  · have : ¬ a = G.1 := by omega
    simp only [mm_push, this, if_false]
    exact h3 a j x y z u
theorem Sh.ev {G : mmG} {i x : Int} (h : Sh G) : Sh (G.1, G.2.1, up2 G.2.2 7 i x) := by
  obtain ⟨h1, h2, h3⟩ := h
  refine ⟨h1, h2, fun a j x y z u => ?_⟩
  show up2 G.2.2 7 i _ a j = _
  rw [up2_ne (fun q => z q.1)]
  exact h3 a j x y z u
theorem Sh.lat {G : mmG} {x : Int} (h : Sh G) : Sh (G.1, G.2.1, up2 G.2.2 2 9 x) := by
  obtain ⟨h1, h2, h3⟩ := h
  refine ⟨h1, h2, fun a j x y z u => ?_⟩
  show up2 G.2.2 2 9 _ a j = _
  rw [up2_ne u]
  exact h3 a j x y z u
theorem Sh.hi {G : mmG} {a j x : Int} (ha : 249 ≤ a) (h : Sh G) : Sh (G.1, G.2.1, up2 G.2.2 a j x) := by
  obtain ⟨h1, h2, h3⟩ := h
  refine ⟨h1, h2, fun b k x y z u => ?_⟩
  show up2 G.2.2 a j _ b k = _
  rw [up2_ne (fun q => by omega)]
  exact h3 b k x y z u
/-! answers -/
def retI (G : mmG) (P : Int → mmD → Prop) : mmQ := fun r G' D' => G = G' ∧ ∃ x : Int, r = some (vI x) ∧ P x D'
def retR (G : mmG) (P : Int → mmD → Prop) : mmQ := fun r G' D' => G = G' ∧ ∃ x : Int, r = some (vR x) ∧ P x D'
def retV (G : mmG) (P : mmD → Prop) : mmQ := fun r G' D' => G = G' ∧ r = none ∧ P D'
def retIG (P : Int → mmG → mmD → Prop) : mmQ := fun r G' D' => ∃ x : Int, r = some (vI x) ∧ P x G' D'
def retRG (P : Int → mmG → mmD → Prop) : mmQ := fun r G' D' => ∃ x : Int, r = some (vR x) ∧ P x G' D'
def retVG (P : mmG → mmD → Prop) : mmQ := fun r G' D' => r = none ∧ P G' D'
/-- fewer locals are known -/
def mm_sub : List (Option mmV) → List (Option mmV) → Prop
  | [], _ => True
  | none :: a, [] => mm_sub a []
  | some _ :: _, [] => False
  | none :: a, _ :: b => mm_sub a b
  | some v :: a, x :: b => x = some v ∧ mm_sub a b
theorem mm_sub_at : ∀ (A B : List (Option mmV)), mm_sub A B → ∀ (k : Nat) (v : mmV), A[k]? = some (some v) → B[k]? = some (some v)
  | [], _, _, k, v, h => by simp at h
  | none :: a, [], hs, k, v, h => by
    cases k with
    | zero => simp at h
    | succ k => exact absurd (mm_sub_at a [] hs k v (by simpa using h)) (by simp)
  | some _ :: _, [], hs, _, _, _ => hs.elim
  | none :: a, _ :: b, hs, k, v, h => by
    cases k with
    | zero => simp at h
    | succ k => simpa using mm_sub_at a b hs k v (by simpa using h)
  | some u :: a, x :: b, hs, k, v, h => by
    cases k with
    | zero => simp at h; subst h; simp [hs.1]
    | succ k => simpa using mm_sub_at a b hs.2 k v (by simpa using h)
section Rules7
variable {E : mmE} {d kc ks : Nat} {Y : mmM} {pc : Nat} {L : List (Option mmV)} {st : List mmV} {G : mmG} {D : mmD} {Q : mmQ}
theorem Go.drop {L' : List (Option mmV)} (hs : mm_sub L' L) (k : Go E d kc ks Y pc L' st G D Q) : Go E d kc ks Y pc L st G D Q := by
  intro p e s m args below meth c H locs cells slots ls R C hh hl hL
  exact k p e s m args below meth c H locs cells slots ls R C hh hl ⟨hL.1, hL.2.1, fun k v h => hL.2.2 k v (mm_sub_at _ _ hs k v h)⟩
theorem h_istore {i : Nat} {x : Int} {L' : List (Option mmV)} (hd : decode Y.2.1 pc = .ok (.istore i, 2)) (hi : i < Y.2.2.1) (hn : mm_nl L i = true) (hL : L.set i (some (vI x)) = L') (k : Go E d kc ks Y (pc + 2) L' st G D Q) : Go E d kc ks Y pc L (vI x :: st) G D Q := g_istore hd hi hn (hL ▸ k)
theorem h_istore_n {j : Fin 4} {i : Nat} {x : Int} {L' : List (Option mmV)} (hd : decode Y.2.1 pc = .ok (.istore_n j, 1)) (hj : (j : Nat) = i) (hi : i < Y.2.2.1) (hn : mm_nl L i = true) (hL : L.set i (some (vI x)) = L') (k : Go E d kc ks Y (pc + 1) L' st G D Q) : Go E d kc ks Y pc L (vI x :: st) G D Q := g_istore_n hd hj hi hn (hL ▸ k)
theorem h_astore {i : Nat} {x : Int} {L' : List (Option mmV)} (hd : decode Y.2.1 pc = .ok (.astore i, 2)) (hi : i < Y.2.2.1) (hn : mm_nl L i = true) (hL : L.set i (some (vR x)) = L') (k : Go E d kc ks Y (pc + 2) L' st G D Q) : Go E d kc ks Y pc L (vR x :: st) G D Q := g_astore hd hi hn (hL ▸ k)
theorem h_astore_n {j : Fin 4} {i : Nat} {x : Int} {L' : List (Option mmV)} (hd : decode Y.2.1 pc = .ok (.astore_n j, 1)) (hj : (j : Nat) = i) (hi : i < Y.2.2.1) (hn : mm_nl L i = true) (hL : L.set i (some (vR x)) = L') (k : Go E d kc ks Y (pc + 1) L' st G D Q) : Go E d kc ks Y pc L (vR x :: st) G D Q := g_astore_n hd hj hi hn (hL ▸ k)
theorem h_iinc {i : Nat} {n x : Int} {L' : List (Option mmV)} (hd : decode Y.2.1 pc = .ok (.iinc i n, 3)) (hi : i < Y.2.2.1) (hl0 : L[i]? = some (some (vI x))) (hn : mm_nl L i = true) (hL : L.set i (some (vI (x + n))) = L') (k : Go E d kc ks Y (pc + 3) L' st G D Q) : Go E d kc ks Y pc L st G D Q := g_iinc hd hi hl0 hn (hL ▸ k)
theorem h_getI {a j z : Int} {idx ci k : Nat} (hd : decode Y.2.1 pc = .ok (.getfield idx, 3)) (hf : mm_fok Y.1.cls idx ci k) (hR : mm_isR ci k = false) (hj : (k : Int) = j) (hci : ci < 12) (hk : G.2.1 a = (ci, z)) (ha : 2 ≤ a) (ha2 : a < G.1) (kk : Go E d kc ks Y (pc + 3) L (vI (D a j) :: st) G D Q) : Go E d kc ks Y pc L (vR a :: st) G D Q :=
  g_getI hd hf hR hj hci (by rw [hk]) ha ha2 kk
theorem h_getR {a j z v : Int} {idx ci k : Nat} (hd : decode Y.2.1 pc = .ok (.getfield idx, 3)) (hf : mm_fok Y.1.cls idx ci k) (hR : mm_isR ci k = true) (hj : (k : Int) = j) (hci : ci < 12) (hk : G.2.1 a = (ci, z)) (ha : 2 ≤ a) (ha2 : a < G.1) (hv : G.2.2 a j = v) (kk : Go E d kc ks Y (pc + 3) L (vR v :: st) G D Q) : Go E d kc ks Y pc L (vR a :: st) G D Q :=
  g_getR hd hf hR hj hci (by rw [hk]) ha ha2 (by rw [hv]; exact kk)
theorem h_putI {a j x z : Int} {idx ci k : Nat} (hd : decode Y.2.1 pc = .ok (.putfield idx, 3)) (hf : mm_fok Y.1.cls idx ci k) (hfin : mm_fin ci k false ∨ (Y.1.name = "<init>" ∧ mm_fin ci k true ∧ ∀ r : vw_C, vwCl[ci]? = some r → (r.2.1 k).1 = Y.1.cls)) (hty : mm_ty ci k = .int) (hj : (k : Int) = j) (hci : ci < 12) (hk : G.2.1 a = (ci, z)) (ha : 2 ≤ a) (ha2 : a < G.1) (kk : Go E d kc ks Y (pc + 3) L st G (up2 D a j x) Q) : Go E d kc ks Y pc L (vI x :: vR a :: st) G D Q :=
  g_putI hd hf hfin hty hj hci (by rw [hk]) ha ha2 kk
theorem h_putZ {a j x z : Int} {idx ci k : Nat} (hd : decode Y.2.1 pc = .ok (.putfield idx, 3)) (hf : mm_fok Y.1.cls idx ci k) (hfin : mm_fin ci k false ∨ (Y.1.name = "<init>" ∧ mm_fin ci k true ∧ ∀ r : vw_C, vwCl[ci]? = some r → (r.2.1 k).1 = Y.1.cls)) (hty : mm_ty ci k = .boolean) (hj : (k : Int) = j) (hci : ci < 12) (hk : G.2.1 a = (ci, z)) (ha : 2 ≤ a) (ha2 : a < G.1) (kk : (x = 0 ∨ x = 1) ∧ Go E d kc ks Y (pc + 3) L st G (up2 D a j x) Q) : Go E d kc ks Y pc L (vI x :: vR a :: st) G D Q :=
  g_putZ hd hf hfin hty hj hci (by rw [hk]) ha ha2 kk
theorem h_putR {a j x z : Int} {idx ci k : Nat} (hd : decode Y.2.1 pc = .ok (.putfield idx, 3)) (hf : mm_fok Y.1.cls idx ci k) (hfin : mm_fin ci k false ∨ (Y.1.name = "<init>" ∧ mm_fin ci k true ∧ ∀ r : vw_C, vwCl[ci]? = some r → (r.2.1 k).1 = Y.1.cls)) (hty : (∃ n, mm_ty ci k = .object n) ∨ ∃ t, mm_ty ci k = .array t) (hj : (k : Int) = j) (hci : ci < 12) (hk : G.2.1 a = (ci, z)) (ha : 2 ≤ a) (ha2 : a < G.1) (kk : Go E d kc ks Y (pc + 3) L st (G.1, G.2.1, up2 G.2.2 a j x) D Q) : Go E d kc ks Y pc L (vR x :: vR a :: st) G D Q :=
  g_putR hd hf hfin hty hj hci (by rw [hk]) ha ha2 kk
theorem h_aaldw {i : Int} (hG : Sh G) (hd : decode Y.2.1 pc = .ok (.aaload, 1)) (k : (0 ≤ i ∧ i < 60) ∧ Go E d kc ks Y (pc + 1) L (vR (22 + 2 * i) :: st) G D Q) : Go E d kc ks Y pc L (vI i :: vR 4 :: st) G D Q :=
  g_aald hd (by decide) (by decide) hG.k4 (by decide) (hG.lt (by decide)) (by decide) ⟨k.1, by rw [hG.rw k.1.1 k.1.2]; exact k.2⟩
theorem h_aaldl {i : Int} (hG : Sh G) (hd : decode Y.2.1 pc = .ok (.aaload, 1)) (k : (0 ≤ i ∧ i < 12) ∧ Go E d kc ks Y (pc + 1) L (vR (142 + 6 * i) :: st) G D Q) : Go E d kc ks Y pc L (vI i :: vR 6 :: st) G D Q :=
  g_aald hd (by decide) (by decide) hG.k6 (by decide) (hG.lt (by decide)) (by decide) ⟨k.1, by rw [hG.rl k.1.1 k.1.2]; exact k.2⟩
theorem g_mmax {x y : Int} {idx : Nat} (hd : decode Y.2.1 pc = .ok (.invokestatic idx, 3)) (hw : Cond.methodLink Y.1.cls idx Lib.Math.max.name ∈ mm_tbl ∧ Cond.static Lib.Math.max.name ∈ mm_tbl ∧ Cond.initialized "java/lang/Math" ∈ mm_tbl ∧ Cond.code Lib.Math.max.name Lib.Math.max.code 2 (some .int) ∈ mm_tbl) (hst : st.length ≤ 4) (k : Go E (d + 1) kc ks Y (pc + 3) L (vI (if iv x < iv y then y else x) :: st) G D Q) : Go E (d + 1) kc ks Y pc L (vI y :: vI x :: st) G D Q := by
  intro p e s m args below meth c H locs cells slots ls R C hh hl hL
  obtain ⟨c1, c2, c3, c4, c5, c6, c7, c8, c9, c10, c11, c12, c13⟩ := id C
  have h8 := mm_st8 (E := E) (pc := pc) (m := m) (ls := ls) (st0 := []) hst
  have h8b : 0 + ((st.map (mm_sh E)).map fun v => v.category).sum ≤ 8 := h8
  refine va_mmax c1 c2 (by rw [c3]; exact hL.1.symm) c6 (c8 _ hw.1) (c8 _ hw.2.1) (c8 _ hw.2.2.1) (c8 _ hw.2.2.2) (by omega) (by omega) (by omega) (by omega) hd ?_
  have h9 := k p e s m args below meth c H locs cells slots ls R C hh hl hL
  rw [List.map_cons] at h9
  have e1 : mm_sh E (vI (if iv x < iv y then y else x)) = .int (if iv x < iv y then iv y else iv x) := by split <;> rfl
  rw [e1] at h9
  exact h9
theorem g_mmin {x y : Int} {idx : Nat} (hd : decode Y.2.1 pc = .ok (.invokestatic idx, 3)) (hw : Cond.methodLink Y.1.cls idx Lib.Math.min.name ∈ mm_tbl ∧ Cond.static Lib.Math.min.name ∈ mm_tbl ∧ Cond.initialized "java/lang/Math" ∈ mm_tbl ∧ Cond.code Lib.Math.min.name Lib.Math.min.code 2 (some .int) ∈ mm_tbl) (hst : st.length ≤ 4) (k : Go E (d + 1) kc ks Y (pc + 3) L (vI (if iv y < iv x then y else x) :: st) G D Q) : Go E (d + 1) kc ks Y pc L (vI y :: vI x :: st) G D Q := by
  intro p e s m args below meth c H locs cells slots ls R C hh hl hL
  obtain ⟨c1, c2, c3, c4, c5, c6, c7, c8, c9, c10, c11, c12, c13⟩ := id C
  have h8 := mm_st8 (E := E) (pc := pc) (m := m) (ls := ls) (st0 := []) hst
  have h8b : 0 + ((st.map (mm_sh E)).map fun v => v.category).sum ≤ 8 := h8
  refine va_mmin c1 c2 (by rw [c3]; exact hL.1.symm) c6 (c8 _ hw.1) (c8 _ hw.2.1) (c8 _ hw.2.2.1) (c8 _ hw.2.2.2) (by omega) (by omega) (by omega) (by omega) hd ?_
  have h9 := k p e s m args below meth c H locs cells slots ls R C hh hl hL
  rw [List.map_cons] at h9
  have e1 : mm_sh E (vI (if iv y < iv x then y else x)) = .int (if iv y < iv x then iv y else iv x) := by split <;> rfl
  rw [e1] at h9
  exact h9
/-- whether a field is final, by kind and number -/
theorem mm_finI {ci k : Nat} {b : Bool} (h : ((vwCl[ci]?).map (fun r => decide ((r.2.1 k).2.2.2 = b))) = some true) : mm_fin ci k b := by
  intro r hr
  rw [hr] at h
  simpa using h
theorem mm_decl {ci k : Nat} {C : String} (h : ((vwCl[ci]?).map (fun r => decide ((r.2.1 k).1 = C))) = some true) : ∀ r : vw_C, vwCl[ci]? = some r → (r.2.1 k).1 = C := by
  intro r hr
  rw [hr] at h
  simpa using h
end Rules7
theorem mm_n43 {E : mmE} : ∀ s, mm_K E s → va_Nw (.methodLinkNest RX4 43 yX11_isLetterByte RX11) s := fun _ h => h.2.2.2.2.2.2.2.1
theorem mm_n78 {E : mmE} : ∀ s, mm_K E s → va_Nw (.methodLinkNest RX4 78 yX11_isVowel RX11) s := fun _ h => h.2.2.2.2.2.2.2.2.1
theorem mm_n37 {E : mmE} : ∀ s, mm_K E s → va_Nw (.methodLinkNest RX7 37 yX11_isVowel RX11) s := fun _ h => h.2.2.2.2.2.2.2.2.2.1
