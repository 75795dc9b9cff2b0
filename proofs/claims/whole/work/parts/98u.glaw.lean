/-! ===== the law itself, block by block ===== -/
def mLw_law_ : MR := (x, code, 7, ret)
theorem dLw_law__0 : decode mLw_law_.2.1 0 = .ok (.new 8, 3) := by decide +kernel
theorem dLw_law__3 : decode mLw_law_.2.1 3 = .ok (.dup, 1) := by decide +kernel
theorem dLw_law__4 : decode mLw_law_.2.1 4 = .ok (.invokespecial 90, 3) := by decide +kernel
theorem dLw_law__7 : decode mLw_law_.2.1 7 = .ok (.astore_n 1, 1) := by decide +kernel
theorem dLw_law__8 : decode mLw_law_.2.1 8 = .ok (.new 91, 3) := by decide +kernel
theorem dLw_law__11 : decode mLw_law_.2.1 11 = .ok (.dup, 1) := by decide +kernel
theorem dLw_law__12 : decode mLw_law_.2.1 12 = .ok (.invokespecial 93, 3) := by decide +kernel
theorem dLw_law__15 : decode mLw_law_.2.1 15 = .ok (.astore_n 2, 1) := by decide +kernel
theorem dLw_law__16 : decode mLw_law_.2.1 16 = .ok (.iconst 1, 1) := by decide +kernel
theorem dLw_law__17 : decode mLw_law_.2.1 17 = .ok (.newarray .long, 2) := by decide +kernel
theorem dLw_law__19 : decode mLw_law_.2.1 19 = .ok (.astore_n 3, 1) := by decide +kernel
theorem dLw_law__20 : decode mLw_law_.2.1 20 = .ok (.iconst 0, 1) := by decide +kernel
theorem dLw_law__21 : decode mLw_law_.2.1 21 = .ok (.istore 4, 2) := by decide +kernel
theorem dLw_law__23 : decode mLw_law_.2.1 23 = .ok (.iload 4, 2) := by decide +kernel
theorem dLw_law__25 : decode mLw_law_.2.1 25 = .ok (.aload_n 0, 1) := by decide +kernel
theorem dLw_law__26 : decode mLw_law_.2.1 26 = .ok (.arraylength, 1) := by decide +kernel
theorem dLw_law__27 : decode mLw_law_.2.1 27 = .ok (.bipush 6, 2) := by decide +kernel
theorem dLw_law__29 : decode mLw_law_.2.1 29 = .ok (.isub, 1) := by decide +kernel
theorem dLw_law__30 : decode mLw_law_.2.1 30 = .ok (.if_icmp .gt 1819, 3) := by decide +kernel
theorem dLw_law__33 : decode mLw_law_.2.1 33 = .ok (.aload_n 0, 1) := by decide +kernel
theorem dLw_law__34 : decode mLw_law_.2.1 34 = .ok (.iload 4, 2) := by decide +kernel
theorem dLw_law__36 : decode mLw_law_.2.1 36 = .ok (.iaload, 1) := by decide +kernel
theorem dLw_law__37 : decode mLw_law_.2.1 37 = .ok (.bipush 31, 2) := by decide +kernel
theorem dLw_law__39 : decode mLw_law_.2.1 39 = .ok (.iand, 1) := by decide +kernel
theorem dLw_law__40 : decode mLw_law_.2.1 40 = .ok (.tableswitch 1803 0 30 #[140, 213, 269, 325, 338, 394, 462, 530, 598, 685, 765, 821, 889, 957, 1013, 1069, 1137, 1205, 1261, 1274, 1287, 1367, 1435, 1503, 1571, 1627, 1683, 1739, 1752, 1765, 1778], 140) := by decide +kernel
theorem dLw_law__180 : decode mLw_law_.2.1 180 = .ok (.aload_n 1, 1) := by decide +kernel
theorem dLw_law__181 : decode mLw_law_.2.1 181 = .ok (.aload_n 0, 1) := by decide +kernel
theorem dLw_law__182 : decode mLw_law_.2.1 182 = .ok (.iload 4, 2) := by decide +kernel
theorem dLw_law__184 : decode mLw_law_.2.1 184 = .ok (.iconst 1, 1) := by decide +kernel
theorem dLw_law__185 : decode mLw_law_.2.1 185 = .ok (.iadd, 1) := by decide +kernel
theorem dLw_law__186 : decode mLw_law_.2.1 186 = .ok (.iaload, 1) := by decide +kernel
theorem dLw_law__187 : decode mLw_law_.2.1 187 = .ok (.aload_n 0, 1) := by decide +kernel
theorem dLw_law__188 : decode mLw_law_.2.1 188 = .ok (.iload 4, 2) := by decide +kernel
theorem dLw_law__190 : decode mLw_law_.2.1 190 = .ok (.iconst 2, 1) := by decide +kernel
theorem dLw_law__191 : decode mLw_law_.2.1 191 = .ok (.iadd, 1) := by decide +kernel
theorem dLw_law__192 : decode mLw_law_.2.1 192 = .ok (.iaload, 1) := by decide +kernel
theorem dLw_law__193 : decode mLw_law_.2.1 193 = .ok (.aload_n 0, 1) := by decide +kernel
theorem dLw_law__194 : decode mLw_law_.2.1 194 = .ok (.iload 4, 2) := by decide +kernel
theorem dLw_law__196 : decode mLw_law_.2.1 196 = .ok (.iconst 3, 1) := by decide +kernel
theorem dLw_law__197 : decode mLw_law_.2.1 197 = .ok (.iadd, 1) := by decide +kernel
theorem dLw_law__198 : decode mLw_law_.2.1 198 = .ok (.iaload, 1) := by decide +kernel
theorem dLw_law__199 : decode mLw_law_.2.1 199 = .ok (.aload_n 0, 1) := by decide +kernel
theorem dLw_law__200 : decode mLw_law_.2.1 200 = .ok (.iload 4, 2) := by decide +kernel
theorem dLw_law__202 : decode mLw_law_.2.1 202 = .ok (.iconst 4, 1) := by decide +kernel
theorem dLw_law__203 : decode mLw_law_.2.1 203 = .ok (.iadd, 1) := by decide +kernel
theorem dLw_law__204 : decode mLw_law_.2.1 204 = .ok (.iaload, 1) := by decide +kernel
theorem dLw_law__205 : decode mLw_law_.2.1 205 = .ok (.aload_n 0, 1) := by decide +kernel
theorem dLw_law__206 : decode mLw_law_.2.1 206 = .ok (.iload 4, 2) := by decide +kernel
theorem dLw_law__208 : decode mLw_law_.2.1 208 = .ok (.iconst 5, 1) := by decide +kernel
theorem dLw_law__209 : decode mLw_law_.2.1 209 = .ok (.iadd, 1) := by decide +kernel
theorem dLw_law__210 : decode mLw_law_.2.1 210 = .ok (.iaload, 1) := by decide +kernel
theorem dLw_law__211 : decode mLw_law_.2.1 211 = .ok (.invokevirtual 94, 3) := by decide +kernel
theorem dLw_law__214 : decode mLw_law_.2.1 214 = .ok (.aload_n 2, 1) := by decide +kernel
theorem dLw_law__215 : decode mLw_law_.2.1 215 = .ok (.aload_n 0, 1) := by decide +kernel
theorem dLw_law__216 : decode mLw_law_.2.1 216 = .ok (.iload 4, 2) := by decide +kernel
theorem dLw_law__218 : decode mLw_law_.2.1 218 = .ok (.iconst 1, 1) := by decide +kernel
theorem dLw_law__219 : decode mLw_law_.2.1 219 = .ok (.iadd, 1) := by decide +kernel
theorem dLw_law__220 : decode mLw_law_.2.1 220 = .ok (.iaload, 1) := by decide +kernel
theorem dLw_law__221 : decode mLw_law_.2.1 221 = .ok (.aload_n 0, 1) := by decide +kernel
theorem dLw_law__222 : decode mLw_law_.2.1 222 = .ok (.iload 4, 2) := by decide +kernel
theorem dLw_law__224 : decode mLw_law_.2.1 224 = .ok (.iconst 2, 1) := by decide +kernel
theorem dLw_law__225 : decode mLw_law_.2.1 225 = .ok (.iadd, 1) := by decide +kernel
theorem dLw_law__226 : decode mLw_law_.2.1 226 = .ok (.iaload, 1) := by decide +kernel
theorem dLw_law__227 : decode mLw_law_.2.1 227 = .ok (.aload_n 0, 1) := by decide +kernel
theorem dLw_law__228 : decode mLw_law_.2.1 228 = .ok (.iload 4, 2) := by decide +kernel
theorem dLw_law__230 : decode mLw_law_.2.1 230 = .ok (.iconst 3, 1) := by decide +kernel
theorem dLw_law__231 : decode mLw_law_.2.1 231 = .ok (.iadd, 1) := by decide +kernel
theorem dLw_law__232 : decode mLw_law_.2.1 232 = .ok (.iaload, 1) := by decide +kernel
theorem dLw_law__233 : decode mLw_law_.2.1 233 = .ok (.aload_n 0, 1) := by decide +kernel
theorem dLw_law__234 : decode mLw_law_.2.1 234 = .ok (.iload 4, 2) := by decide +kernel
theorem dLw_law__236 : decode mLw_law_.2.1 236 = .ok (.iconst 4, 1) := by decide +kernel
theorem dLw_law__237 : decode mLw_law_.2.1 237 = .ok (.iadd, 1) := by decide +kernel
theorem dLw_law__238 : decode mLw_law_.2.1 238 = .ok (.iaload, 1) := by decide +kernel
theorem dLw_law__239 : decode mLw_law_.2.1 239 = .ok (.aload_n 0, 1) := by decide +kernel
theorem dLw_law__240 : decode mLw_law_.2.1 240 = .ok (.iload 4, 2) := by decide +kernel
theorem dLw_law__242 : decode mLw_law_.2.1 242 = .ok (.iconst 5, 1) := by decide +kernel
theorem dLw_law__243 : decode mLw_law_.2.1 243 = .ok (.iadd, 1) := by decide +kernel
theorem dLw_law__244 : decode mLw_law_.2.1 244 = .ok (.iaload, 1) := by decide +kernel
theorem dLw_law__245 : decode mLw_law_.2.1 245 = .ok (.invokevirtual 98, 3) := by decide +kernel
theorem dLw_law__248 : decode mLw_law_.2.1 248 = .ok (.if_icmp .eq 1595, 3) := by decide +kernel
theorem dLw_law__251 : decode mLw_law_.2.1 251 = .ok (.iconst 0, 1) := by decide +kernel
theorem dLw_law__252 : decode mLw_law_.2.1 252 = .ok (.ireturn, 1) := by decide +kernel
theorem dLw_law__253 : decode mLw_law_.2.1 253 = .ok (.aload_n 1, 1) := by decide +kernel
theorem dLw_law__254 : decode mLw_law_.2.1 254 = .ok (.aload_n 0, 1) := by decide +kernel
theorem dLw_law__255 : decode mLw_law_.2.1 255 = .ok (.iload 4, 2) := by decide +kernel
theorem dLw_law__257 : decode mLw_law_.2.1 257 = .ok (.iconst 1, 1) := by decide +kernel
theorem dLw_law__258 : decode mLw_law_.2.1 258 = .ok (.iadd, 1) := by decide +kernel
theorem dLw_law__259 : decode mLw_law_.2.1 259 = .ok (.iaload, 1) := by decide +kernel
theorem dLw_law__260 : decode mLw_law_.2.1 260 = .ok (.aload_n 3, 1) := by decide +kernel
theorem dLw_law__261 : decode mLw_law_.2.1 261 = .ok (.invokestatic 99, 3) := by decide +kernel
theorem dLw_law__264 : decode mLw_law_.2.1 264 = .ok (.istore 5, 2) := by decide +kernel
theorem dLw_law__266 : decode mLw_law_.2.1 266 = .ok (.aload_n 2, 1) := by decide +kernel
theorem dLw_law__267 : decode mLw_law_.2.1 267 = .ok (.aload_n 0, 1) := by decide +kernel
theorem dLw_law__268 : decode mLw_law_.2.1 268 = .ok (.iload 4, 2) := by decide +kernel
theorem dLw_law__270 : decode mLw_law_.2.1 270 = .ok (.iconst 1, 1) := by decide +kernel
theorem dLw_law__271 : decode mLw_law_.2.1 271 = .ok (.iadd, 1) := by decide +kernel
theorem dLw_law__272 : decode mLw_law_.2.1 272 = .ok (.iaload, 1) := by decide +kernel
theorem dLw_law__273 : decode mLw_law_.2.1 273 = .ok (.invokevirtual 104, 3) := by decide +kernel
theorem dLw_law__276 : decode mLw_law_.2.1 276 = .ok (.istore 6, 2) := by decide +kernel
theorem dLw_law__278 : decode mLw_law_.2.1 278 = .ok (.aload_n 2, 1) := by decide +kernel
theorem dLw_law__279 : decode mLw_law_.2.1 279 = .ok (.invokevirtual 105, 3) := by decide +kernel
theorem dLw_law__282 : decode mLw_law_.2.1 282 = .ok (.iload 5, 2) := by decide +kernel
theorem dLw_law__284 : decode mLw_law_.2.1 284 = .ok (.if_icmp .eq 5, 3) := by decide +kernel
theorem dLw_law__287 : decode mLw_law_.2.1 287 = .ok (.iconst 0, 1) := by decide +kernel
theorem dLw_law__288 : decode mLw_law_.2.1 288 = .ok (.ireturn, 1) := by decide +kernel
theorem dLw_law__289 : decode mLw_law_.2.1 289 = .ok (.iload 5, 2) := by decide +kernel
theorem dLw_law__291 : decode mLw_law_.2.1 291 = .ok (.ifCond .ne 15, 3) := by decide +kernel
theorem dLw_law__294 : decode mLw_law_.2.1 294 = .ok (.aload_n 3, 1) := by decide +kernel
theorem dLw_law__295 : decode mLw_law_.2.1 295 = .ok (.iconst 0, 1) := by decide +kernel
theorem dLw_law__296 : decode mLw_law_.2.1 296 = .ok (.laload, 1) := by decide +kernel
theorem dLw_law__297 : decode mLw_law_.2.1 297 = .ok (.iload 6, 2) := by decide +kernel
theorem dLw_law__299 : decode mLw_law_.2.1 299 = .ok (.i2l, 1) := by decide +kernel
theorem dLw_law__300 : decode mLw_law_.2.1 300 = .ok (.lcmp, 1) := by decide +kernel
theorem dLw_law__301 : decode mLw_law_.2.1 301 = .ok (.ifCond .eq 5, 3) := by decide +kernel
theorem dLw_law__304 : decode mLw_law_.2.1 304 = .ok (.iconst 0, 1) := by decide +kernel
theorem dLw_law__305 : decode mLw_law_.2.1 305 = .ok (.ireturn, 1) := by decide +kernel
theorem dLw_law__306 : decode mLw_law_.2.1 306 = .ok (.goto 1537, 3) := by decide +kernel
theorem dLw_law__309 : decode mLw_law_.2.1 309 = .ok (.aload_n 1, 1) := by decide +kernel
theorem dLw_law__310 : decode mLw_law_.2.1 310 = .ok (.aload_n 0, 1) := by decide +kernel
theorem dLw_law__311 : decode mLw_law_.2.1 311 = .ok (.iload 4, 2) := by decide +kernel
theorem dLw_law__313 : decode mLw_law_.2.1 313 = .ok (.iconst 1, 1) := by decide +kernel
theorem dLw_law__314 : decode mLw_law_.2.1 314 = .ok (.iadd, 1) := by decide +kernel
theorem dLw_law__315 : decode mLw_law_.2.1 315 = .ok (.iaload, 1) := by decide +kernel
theorem dLw_law__316 : decode mLw_law_.2.1 316 = .ok (.aload_n 3, 1) := by decide +kernel
theorem dLw_law__317 : decode mLw_law_.2.1 317 = .ok (.invokestatic 109, 3) := by decide +kernel
theorem dLw_law__320 : decode mLw_law_.2.1 320 = .ok (.istore 5, 2) := by decide +kernel
theorem dLw_law__322 : decode mLw_law_.2.1 322 = .ok (.aload_n 2, 1) := by decide +kernel
theorem dLw_law__323 : decode mLw_law_.2.1 323 = .ok (.aload_n 0, 1) := by decide +kernel
theorem dLw_law__324 : decode mLw_law_.2.1 324 = .ok (.iload 4, 2) := by decide +kernel
theorem dLw_law__326 : decode mLw_law_.2.1 326 = .ok (.iconst 1, 1) := by decide +kernel
theorem dLw_law__327 : decode mLw_law_.2.1 327 = .ok (.iadd, 1) := by decide +kernel
theorem dLw_law__328 : decode mLw_law_.2.1 328 = .ok (.iaload, 1) := by decide +kernel
theorem dLw_law__329 : decode mLw_law_.2.1 329 = .ok (.invokevirtual 111, 3) := by decide +kernel
theorem dLw_law__332 : decode mLw_law_.2.1 332 = .ok (.istore 6, 2) := by decide +kernel
theorem dLw_law__334 : decode mLw_law_.2.1 334 = .ok (.aload_n 2, 1) := by decide +kernel
theorem dLw_law__335 : decode mLw_law_.2.1 335 = .ok (.invokevirtual 105, 3) := by decide +kernel
theorem dLw_law__338 : decode mLw_law_.2.1 338 = .ok (.iload 5, 2) := by decide +kernel
theorem dLw_law__340 : decode mLw_law_.2.1 340 = .ok (.if_icmp .eq 5, 3) := by decide +kernel
theorem dLw_law__343 : decode mLw_law_.2.1 343 = .ok (.iconst 0, 1) := by decide +kernel
theorem dLw_law__344 : decode mLw_law_.2.1 344 = .ok (.ireturn, 1) := by decide +kernel
theorem dLw_law__345 : decode mLw_law_.2.1 345 = .ok (.iload 5, 2) := by decide +kernel
theorem dLw_law__347 : decode mLw_law_.2.1 347 = .ok (.ifCond .ne 15, 3) := by decide +kernel
theorem dLw_law__350 : decode mLw_law_.2.1 350 = .ok (.aload_n 3, 1) := by decide +kernel
theorem dLw_law__351 : decode mLw_law_.2.1 351 = .ok (.iconst 0, 1) := by decide +kernel
theorem dLw_law__352 : decode mLw_law_.2.1 352 = .ok (.laload, 1) := by decide +kernel
theorem dLw_law__353 : decode mLw_law_.2.1 353 = .ok (.iload 6, 2) := by decide +kernel
theorem dLw_law__355 : decode mLw_law_.2.1 355 = .ok (.i2l, 1) := by decide +kernel
theorem dLw_law__356 : decode mLw_law_.2.1 356 = .ok (.lcmp, 1) := by decide +kernel
theorem dLw_law__357 : decode mLw_law_.2.1 357 = .ok (.ifCond .eq 5, 3) := by decide +kernel
theorem dLw_law__360 : decode mLw_law_.2.1 360 = .ok (.iconst 0, 1) := by decide +kernel
theorem dLw_law__361 : decode mLw_law_.2.1 361 = .ok (.ireturn, 1) := by decide +kernel
theorem dLw_law__362 : decode mLw_law_.2.1 362 = .ok (.goto 1481, 3) := by decide +kernel
theorem dLw_law__365 : decode mLw_law_.2.1 365 = .ok (.aload_n 1, 1) := by decide +kernel
theorem dLw_law__366 : decode mLw_law_.2.1 366 = .ok (.invokevirtual 112, 3) := by decide +kernel
theorem dLw_law__369 : decode mLw_law_.2.1 369 = .ok (.aload_n 2, 1) := by decide +kernel
theorem dLw_law__370 : decode mLw_law_.2.1 370 = .ok (.invokevirtual 115, 3) := by decide +kernel
theorem dLw_law__373 : decode mLw_law_.2.1 373 = .ok (.if_icmp .eq 1470, 3) := by decide +kernel
theorem dLw_law__376 : decode mLw_law_.2.1 376 = .ok (.iconst 0, 1) := by decide +kernel
theorem dLw_law__377 : decode mLw_law_.2.1 377 = .ok (.ireturn, 1) := by decide +kernel
theorem dLw_law__378 : decode mLw_law_.2.1 378 = .ok (.aload_n 1, 1) := by decide +kernel
theorem dLw_law__379 : decode mLw_law_.2.1 379 = .ok (.aload_n 0, 1) := by decide +kernel
theorem dLw_law__380 : decode mLw_law_.2.1 380 = .ok (.iload 4, 2) := by decide +kernel
theorem dLw_law__382 : decode mLw_law_.2.1 382 = .ok (.iconst 1, 1) := by decide +kernel
theorem dLw_law__383 : decode mLw_law_.2.1 383 = .ok (.iadd, 1) := by decide +kernel
theorem dLw_law__384 : decode mLw_law_.2.1 384 = .ok (.iaload, 1) := by decide +kernel
theorem dLw_law__385 : decode mLw_law_.2.1 385 = .ok (.aload_n 3, 1) := by decide +kernel
theorem dLw_law__386 : decode mLw_law_.2.1 386 = .ok (.invokestatic 116, 3) := by decide +kernel
theorem dLw_law__389 : decode mLw_law_.2.1 389 = .ok (.istore 5, 2) := by decide +kernel
theorem dLw_law__391 : decode mLw_law_.2.1 391 = .ok (.aload_n 2, 1) := by decide +kernel
theorem dLw_law__392 : decode mLw_law_.2.1 392 = .ok (.aload_n 0, 1) := by decide +kernel
theorem dLw_law__393 : decode mLw_law_.2.1 393 = .ok (.iload 4, 2) := by decide +kernel
theorem dLw_law__395 : decode mLw_law_.2.1 395 = .ok (.iconst 1, 1) := by decide +kernel
theorem dLw_law__396 : decode mLw_law_.2.1 396 = .ok (.iadd, 1) := by decide +kernel
theorem dLw_law__397 : decode mLw_law_.2.1 397 = .ok (.iaload, 1) := by decide +kernel
theorem dLw_law__398 : decode mLw_law_.2.1 398 = .ok (.invokevirtual 118, 3) := by decide +kernel
theorem dLw_law__401 : decode mLw_law_.2.1 401 = .ok (.istore 6, 2) := by decide +kernel
theorem dLw_law__403 : decode mLw_law_.2.1 403 = .ok (.aload_n 2, 1) := by decide +kernel
theorem dLw_law__404 : decode mLw_law_.2.1 404 = .ok (.invokevirtual 105, 3) := by decide +kernel
theorem dLw_law__407 : decode mLw_law_.2.1 407 = .ok (.iload 5, 2) := by decide +kernel
theorem dLw_law__409 : decode mLw_law_.2.1 409 = .ok (.if_icmp .eq 5, 3) := by decide +kernel
theorem dLw_law__412 : decode mLw_law_.2.1 412 = .ok (.iconst 0, 1) := by decide +kernel
theorem dLw_law__413 : decode mLw_law_.2.1 413 = .ok (.ireturn, 1) := by decide +kernel
theorem dLw_law__414 : decode mLw_law_.2.1 414 = .ok (.iload 5, 2) := by decide +kernel
theorem dLw_law__416 : decode mLw_law_.2.1 416 = .ok (.ifCond .ne 15, 3) := by decide +kernel
theorem dLw_law__419 : decode mLw_law_.2.1 419 = .ok (.aload_n 3, 1) := by decide +kernel
theorem dLw_law__420 : decode mLw_law_.2.1 420 = .ok (.iconst 0, 1) := by decide +kernel
theorem dLw_law__421 : decode mLw_law_.2.1 421 = .ok (.laload, 1) := by decide +kernel
theorem dLw_law__422 : decode mLw_law_.2.1 422 = .ok (.iload 6, 2) := by decide +kernel
theorem dLw_law__424 : decode mLw_law_.2.1 424 = .ok (.i2l, 1) := by decide +kernel
theorem dLw_law__425 : decode mLw_law_.2.1 425 = .ok (.lcmp, 1) := by decide +kernel
theorem dLw_law__426 : decode mLw_law_.2.1 426 = .ok (.ifCond .eq 5, 3) := by decide +kernel
theorem dLw_law__429 : decode mLw_law_.2.1 429 = .ok (.iconst 0, 1) := by decide +kernel
theorem dLw_law__430 : decode mLw_law_.2.1 430 = .ok (.ireturn, 1) := by decide +kernel
theorem dLw_law__431 : decode mLw_law_.2.1 431 = .ok (.goto 1412, 3) := by decide +kernel
theorem dLw_law__434 : decode mLw_law_.2.1 434 = .ok (.aload_n 1, 1) := by decide +kernel
theorem dLw_law__435 : decode mLw_law_.2.1 435 = .ok (.aload_n 0, 1) := by decide +kernel
theorem dLw_law__436 : decode mLw_law_.2.1 436 = .ok (.iload 4, 2) := by decide +kernel
theorem dLw_law__438 : decode mLw_law_.2.1 438 = .ok (.iconst 1, 1) := by decide +kernel
theorem dLw_law__439 : decode mLw_law_.2.1 439 = .ok (.iadd, 1) := by decide +kernel
theorem dLw_law__440 : decode mLw_law_.2.1 440 = .ok (.iaload, 1) := by decide +kernel
theorem dLw_law__441 : decode mLw_law_.2.1 441 = .ok (.aload_n 0, 1) := by decide +kernel
theorem dLw_law__442 : decode mLw_law_.2.1 442 = .ok (.iload 4, 2) := by decide +kernel
theorem dLw_law__444 : decode mLw_law_.2.1 444 = .ok (.iconst 2, 1) := by decide +kernel
theorem dLw_law__445 : decode mLw_law_.2.1 445 = .ok (.iadd, 1) := by decide +kernel
theorem dLw_law__446 : decode mLw_law_.2.1 446 = .ok (.iaload, 1) := by decide +kernel
theorem dLw_law__447 : decode mLw_law_.2.1 447 = .ok (.aload_n 3, 1) := by decide +kernel
theorem dLw_law__448 : decode mLw_law_.2.1 448 = .ok (.invokestatic 119, 3) := by decide +kernel
theorem dLw_law__451 : decode mLw_law_.2.1 451 = .ok (.istore 5, 2) := by decide +kernel
theorem dLw_law__453 : decode mLw_law_.2.1 453 = .ok (.aload_n 2, 1) := by decide +kernel
theorem dLw_law__454 : decode mLw_law_.2.1 454 = .ok (.aload_n 0, 1) := by decide +kernel
theorem dLw_law__455 : decode mLw_law_.2.1 455 = .ok (.iload 4, 2) := by decide +kernel
theorem dLw_law__457 : decode mLw_law_.2.1 457 = .ok (.iconst 1, 1) := by decide +kernel
theorem dLw_law__458 : decode mLw_law_.2.1 458 = .ok (.iadd, 1) := by decide +kernel
theorem dLw_law__459 : decode mLw_law_.2.1 459 = .ok (.iaload, 1) := by decide +kernel
theorem dLw_law__460 : decode mLw_law_.2.1 460 = .ok (.aload_n 0, 1) := by decide +kernel
theorem dLw_law__461 : decode mLw_law_.2.1 461 = .ok (.iload 4, 2) := by decide +kernel
theorem dLw_law__463 : decode mLw_law_.2.1 463 = .ok (.iconst 2, 1) := by decide +kernel
theorem dLw_law__464 : decode mLw_law_.2.1 464 = .ok (.iadd, 1) := by decide +kernel
theorem dLw_law__465 : decode mLw_law_.2.1 465 = .ok (.iaload, 1) := by decide +kernel
theorem dLw_law__466 : decode mLw_law_.2.1 466 = .ok (.invokevirtual 122, 3) := by decide +kernel
theorem dLw_law__469 : decode mLw_law_.2.1 469 = .ok (.istore 6, 2) := by decide +kernel
theorem dLw_law__471 : decode mLw_law_.2.1 471 = .ok (.aload_n 2, 1) := by decide +kernel
theorem dLw_law__472 : decode mLw_law_.2.1 472 = .ok (.invokevirtual 105, 3) := by decide +kernel
theorem dLw_law__475 : decode mLw_law_.2.1 475 = .ok (.iload 5, 2) := by decide +kernel
theorem dLw_law__477 : decode mLw_law_.2.1 477 = .ok (.if_icmp .eq 5, 3) := by decide +kernel
theorem dLw_law__480 : decode mLw_law_.2.1 480 = .ok (.iconst 0, 1) := by decide +kernel
theorem dLw_law__481 : decode mLw_law_.2.1 481 = .ok (.ireturn, 1) := by decide +kernel
theorem dLw_law__482 : decode mLw_law_.2.1 482 = .ok (.iload 5, 2) := by decide +kernel
theorem dLw_law__484 : decode mLw_law_.2.1 484 = .ok (.ifCond .ne 15, 3) := by decide +kernel
theorem dLw_law__487 : decode mLw_law_.2.1 487 = .ok (.aload_n 3, 1) := by decide +kernel
theorem dLw_law__488 : decode mLw_law_.2.1 488 = .ok (.iconst 0, 1) := by decide +kernel
theorem dLw_law__489 : decode mLw_law_.2.1 489 = .ok (.laload, 1) := by decide +kernel
theorem dLw_law__490 : decode mLw_law_.2.1 490 = .ok (.iload 6, 2) := by decide +kernel
theorem dLw_law__492 : decode mLw_law_.2.1 492 = .ok (.i2l, 1) := by decide +kernel
theorem dLw_law__493 : decode mLw_law_.2.1 493 = .ok (.lcmp, 1) := by decide +kernel
theorem dLw_law__494 : decode mLw_law_.2.1 494 = .ok (.ifCond .eq 5, 3) := by decide +kernel
theorem dLw_law__497 : decode mLw_law_.2.1 497 = .ok (.iconst 0, 1) := by decide +kernel
theorem dLw_law__498 : decode mLw_law_.2.1 498 = .ok (.ireturn, 1) := by decide +kernel
theorem dLw_law__499 : decode mLw_law_.2.1 499 = .ok (.goto 1344, 3) := by decide +kernel
theorem dLw_law__502 : decode mLw_law_.2.1 502 = .ok (.aload_n 1, 1) := by decide +kernel
theorem dLw_law__503 : decode mLw_law_.2.1 503 = .ok (.aload_n 0, 1) := by decide +kernel
theorem dLw_law__504 : decode mLw_law_.2.1 504 = .ok (.iload 4, 2) := by decide +kernel
theorem dLw_law__506 : decode mLw_law_.2.1 506 = .ok (.iconst 1, 1) := by decide +kernel
theorem dLw_law__507 : decode mLw_law_.2.1 507 = .ok (.iadd, 1) := by decide +kernel
theorem dLw_law__508 : decode mLw_law_.2.1 508 = .ok (.iaload, 1) := by decide +kernel
theorem dLw_law__509 : decode mLw_law_.2.1 509 = .ok (.aload_n 0, 1) := by decide +kernel
theorem dLw_law__510 : decode mLw_law_.2.1 510 = .ok (.iload 4, 2) := by decide +kernel
theorem dLw_law__512 : decode mLw_law_.2.1 512 = .ok (.iconst 2, 1) := by decide +kernel
theorem dLw_law__513 : decode mLw_law_.2.1 513 = .ok (.iadd, 1) := by decide +kernel
theorem dLw_law__514 : decode mLw_law_.2.1 514 = .ok (.iaload, 1) := by decide +kernel
theorem dLw_law__515 : decode mLw_law_.2.1 515 = .ok (.aload_n 3, 1) := by decide +kernel
theorem dLw_law__516 : decode mLw_law_.2.1 516 = .ok (.invokestatic 123, 3) := by decide +kernel
theorem dLw_law__519 : decode mLw_law_.2.1 519 = .ok (.istore 5, 2) := by decide +kernel
theorem dLw_law__521 : decode mLw_law_.2.1 521 = .ok (.aload_n 2, 1) := by decide +kernel
theorem dLw_law__522 : decode mLw_law_.2.1 522 = .ok (.aload_n 0, 1) := by decide +kernel
theorem dLw_law__523 : decode mLw_law_.2.1 523 = .ok (.iload 4, 2) := by decide +kernel
theorem dLw_law__525 : decode mLw_law_.2.1 525 = .ok (.iconst 1, 1) := by decide +kernel
theorem dLw_law__526 : decode mLw_law_.2.1 526 = .ok (.iadd, 1) := by decide +kernel
theorem dLw_law__527 : decode mLw_law_.2.1 527 = .ok (.iaload, 1) := by decide +kernel
theorem dLw_law__528 : decode mLw_law_.2.1 528 = .ok (.aload_n 0, 1) := by decide +kernel
theorem dLw_law__529 : decode mLw_law_.2.1 529 = .ok (.iload 4, 2) := by decide +kernel
theorem dLw_law__531 : decode mLw_law_.2.1 531 = .ok (.iconst 2, 1) := by decide +kernel
theorem dLw_law__532 : decode mLw_law_.2.1 532 = .ok (.iadd, 1) := by decide +kernel
theorem dLw_law__533 : decode mLw_law_.2.1 533 = .ok (.iaload, 1) := by decide +kernel
theorem dLw_law__534 : decode mLw_law_.2.1 534 = .ok (.invokevirtual 125, 3) := by decide +kernel
theorem dLw_law__537 : decode mLw_law_.2.1 537 = .ok (.istore 6, 2) := by decide +kernel
theorem dLw_law__539 : decode mLw_law_.2.1 539 = .ok (.aload_n 2, 1) := by decide +kernel
theorem dLw_law__540 : decode mLw_law_.2.1 540 = .ok (.invokevirtual 105, 3) := by decide +kernel
theorem dLw_law__543 : decode mLw_law_.2.1 543 = .ok (.iload 5, 2) := by decide +kernel
theorem dLw_law__545 : decode mLw_law_.2.1 545 = .ok (.if_icmp .eq 5, 3) := by decide +kernel
theorem dLw_law__548 : decode mLw_law_.2.1 548 = .ok (.iconst 0, 1) := by decide +kernel
theorem dLw_law__549 : decode mLw_law_.2.1 549 = .ok (.ireturn, 1) := by decide +kernel
theorem dLw_law__550 : decode mLw_law_.2.1 550 = .ok (.iload 5, 2) := by decide +kernel
theorem dLw_law__552 : decode mLw_law_.2.1 552 = .ok (.ifCond .ne 15, 3) := by decide +kernel
theorem dLw_law__555 : decode mLw_law_.2.1 555 = .ok (.aload_n 3, 1) := by decide +kernel
theorem dLw_law__556 : decode mLw_law_.2.1 556 = .ok (.iconst 0, 1) := by decide +kernel
theorem dLw_law__557 : decode mLw_law_.2.1 557 = .ok (.laload, 1) := by decide +kernel
theorem dLw_law__558 : decode mLw_law_.2.1 558 = .ok (.iload 6, 2) := by decide +kernel
theorem dLw_law__560 : decode mLw_law_.2.1 560 = .ok (.i2l, 1) := by decide +kernel
theorem dLw_law__561 : decode mLw_law_.2.1 561 = .ok (.lcmp, 1) := by decide +kernel
theorem dLw_law__562 : decode mLw_law_.2.1 562 = .ok (.ifCond .eq 5, 3) := by decide +kernel
theorem dLw_law__565 : decode mLw_law_.2.1 565 = .ok (.iconst 0, 1) := by decide +kernel
theorem dLw_law__566 : decode mLw_law_.2.1 566 = .ok (.ireturn, 1) := by decide +kernel
theorem dLw_law__567 : decode mLw_law_.2.1 567 = .ok (.goto 1276, 3) := by decide +kernel
theorem dLw_law__570 : decode mLw_law_.2.1 570 = .ok (.aload_n 1, 1) := by decide +kernel
theorem dLw_law__571 : decode mLw_law_.2.1 571 = .ok (.aload_n 0, 1) := by decide +kernel
theorem dLw_law__572 : decode mLw_law_.2.1 572 = .ok (.iload 4, 2) := by decide +kernel
theorem dLw_law__574 : decode mLw_law_.2.1 574 = .ok (.iconst 1, 1) := by decide +kernel
theorem dLw_law__575 : decode mLw_law_.2.1 575 = .ok (.iadd, 1) := by decide +kernel
theorem dLw_law__576 : decode mLw_law_.2.1 576 = .ok (.iaload, 1) := by decide +kernel
theorem dLw_law__577 : decode mLw_law_.2.1 577 = .ok (.aload_n 0, 1) := by decide +kernel
theorem dLw_law__578 : decode mLw_law_.2.1 578 = .ok (.iload 4, 2) := by decide +kernel
theorem dLw_law__580 : decode mLw_law_.2.1 580 = .ok (.iconst 2, 1) := by decide +kernel
theorem dLw_law__581 : decode mLw_law_.2.1 581 = .ok (.iadd, 1) := by decide +kernel
theorem dLw_law__582 : decode mLw_law_.2.1 582 = .ok (.iaload, 1) := by decide +kernel
theorem dLw_law__583 : decode mLw_law_.2.1 583 = .ok (.aload_n 3, 1) := by decide +kernel
theorem dLw_law__584 : decode mLw_law_.2.1 584 = .ok (.invokestatic 126, 3) := by decide +kernel
theorem dLw_law__587 : decode mLw_law_.2.1 587 = .ok (.istore 5, 2) := by decide +kernel
theorem dLw_law__589 : decode mLw_law_.2.1 589 = .ok (.aload_n 2, 1) := by decide +kernel
theorem dLw_law__590 : decode mLw_law_.2.1 590 = .ok (.aload_n 0, 1) := by decide +kernel
theorem dLw_law__591 : decode mLw_law_.2.1 591 = .ok (.iload 4, 2) := by decide +kernel
theorem dLw_law__593 : decode mLw_law_.2.1 593 = .ok (.iconst 1, 1) := by decide +kernel
theorem dLw_law__594 : decode mLw_law_.2.1 594 = .ok (.iadd, 1) := by decide +kernel
theorem dLw_law__595 : decode mLw_law_.2.1 595 = .ok (.iaload, 1) := by decide +kernel
theorem dLw_law__596 : decode mLw_law_.2.1 596 = .ok (.aload_n 0, 1) := by decide +kernel
theorem dLw_law__597 : decode mLw_law_.2.1 597 = .ok (.iload 4, 2) := by decide +kernel
theorem dLw_law__599 : decode mLw_law_.2.1 599 = .ok (.iconst 2, 1) := by decide +kernel
theorem dLw_law__600 : decode mLw_law_.2.1 600 = .ok (.iadd, 1) := by decide +kernel
theorem dLw_law__601 : decode mLw_law_.2.1 601 = .ok (.iaload, 1) := by decide +kernel
theorem dLw_law__602 : decode mLw_law_.2.1 602 = .ok (.invokevirtual 128, 3) := by decide +kernel
theorem dLw_law__605 : decode mLw_law_.2.1 605 = .ok (.istore 6, 2) := by decide +kernel
theorem dLw_law__607 : decode mLw_law_.2.1 607 = .ok (.aload_n 2, 1) := by decide +kernel
theorem dLw_law__608 : decode mLw_law_.2.1 608 = .ok (.invokevirtual 105, 3) := by decide +kernel
theorem dLw_law__611 : decode mLw_law_.2.1 611 = .ok (.iload 5, 2) := by decide +kernel
theorem dLw_law__613 : decode mLw_law_.2.1 613 = .ok (.if_icmp .eq 5, 3) := by decide +kernel
theorem dLw_law__616 : decode mLw_law_.2.1 616 = .ok (.iconst 0, 1) := by decide +kernel
theorem dLw_law__617 : decode mLw_law_.2.1 617 = .ok (.ireturn, 1) := by decide +kernel
theorem dLw_law__618 : decode mLw_law_.2.1 618 = .ok (.iload 5, 2) := by decide +kernel
theorem dLw_law__620 : decode mLw_law_.2.1 620 = .ok (.ifCond .ne 15, 3) := by decide +kernel
theorem dLw_law__623 : decode mLw_law_.2.1 623 = .ok (.aload_n 3, 1) := by decide +kernel
theorem dLw_law__624 : decode mLw_law_.2.1 624 = .ok (.iconst 0, 1) := by decide +kernel
theorem dLw_law__625 : decode mLw_law_.2.1 625 = .ok (.laload, 1) := by decide +kernel
theorem dLw_law__626 : decode mLw_law_.2.1 626 = .ok (.iload 6, 2) := by decide +kernel
theorem dLw_law__628 : decode mLw_law_.2.1 628 = .ok (.i2l, 1) := by decide +kernel
theorem dLw_law__629 : decode mLw_law_.2.1 629 = .ok (.lcmp, 1) := by decide +kernel
theorem dLw_law__630 : decode mLw_law_.2.1 630 = .ok (.ifCond .eq 5, 3) := by decide +kernel
theorem dLw_law__633 : decode mLw_law_.2.1 633 = .ok (.iconst 0, 1) := by decide +kernel
theorem dLw_law__634 : decode mLw_law_.2.1 634 = .ok (.ireturn, 1) := by decide +kernel
theorem dLw_law__635 : decode mLw_law_.2.1 635 = .ok (.goto 1208, 3) := by decide +kernel
theorem dLw_law__638 : decode mLw_law_.2.1 638 = .ok (.aload_n 1, 1) := by decide +kernel
theorem dLw_law__639 : decode mLw_law_.2.1 639 = .ok (.aload_n 0, 1) := by decide +kernel
theorem dLw_law__640 : decode mLw_law_.2.1 640 = .ok (.iload 4, 2) := by decide +kernel
theorem dLw_law__642 : decode mLw_law_.2.1 642 = .ok (.iconst 1, 1) := by decide +kernel
theorem dLw_law__643 : decode mLw_law_.2.1 643 = .ok (.iadd, 1) := by decide +kernel
theorem dLw_law__644 : decode mLw_law_.2.1 644 = .ok (.iaload, 1) := by decide +kernel
theorem dLw_law__645 : decode mLw_law_.2.1 645 = .ok (.aload_n 0, 1) := by decide +kernel
theorem dLw_law__646 : decode mLw_law_.2.1 646 = .ok (.iload 4, 2) := by decide +kernel
theorem dLw_law__648 : decode mLw_law_.2.1 648 = .ok (.iconst 2, 1) := by decide +kernel
theorem dLw_law__649 : decode mLw_law_.2.1 649 = .ok (.iadd, 1) := by decide +kernel
theorem dLw_law__650 : decode mLw_law_.2.1 650 = .ok (.iaload, 1) := by decide +kernel
theorem dLw_law__651 : decode mLw_law_.2.1 651 = .ok (.aload_n 0, 1) := by decide +kernel
theorem dLw_law__652 : decode mLw_law_.2.1 652 = .ok (.iload 4, 2) := by decide +kernel
theorem dLw_law__654 : decode mLw_law_.2.1 654 = .ok (.iconst 3, 1) := by decide +kernel
theorem dLw_law__655 : decode mLw_law_.2.1 655 = .ok (.iadd, 1) := by decide +kernel
theorem dLw_law__656 : decode mLw_law_.2.1 656 = .ok (.iaload, 1) := by decide +kernel
theorem dLw_law__657 : decode mLw_law_.2.1 657 = .ok (.aload_n 3, 1) := by decide +kernel
theorem dLw_law__658 : decode mLw_law_.2.1 658 = .ok (.invokestatic 129, 3) := by decide +kernel
theorem dLw_law__661 : decode mLw_law_.2.1 661 = .ok (.istore 5, 2) := by decide +kernel
theorem dLw_law__663 : decode mLw_law_.2.1 663 = .ok (.aload_n 2, 1) := by decide +kernel
theorem dLw_law__664 : decode mLw_law_.2.1 664 = .ok (.aload_n 0, 1) := by decide +kernel
theorem dLw_law__665 : decode mLw_law_.2.1 665 = .ok (.iload 4, 2) := by decide +kernel
theorem dLw_law__667 : decode mLw_law_.2.1 667 = .ok (.iconst 1, 1) := by decide +kernel
theorem dLw_law__668 : decode mLw_law_.2.1 668 = .ok (.iadd, 1) := by decide +kernel
theorem dLw_law__669 : decode mLw_law_.2.1 669 = .ok (.iaload, 1) := by decide +kernel
theorem dLw_law__670 : decode mLw_law_.2.1 670 = .ok (.aload_n 0, 1) := by decide +kernel
theorem dLw_law__671 : decode mLw_law_.2.1 671 = .ok (.iload 4, 2) := by decide +kernel
theorem dLw_law__673 : decode mLw_law_.2.1 673 = .ok (.iconst 2, 1) := by decide +kernel
theorem dLw_law__674 : decode mLw_law_.2.1 674 = .ok (.iadd, 1) := by decide +kernel
theorem dLw_law__675 : decode mLw_law_.2.1 675 = .ok (.iaload, 1) := by decide +kernel
theorem dLw_law__676 : decode mLw_law_.2.1 676 = .ok (.aload_n 0, 1) := by decide +kernel
theorem dLw_law__677 : decode mLw_law_.2.1 677 = .ok (.iload 4, 2) := by decide +kernel
theorem dLw_law__679 : decode mLw_law_.2.1 679 = .ok (.iconst 3, 1) := by decide +kernel
theorem dLw_law__680 : decode mLw_law_.2.1 680 = .ok (.iadd, 1) := by decide +kernel
theorem dLw_law__681 : decode mLw_law_.2.1 681 = .ok (.iaload, 1) := by decide +kernel
theorem dLw_law__682 : decode mLw_law_.2.1 682 = .ok (.invokevirtual 132, 3) := by decide +kernel
theorem dLw_law__685 : decode mLw_law_.2.1 685 = .ok (.istore 6, 2) := by decide +kernel
theorem dLw_law__687 : decode mLw_law_.2.1 687 = .ok (.aload_n 2, 1) := by decide +kernel
theorem dLw_law__688 : decode mLw_law_.2.1 688 = .ok (.invokevirtual 105, 3) := by decide +kernel
theorem dLw_law__691 : decode mLw_law_.2.1 691 = .ok (.iload 5, 2) := by decide +kernel
theorem dLw_law__693 : decode mLw_law_.2.1 693 = .ok (.if_icmp .eq 5, 3) := by decide +kernel
theorem dLw_law__696 : decode mLw_law_.2.1 696 = .ok (.iconst 0, 1) := by decide +kernel
theorem dLw_law__697 : decode mLw_law_.2.1 697 = .ok (.ireturn, 1) := by decide +kernel
theorem dLw_law__698 : decode mLw_law_.2.1 698 = .ok (.iload 5, 2) := by decide +kernel
theorem dLw_law__700 : decode mLw_law_.2.1 700 = .ok (.ifCond .ne 22, 3) := by decide +kernel
theorem dLw_law__703 : decode mLw_law_.2.1 703 = .ok (.aload_n 3, 1) := by decide +kernel
theorem dLw_law__704 : decode mLw_law_.2.1 704 = .ok (.iconst 0, 1) := by decide +kernel
theorem dLw_law__705 : decode mLw_law_.2.1 705 = .ok (.laload, 1) := by decide +kernel
theorem dLw_law__706 : decode mLw_law_.2.1 706 = .ok (.iload 6, 2) := by decide +kernel
theorem dLw_law__708 : decode mLw_law_.2.1 708 = .ok (.ifCond .eq 7, 3) := by decide +kernel
theorem dLw_law__711 : decode mLw_law_.2.1 711 = .ok (.lconst 1, 1) := by decide +kernel
theorem dLw_law__712 : decode mLw_law_.2.1 712 = .ok (.goto 4, 3) := by decide +kernel
theorem dLw_law__715 : decode mLw_law_.2.1 715 = .ok (.lconst 0, 1) := by decide +kernel
theorem dLw_law__716 : decode mLw_law_.2.1 716 = .ok (.lcmp, 1) := by decide +kernel
theorem dLw_law__717 : decode mLw_law_.2.1 717 = .ok (.ifCond .eq 5, 3) := by decide +kernel
theorem dLw_law__720 : decode mLw_law_.2.1 720 = .ok (.iconst 0, 1) := by decide +kernel
theorem dLw_law__721 : decode mLw_law_.2.1 721 = .ok (.ireturn, 1) := by decide +kernel
theorem dLw_law__722 : decode mLw_law_.2.1 722 = .ok (.goto 1121, 3) := by decide +kernel
theorem dLw_law__725 : decode mLw_law_.2.1 725 = .ok (.aload_n 1, 1) := by decide +kernel
theorem dLw_law__726 : decode mLw_law_.2.1 726 = .ok (.aload_n 0, 1) := by decide +kernel
theorem dLw_law__727 : decode mLw_law_.2.1 727 = .ok (.iload 4, 2) := by decide +kernel
theorem dLw_law__729 : decode mLw_law_.2.1 729 = .ok (.iconst 1, 1) := by decide +kernel
theorem dLw_law__730 : decode mLw_law_.2.1 730 = .ok (.iadd, 1) := by decide +kernel
theorem dLw_law__731 : decode mLw_law_.2.1 731 = .ok (.iaload, 1) := by decide +kernel
theorem dLw_law__732 : decode mLw_law_.2.1 732 = .ok (.aload_n 0, 1) := by decide +kernel
theorem dLw_law__733 : decode mLw_law_.2.1 733 = .ok (.iload 4, 2) := by decide +kernel
theorem dLw_law__735 : decode mLw_law_.2.1 735 = .ok (.iconst 2, 1) := by decide +kernel
theorem dLw_law__736 : decode mLw_law_.2.1 736 = .ok (.iadd, 1) := by decide +kernel
theorem dLw_law__737 : decode mLw_law_.2.1 737 = .ok (.iaload, 1) := by decide +kernel
theorem dLw_law__738 : decode mLw_law_.2.1 738 = .ok (.aload_n 0, 1) := by decide +kernel
theorem dLw_law__739 : decode mLw_law_.2.1 739 = .ok (.iload 4, 2) := by decide +kernel
theorem dLw_law__741 : decode mLw_law_.2.1 741 = .ok (.iconst 3, 1) := by decide +kernel
theorem dLw_law__742 : decode mLw_law_.2.1 742 = .ok (.iadd, 1) := by decide +kernel
theorem dLw_law__743 : decode mLw_law_.2.1 743 = .ok (.iaload, 1) := by decide +kernel
theorem dLw_law__744 : decode mLw_law_.2.1 744 = .ok (.aload_n 3, 1) := by decide +kernel
theorem dLw_law__745 : decode mLw_law_.2.1 745 = .ok (.invokestatic 133, 3) := by decide +kernel
theorem dLw_law__748 : decode mLw_law_.2.1 748 = .ok (.istore 5, 2) := by decide +kernel
theorem dLw_law__750 : decode mLw_law_.2.1 750 = .ok (.aload_n 2, 1) := by decide +kernel
theorem dLw_law__751 : decode mLw_law_.2.1 751 = .ok (.aload_n 0, 1) := by decide +kernel
theorem dLw_law__752 : decode mLw_law_.2.1 752 = .ok (.iload 4, 2) := by decide +kernel
theorem dLw_law__754 : decode mLw_law_.2.1 754 = .ok (.iconst 1, 1) := by decide +kernel
theorem dLw_law__755 : decode mLw_law_.2.1 755 = .ok (.iadd, 1) := by decide +kernel
theorem dLw_law__756 : decode mLw_law_.2.1 756 = .ok (.iaload, 1) := by decide +kernel
theorem dLw_law__757 : decode mLw_law_.2.1 757 = .ok (.aload_n 0, 1) := by decide +kernel
theorem dLw_law__758 : decode mLw_law_.2.1 758 = .ok (.iload 4, 2) := by decide +kernel
theorem dLw_law__760 : decode mLw_law_.2.1 760 = .ok (.iconst 2, 1) := by decide +kernel
theorem dLw_law__761 : decode mLw_law_.2.1 761 = .ok (.iadd, 1) := by decide +kernel
theorem dLw_law__762 : decode mLw_law_.2.1 762 = .ok (.iaload, 1) := by decide +kernel
theorem dLw_law__763 : decode mLw_law_.2.1 763 = .ok (.aload_n 0, 1) := by decide +kernel
theorem dLw_law__764 : decode mLw_law_.2.1 764 = .ok (.iload 4, 2) := by decide +kernel
theorem dLw_law__766 : decode mLw_law_.2.1 766 = .ok (.iconst 3, 1) := by decide +kernel
theorem dLw_law__767 : decode mLw_law_.2.1 767 = .ok (.iadd, 1) := by decide +kernel
theorem dLw_law__768 : decode mLw_law_.2.1 768 = .ok (.iaload, 1) := by decide +kernel
theorem dLw_law__769 : decode mLw_law_.2.1 769 = .ok (.invokevirtual 135, 3) := by decide +kernel
theorem dLw_law__772 : decode mLw_law_.2.1 772 = .ok (.istore 6, 2) := by decide +kernel
theorem dLw_law__774 : decode mLw_law_.2.1 774 = .ok (.aload_n 2, 1) := by decide +kernel
theorem dLw_law__775 : decode mLw_law_.2.1 775 = .ok (.invokevirtual 105, 3) := by decide +kernel
theorem dLw_law__778 : decode mLw_law_.2.1 778 = .ok (.iload 5, 2) := by decide +kernel
theorem dLw_law__780 : decode mLw_law_.2.1 780 = .ok (.if_icmp .eq 5, 3) := by decide +kernel
theorem dLw_law__783 : decode mLw_law_.2.1 783 = .ok (.iconst 0, 1) := by decide +kernel
theorem dLw_law__784 : decode mLw_law_.2.1 784 = .ok (.ireturn, 1) := by decide +kernel
theorem dLw_law__785 : decode mLw_law_.2.1 785 = .ok (.iload 5, 2) := by decide +kernel
theorem dLw_law__787 : decode mLw_law_.2.1 787 = .ok (.ifCond .ne 15, 3) := by decide +kernel
theorem dLw_law__790 : decode mLw_law_.2.1 790 = .ok (.aload_n 3, 1) := by decide +kernel
theorem dLw_law__791 : decode mLw_law_.2.1 791 = .ok (.iconst 0, 1) := by decide +kernel
theorem dLw_law__792 : decode mLw_law_.2.1 792 = .ok (.laload, 1) := by decide +kernel
theorem dLw_law__793 : decode mLw_law_.2.1 793 = .ok (.iload 6, 2) := by decide +kernel
theorem dLw_law__795 : decode mLw_law_.2.1 795 = .ok (.i2l, 1) := by decide +kernel
theorem dLw_law__796 : decode mLw_law_.2.1 796 = .ok (.lcmp, 1) := by decide +kernel
theorem dLw_law__797 : decode mLw_law_.2.1 797 = .ok (.ifCond .eq 5, 3) := by decide +kernel
theorem dLw_law__800 : decode mLw_law_.2.1 800 = .ok (.iconst 0, 1) := by decide +kernel
theorem dLw_law__801 : decode mLw_law_.2.1 801 = .ok (.ireturn, 1) := by decide +kernel
theorem dLw_law__802 : decode mLw_law_.2.1 802 = .ok (.goto 1041, 3) := by decide +kernel
theorem dLw_law__805 : decode mLw_law_.2.1 805 = .ok (.aload_n 1, 1) := by decide +kernel
theorem dLw_law__806 : decode mLw_law_.2.1 806 = .ok (.aload_n 0, 1) := by decide +kernel
theorem dLw_law__807 : decode mLw_law_.2.1 807 = .ok (.iload 4, 2) := by decide +kernel
theorem dLw_law__809 : decode mLw_law_.2.1 809 = .ok (.iconst 1, 1) := by decide +kernel
theorem dLw_law__810 : decode mLw_law_.2.1 810 = .ok (.iadd, 1) := by decide +kernel
theorem dLw_law__811 : decode mLw_law_.2.1 811 = .ok (.iaload, 1) := by decide +kernel
theorem dLw_law__812 : decode mLw_law_.2.1 812 = .ok (.aload_n 3, 1) := by decide +kernel
theorem dLw_law__813 : decode mLw_law_.2.1 813 = .ok (.invokestatic 136, 3) := by decide +kernel
theorem dLw_law__816 : decode mLw_law_.2.1 816 = .ok (.istore 5, 2) := by decide +kernel
theorem dLw_law__818 : decode mLw_law_.2.1 818 = .ok (.aload_n 2, 1) := by decide +kernel
theorem dLw_law__819 : decode mLw_law_.2.1 819 = .ok (.aload_n 0, 1) := by decide +kernel
theorem dLw_law__820 : decode mLw_law_.2.1 820 = .ok (.iload 4, 2) := by decide +kernel
theorem dLw_law__822 : decode mLw_law_.2.1 822 = .ok (.iconst 1, 1) := by decide +kernel
theorem dLw_law__823 : decode mLw_law_.2.1 823 = .ok (.iadd, 1) := by decide +kernel
theorem dLw_law__824 : decode mLw_law_.2.1 824 = .ok (.iaload, 1) := by decide +kernel
theorem dLw_law__825 : decode mLw_law_.2.1 825 = .ok (.invokevirtual 138, 3) := by decide +kernel
theorem dLw_law__828 : decode mLw_law_.2.1 828 = .ok (.istore 6, 2) := by decide +kernel
theorem dLw_law__830 : decode mLw_law_.2.1 830 = .ok (.aload_n 2, 1) := by decide +kernel
theorem dLw_law__831 : decode mLw_law_.2.1 831 = .ok (.invokevirtual 105, 3) := by decide +kernel
theorem dLw_law__834 : decode mLw_law_.2.1 834 = .ok (.iload 5, 2) := by decide +kernel
theorem dLw_law__836 : decode mLw_law_.2.1 836 = .ok (.if_icmp .eq 5, 3) := by decide +kernel
theorem dLw_law__839 : decode mLw_law_.2.1 839 = .ok (.iconst 0, 1) := by decide +kernel
theorem dLw_law__840 : decode mLw_law_.2.1 840 = .ok (.ireturn, 1) := by decide +kernel
theorem dLw_law__841 : decode mLw_law_.2.1 841 = .ok (.iload 5, 2) := by decide +kernel
theorem dLw_law__843 : decode mLw_law_.2.1 843 = .ok (.ifCond .ne 15, 3) := by decide +kernel
theorem dLw_law__846 : decode mLw_law_.2.1 846 = .ok (.aload_n 3, 1) := by decide +kernel
theorem dLw_law__847 : decode mLw_law_.2.1 847 = .ok (.iconst 0, 1) := by decide +kernel
theorem dLw_law__848 : decode mLw_law_.2.1 848 = .ok (.laload, 1) := by decide +kernel
theorem dLw_law__849 : decode mLw_law_.2.1 849 = .ok (.iload 6, 2) := by decide +kernel
theorem dLw_law__851 : decode mLw_law_.2.1 851 = .ok (.i2l, 1) := by decide +kernel
theorem dLw_law__852 : decode mLw_law_.2.1 852 = .ok (.lcmp, 1) := by decide +kernel
theorem dLw_law__853 : decode mLw_law_.2.1 853 = .ok (.ifCond .eq 5, 3) := by decide +kernel
theorem dLw_law__856 : decode mLw_law_.2.1 856 = .ok (.iconst 0, 1) := by decide +kernel
theorem dLw_law__857 : decode mLw_law_.2.1 857 = .ok (.ireturn, 1) := by decide +kernel
theorem dLw_law__858 : decode mLw_law_.2.1 858 = .ok (.goto 985, 3) := by decide +kernel
theorem dLw_law__861 : decode mLw_law_.2.1 861 = .ok (.aload_n 1, 1) := by decide +kernel
theorem dLw_law__862 : decode mLw_law_.2.1 862 = .ok (.aload_n 0, 1) := by decide +kernel
theorem dLw_law__863 : decode mLw_law_.2.1 863 = .ok (.iload 4, 2) := by decide +kernel
theorem dLw_law__865 : decode mLw_law_.2.1 865 = .ok (.iconst 1, 1) := by decide +kernel
theorem dLw_law__866 : decode mLw_law_.2.1 866 = .ok (.iadd, 1) := by decide +kernel
theorem dLw_law__867 : decode mLw_law_.2.1 867 = .ok (.iaload, 1) := by decide +kernel
theorem dLw_law__868 : decode mLw_law_.2.1 868 = .ok (.aload_n 0, 1) := by decide +kernel
theorem dLw_law__869 : decode mLw_law_.2.1 869 = .ok (.iload 4, 2) := by decide +kernel
theorem dLw_law__871 : decode mLw_law_.2.1 871 = .ok (.iconst 2, 1) := by decide +kernel
theorem dLw_law__872 : decode mLw_law_.2.1 872 = .ok (.iadd, 1) := by decide +kernel
theorem dLw_law__873 : decode mLw_law_.2.1 873 = .ok (.iaload, 1) := by decide +kernel
theorem dLw_law__874 : decode mLw_law_.2.1 874 = .ok (.aload_n 3, 1) := by decide +kernel
theorem dLw_law__875 : decode mLw_law_.2.1 875 = .ok (.invokestatic 139, 3) := by decide +kernel
theorem dLw_law__878 : decode mLw_law_.2.1 878 = .ok (.istore 5, 2) := by decide +kernel
theorem dLw_law__880 : decode mLw_law_.2.1 880 = .ok (.aload_n 2, 1) := by decide +kernel
theorem dLw_law__881 : decode mLw_law_.2.1 881 = .ok (.aload_n 0, 1) := by decide +kernel
theorem dLw_law__882 : decode mLw_law_.2.1 882 = .ok (.iload 4, 2) := by decide +kernel
theorem dLw_law__884 : decode mLw_law_.2.1 884 = .ok (.iconst 1, 1) := by decide +kernel
theorem dLw_law__885 : decode mLw_law_.2.1 885 = .ok (.iadd, 1) := by decide +kernel
theorem dLw_law__886 : decode mLw_law_.2.1 886 = .ok (.iaload, 1) := by decide +kernel
theorem dLw_law__887 : decode mLw_law_.2.1 887 = .ok (.aload_n 0, 1) := by decide +kernel
theorem dLw_law__888 : decode mLw_law_.2.1 888 = .ok (.iload 4, 2) := by decide +kernel
theorem dLw_law__890 : decode mLw_law_.2.1 890 = .ok (.iconst 2, 1) := by decide +kernel
theorem dLw_law__891 : decode mLw_law_.2.1 891 = .ok (.iadd, 1) := by decide +kernel
theorem dLw_law__892 : decode mLw_law_.2.1 892 = .ok (.iaload, 1) := by decide +kernel
theorem dLw_law__893 : decode mLw_law_.2.1 893 = .ok (.invokevirtual 141, 3) := by decide +kernel
theorem dLw_law__896 : decode mLw_law_.2.1 896 = .ok (.istore 6, 2) := by decide +kernel
theorem dLw_law__898 : decode mLw_law_.2.1 898 = .ok (.aload_n 2, 1) := by decide +kernel
theorem dLw_law__899 : decode mLw_law_.2.1 899 = .ok (.invokevirtual 105, 3) := by decide +kernel
theorem dLw_law__902 : decode mLw_law_.2.1 902 = .ok (.iload 5, 2) := by decide +kernel
theorem dLw_law__904 : decode mLw_law_.2.1 904 = .ok (.if_icmp .eq 5, 3) := by decide +kernel
theorem dLw_law__907 : decode mLw_law_.2.1 907 = .ok (.iconst 0, 1) := by decide +kernel
theorem dLw_law__908 : decode mLw_law_.2.1 908 = .ok (.ireturn, 1) := by decide +kernel
theorem dLw_law__909 : decode mLw_law_.2.1 909 = .ok (.iload 5, 2) := by decide +kernel
theorem dLw_law__911 : decode mLw_law_.2.1 911 = .ok (.ifCond .ne 15, 3) := by decide +kernel
theorem dLw_law__914 : decode mLw_law_.2.1 914 = .ok (.aload_n 3, 1) := by decide +kernel
theorem dLw_law__915 : decode mLw_law_.2.1 915 = .ok (.iconst 0, 1) := by decide +kernel
theorem dLw_law__916 : decode mLw_law_.2.1 916 = .ok (.laload, 1) := by decide +kernel
theorem dLw_law__917 : decode mLw_law_.2.1 917 = .ok (.iload 6, 2) := by decide +kernel
theorem dLw_law__919 : decode mLw_law_.2.1 919 = .ok (.i2l, 1) := by decide +kernel
theorem dLw_law__920 : decode mLw_law_.2.1 920 = .ok (.lcmp, 1) := by decide +kernel
theorem dLw_law__921 : decode mLw_law_.2.1 921 = .ok (.ifCond .eq 5, 3) := by decide +kernel
theorem dLw_law__924 : decode mLw_law_.2.1 924 = .ok (.iconst 0, 1) := by decide +kernel
theorem dLw_law__925 : decode mLw_law_.2.1 925 = .ok (.ireturn, 1) := by decide +kernel
theorem dLw_law__926 : decode mLw_law_.2.1 926 = .ok (.goto 917, 3) := by decide +kernel
theorem dLw_law__929 : decode mLw_law_.2.1 929 = .ok (.aload_n 1, 1) := by decide +kernel
theorem dLw_law__930 : decode mLw_law_.2.1 930 = .ok (.aload_n 0, 1) := by decide +kernel
theorem dLw_law__931 : decode mLw_law_.2.1 931 = .ok (.iload 4, 2) := by decide +kernel
theorem dLw_law__933 : decode mLw_law_.2.1 933 = .ok (.iconst 1, 1) := by decide +kernel
theorem dLw_law__934 : decode mLw_law_.2.1 934 = .ok (.iadd, 1) := by decide +kernel
theorem dLw_law__935 : decode mLw_law_.2.1 935 = .ok (.iaload, 1) := by decide +kernel
theorem dLw_law__936 : decode mLw_law_.2.1 936 = .ok (.aload_n 0, 1) := by decide +kernel
theorem dLw_law__937 : decode mLw_law_.2.1 937 = .ok (.iload 4, 2) := by decide +kernel
theorem dLw_law__939 : decode mLw_law_.2.1 939 = .ok (.iconst 2, 1) := by decide +kernel
theorem dLw_law__940 : decode mLw_law_.2.1 940 = .ok (.iadd, 1) := by decide +kernel
theorem dLw_law__941 : decode mLw_law_.2.1 941 = .ok (.iaload, 1) := by decide +kernel
theorem dLw_law__942 : decode mLw_law_.2.1 942 = .ok (.aload_n 3, 1) := by decide +kernel
theorem dLw_law__943 : decode mLw_law_.2.1 943 = .ok (.invokestatic 142, 3) := by decide +kernel
theorem dLw_law__946 : decode mLw_law_.2.1 946 = .ok (.istore 5, 2) := by decide +kernel
theorem dLw_law__948 : decode mLw_law_.2.1 948 = .ok (.aload_n 2, 1) := by decide +kernel
theorem dLw_law__949 : decode mLw_law_.2.1 949 = .ok (.aload_n 0, 1) := by decide +kernel
theorem dLw_law__950 : decode mLw_law_.2.1 950 = .ok (.iload 4, 2) := by decide +kernel
theorem dLw_law__952 : decode mLw_law_.2.1 952 = .ok (.iconst 1, 1) := by decide +kernel
theorem dLw_law__953 : decode mLw_law_.2.1 953 = .ok (.iadd, 1) := by decide +kernel
theorem dLw_law__954 : decode mLw_law_.2.1 954 = .ok (.iaload, 1) := by decide +kernel
theorem dLw_law__955 : decode mLw_law_.2.1 955 = .ok (.aload_n 0, 1) := by decide +kernel
theorem dLw_law__956 : decode mLw_law_.2.1 956 = .ok (.iload 4, 2) := by decide +kernel
theorem dLw_law__958 : decode mLw_law_.2.1 958 = .ok (.iconst 2, 1) := by decide +kernel
theorem dLw_law__959 : decode mLw_law_.2.1 959 = .ok (.iadd, 1) := by decide +kernel
theorem dLw_law__960 : decode mLw_law_.2.1 960 = .ok (.iaload, 1) := by decide +kernel
theorem dLw_law__961 : decode mLw_law_.2.1 961 = .ok (.invokevirtual 144, 3) := by decide +kernel
theorem dLw_law__964 : decode mLw_law_.2.1 964 = .ok (.istore 6, 2) := by decide +kernel
theorem dLw_law__966 : decode mLw_law_.2.1 966 = .ok (.aload_n 2, 1) := by decide +kernel
theorem dLw_law__967 : decode mLw_law_.2.1 967 = .ok (.invokevirtual 105, 3) := by decide +kernel
theorem dLw_law__970 : decode mLw_law_.2.1 970 = .ok (.iload 5, 2) := by decide +kernel
theorem dLw_law__972 : decode mLw_law_.2.1 972 = .ok (.if_icmp .eq 5, 3) := by decide +kernel
theorem dLw_law__975 : decode mLw_law_.2.1 975 = .ok (.iconst 0, 1) := by decide +kernel
theorem dLw_law__976 : decode mLw_law_.2.1 976 = .ok (.ireturn, 1) := by decide +kernel
theorem dLw_law__977 : decode mLw_law_.2.1 977 = .ok (.iload 5, 2) := by decide +kernel
theorem dLw_law__979 : decode mLw_law_.2.1 979 = .ok (.ifCond .ne 15, 3) := by decide +kernel
theorem dLw_law__982 : decode mLw_law_.2.1 982 = .ok (.aload_n 3, 1) := by decide +kernel
theorem dLw_law__983 : decode mLw_law_.2.1 983 = .ok (.iconst 0, 1) := by decide +kernel
theorem dLw_law__984 : decode mLw_law_.2.1 984 = .ok (.laload, 1) := by decide +kernel
theorem dLw_law__985 : decode mLw_law_.2.1 985 = .ok (.iload 6, 2) := by decide +kernel
theorem dLw_law__987 : decode mLw_law_.2.1 987 = .ok (.i2l, 1) := by decide +kernel
theorem dLw_law__988 : decode mLw_law_.2.1 988 = .ok (.lcmp, 1) := by decide +kernel
theorem dLw_law__989 : decode mLw_law_.2.1 989 = .ok (.ifCond .eq 5, 3) := by decide +kernel
theorem dLw_law__992 : decode mLw_law_.2.1 992 = .ok (.iconst 0, 1) := by decide +kernel
theorem dLw_law__993 : decode mLw_law_.2.1 993 = .ok (.ireturn, 1) := by decide +kernel
theorem dLw_law__994 : decode mLw_law_.2.1 994 = .ok (.goto 849, 3) := by decide +kernel
theorem dLw_law__997 : decode mLw_law_.2.1 997 = .ok (.aload_n 1, 1) := by decide +kernel
theorem dLw_law__998 : decode mLw_law_.2.1 998 = .ok (.aload_n 0, 1) := by decide +kernel
theorem dLw_law__999 : decode mLw_law_.2.1 999 = .ok (.iload 4, 2) := by decide +kernel
theorem dLw_law__1001 : decode mLw_law_.2.1 1001 = .ok (.iconst 1, 1) := by decide +kernel
theorem dLw_law__1002 : decode mLw_law_.2.1 1002 = .ok (.iadd, 1) := by decide +kernel
theorem dLw_law__1003 : decode mLw_law_.2.1 1003 = .ok (.iaload, 1) := by decide +kernel
theorem dLw_law__1004 : decode mLw_law_.2.1 1004 = .ok (.aload_n 3, 1) := by decide +kernel
theorem dLw_law__1005 : decode mLw_law_.2.1 1005 = .ok (.invokestatic 145, 3) := by decide +kernel
theorem dLw_law__1008 : decode mLw_law_.2.1 1008 = .ok (.istore 5, 2) := by decide +kernel
theorem dLw_law__1010 : decode mLw_law_.2.1 1010 = .ok (.aload_n 2, 1) := by decide +kernel
theorem dLw_law__1011 : decode mLw_law_.2.1 1011 = .ok (.aload_n 0, 1) := by decide +kernel
theorem dLw_law__1012 : decode mLw_law_.2.1 1012 = .ok (.iload 4, 2) := by decide +kernel
theorem dLw_law__1014 : decode mLw_law_.2.1 1014 = .ok (.iconst 1, 1) := by decide +kernel
theorem dLw_law__1015 : decode mLw_law_.2.1 1015 = .ok (.iadd, 1) := by decide +kernel
theorem dLw_law__1016 : decode mLw_law_.2.1 1016 = .ok (.iaload, 1) := by decide +kernel
theorem dLw_law__1017 : decode mLw_law_.2.1 1017 = .ok (.invokevirtual 147, 3) := by decide +kernel
theorem dLw_law__1020 : decode mLw_law_.2.1 1020 = .ok (.istore 6, 2) := by decide +kernel
theorem dLw_law__1022 : decode mLw_law_.2.1 1022 = .ok (.aload_n 2, 1) := by decide +kernel
theorem dLw_law__1023 : decode mLw_law_.2.1 1023 = .ok (.invokevirtual 105, 3) := by decide +kernel
theorem dLw_law__1026 : decode mLw_law_.2.1 1026 = .ok (.iload 5, 2) := by decide +kernel
theorem dLw_law__1028 : decode mLw_law_.2.1 1028 = .ok (.if_icmp .eq 5, 3) := by decide +kernel
theorem dLw_law__1031 : decode mLw_law_.2.1 1031 = .ok (.iconst 0, 1) := by decide +kernel
theorem dLw_law__1032 : decode mLw_law_.2.1 1032 = .ok (.ireturn, 1) := by decide +kernel
theorem dLw_law__1033 : decode mLw_law_.2.1 1033 = .ok (.iload 5, 2) := by decide +kernel
theorem dLw_law__1035 : decode mLw_law_.2.1 1035 = .ok (.ifCond .ne 15, 3) := by decide +kernel
theorem dLw_law__1038 : decode mLw_law_.2.1 1038 = .ok (.aload_n 3, 1) := by decide +kernel
theorem dLw_law__1039 : decode mLw_law_.2.1 1039 = .ok (.iconst 0, 1) := by decide +kernel
theorem dLw_law__1040 : decode mLw_law_.2.1 1040 = .ok (.laload, 1) := by decide +kernel
theorem dLw_law__1041 : decode mLw_law_.2.1 1041 = .ok (.iload 6, 2) := by decide +kernel
theorem dLw_law__1043 : decode mLw_law_.2.1 1043 = .ok (.i2l, 1) := by decide +kernel
theorem dLw_law__1044 : decode mLw_law_.2.1 1044 = .ok (.lcmp, 1) := by decide +kernel
theorem dLw_law__1045 : decode mLw_law_.2.1 1045 = .ok (.ifCond .eq 5, 3) := by decide +kernel
theorem dLw_law__1048 : decode mLw_law_.2.1 1048 = .ok (.iconst 0, 1) := by decide +kernel
theorem dLw_law__1049 : decode mLw_law_.2.1 1049 = .ok (.ireturn, 1) := by decide +kernel
theorem dLw_law__1050 : decode mLw_law_.2.1 1050 = .ok (.goto 793, 3) := by decide +kernel
theorem dLw_law__1053 : decode mLw_law_.2.1 1053 = .ok (.aload_n 1, 1) := by decide +kernel
theorem dLw_law__1054 : decode mLw_law_.2.1 1054 = .ok (.aload_n 0, 1) := by decide +kernel
theorem dLw_law__1055 : decode mLw_law_.2.1 1055 = .ok (.iload 4, 2) := by decide +kernel
theorem dLw_law__1057 : decode mLw_law_.2.1 1057 = .ok (.iconst 1, 1) := by decide +kernel
theorem dLw_law__1058 : decode mLw_law_.2.1 1058 = .ok (.iadd, 1) := by decide +kernel
theorem dLw_law__1059 : decode mLw_law_.2.1 1059 = .ok (.iaload, 1) := by decide +kernel
theorem dLw_law__1060 : decode mLw_law_.2.1 1060 = .ok (.aload_n 3, 1) := by decide +kernel
theorem dLw_law__1061 : decode mLw_law_.2.1 1061 = .ok (.invokestatic 148, 3) := by decide +kernel
theorem dLw_law__1064 : decode mLw_law_.2.1 1064 = .ok (.istore 5, 2) := by decide +kernel
theorem dLw_law__1066 : decode mLw_law_.2.1 1066 = .ok (.aload_n 2, 1) := by decide +kernel
theorem dLw_law__1067 : decode mLw_law_.2.1 1067 = .ok (.aload_n 0, 1) := by decide +kernel
theorem dLw_law__1068 : decode mLw_law_.2.1 1068 = .ok (.iload 4, 2) := by decide +kernel
theorem dLw_law__1070 : decode mLw_law_.2.1 1070 = .ok (.iconst 1, 1) := by decide +kernel
theorem dLw_law__1071 : decode mLw_law_.2.1 1071 = .ok (.iadd, 1) := by decide +kernel
theorem dLw_law__1072 : decode mLw_law_.2.1 1072 = .ok (.iaload, 1) := by decide +kernel
theorem dLw_law__1073 : decode mLw_law_.2.1 1073 = .ok (.invokevirtual 150, 3) := by decide +kernel
theorem dLw_law__1076 : decode mLw_law_.2.1 1076 = .ok (.istore 6, 2) := by decide +kernel
theorem dLw_law__1078 : decode mLw_law_.2.1 1078 = .ok (.aload_n 2, 1) := by decide +kernel
theorem dLw_law__1079 : decode mLw_law_.2.1 1079 = .ok (.invokevirtual 105, 3) := by decide +kernel
theorem dLw_law__1082 : decode mLw_law_.2.1 1082 = .ok (.iload 5, 2) := by decide +kernel
theorem dLw_law__1084 : decode mLw_law_.2.1 1084 = .ok (.if_icmp .eq 5, 3) := by decide +kernel
theorem dLw_law__1087 : decode mLw_law_.2.1 1087 = .ok (.iconst 0, 1) := by decide +kernel
theorem dLw_law__1088 : decode mLw_law_.2.1 1088 = .ok (.ireturn, 1) := by decide +kernel
theorem dLw_law__1089 : decode mLw_law_.2.1 1089 = .ok (.iload 5, 2) := by decide +kernel
theorem dLw_law__1091 : decode mLw_law_.2.1 1091 = .ok (.ifCond .ne 15, 3) := by decide +kernel
theorem dLw_law__1094 : decode mLw_law_.2.1 1094 = .ok (.aload_n 3, 1) := by decide +kernel
theorem dLw_law__1095 : decode mLw_law_.2.1 1095 = .ok (.iconst 0, 1) := by decide +kernel
theorem dLw_law__1096 : decode mLw_law_.2.1 1096 = .ok (.laload, 1) := by decide +kernel
theorem dLw_law__1097 : decode mLw_law_.2.1 1097 = .ok (.iload 6, 2) := by decide +kernel
theorem dLw_law__1099 : decode mLw_law_.2.1 1099 = .ok (.i2l, 1) := by decide +kernel
theorem dLw_law__1100 : decode mLw_law_.2.1 1100 = .ok (.lcmp, 1) := by decide +kernel
theorem dLw_law__1101 : decode mLw_law_.2.1 1101 = .ok (.ifCond .eq 5, 3) := by decide +kernel
theorem dLw_law__1104 : decode mLw_law_.2.1 1104 = .ok (.iconst 0, 1) := by decide +kernel
theorem dLw_law__1105 : decode mLw_law_.2.1 1105 = .ok (.ireturn, 1) := by decide +kernel
theorem dLw_law__1106 : decode mLw_law_.2.1 1106 = .ok (.goto 737, 3) := by decide +kernel
theorem dLw_law__1109 : decode mLw_law_.2.1 1109 = .ok (.aload_n 1, 1) := by decide +kernel
theorem dLw_law__1110 : decode mLw_law_.2.1 1110 = .ok (.aload_n 0, 1) := by decide +kernel
theorem dLw_law__1111 : decode mLw_law_.2.1 1111 = .ok (.iload 4, 2) := by decide +kernel
theorem dLw_law__1113 : decode mLw_law_.2.1 1113 = .ok (.iconst 1, 1) := by decide +kernel
theorem dLw_law__1114 : decode mLw_law_.2.1 1114 = .ok (.iadd, 1) := by decide +kernel
theorem dLw_law__1115 : decode mLw_law_.2.1 1115 = .ok (.iaload, 1) := by decide +kernel
theorem dLw_law__1116 : decode mLw_law_.2.1 1116 = .ok (.aload_n 0, 1) := by decide +kernel
theorem dLw_law__1117 : decode mLw_law_.2.1 1117 = .ok (.iload 4, 2) := by decide +kernel
theorem dLw_law__1119 : decode mLw_law_.2.1 1119 = .ok (.iconst 2, 1) := by decide +kernel
theorem dLw_law__1120 : decode mLw_law_.2.1 1120 = .ok (.iadd, 1) := by decide +kernel
theorem dLw_law__1121 : decode mLw_law_.2.1 1121 = .ok (.iaload, 1) := by decide +kernel
theorem dLw_law__1122 : decode mLw_law_.2.1 1122 = .ok (.aload_n 3, 1) := by decide +kernel
theorem dLw_law__1123 : decode mLw_law_.2.1 1123 = .ok (.invokestatic 151, 3) := by decide +kernel
theorem dLw_law__1126 : decode mLw_law_.2.1 1126 = .ok (.istore 5, 2) := by decide +kernel
theorem dLw_law__1128 : decode mLw_law_.2.1 1128 = .ok (.aload_n 2, 1) := by decide +kernel
theorem dLw_law__1129 : decode mLw_law_.2.1 1129 = .ok (.aload_n 0, 1) := by decide +kernel
theorem dLw_law__1130 : decode mLw_law_.2.1 1130 = .ok (.iload 4, 2) := by decide +kernel
theorem dLw_law__1132 : decode mLw_law_.2.1 1132 = .ok (.iconst 1, 1) := by decide +kernel
theorem dLw_law__1133 : decode mLw_law_.2.1 1133 = .ok (.iadd, 1) := by decide +kernel
theorem dLw_law__1134 : decode mLw_law_.2.1 1134 = .ok (.iaload, 1) := by decide +kernel
theorem dLw_law__1135 : decode mLw_law_.2.1 1135 = .ok (.aload_n 0, 1) := by decide +kernel
theorem dLw_law__1136 : decode mLw_law_.2.1 1136 = .ok (.iload 4, 2) := by decide +kernel
theorem dLw_law__1138 : decode mLw_law_.2.1 1138 = .ok (.iconst 2, 1) := by decide +kernel
theorem dLw_law__1139 : decode mLw_law_.2.1 1139 = .ok (.iadd, 1) := by decide +kernel
theorem dLw_law__1140 : decode mLw_law_.2.1 1140 = .ok (.iaload, 1) := by decide +kernel
theorem dLw_law__1141 : decode mLw_law_.2.1 1141 = .ok (.invokevirtual 153, 3) := by decide +kernel
theorem dLw_law__1144 : decode mLw_law_.2.1 1144 = .ok (.istore 6, 2) := by decide +kernel
theorem dLw_law__1146 : decode mLw_law_.2.1 1146 = .ok (.aload_n 2, 1) := by decide +kernel
theorem dLw_law__1147 : decode mLw_law_.2.1 1147 = .ok (.invokevirtual 105, 3) := by decide +kernel
theorem dLw_law__1150 : decode mLw_law_.2.1 1150 = .ok (.iload 5, 2) := by decide +kernel
theorem dLw_law__1152 : decode mLw_law_.2.1 1152 = .ok (.if_icmp .eq 5, 3) := by decide +kernel
theorem dLw_law__1155 : decode mLw_law_.2.1 1155 = .ok (.iconst 0, 1) := by decide +kernel
theorem dLw_law__1156 : decode mLw_law_.2.1 1156 = .ok (.ireturn, 1) := by decide +kernel
theorem dLw_law__1157 : decode mLw_law_.2.1 1157 = .ok (.iload 5, 2) := by decide +kernel
theorem dLw_law__1159 : decode mLw_law_.2.1 1159 = .ok (.ifCond .ne 15, 3) := by decide +kernel
theorem dLw_law__1162 : decode mLw_law_.2.1 1162 = .ok (.aload_n 3, 1) := by decide +kernel
theorem dLw_law__1163 : decode mLw_law_.2.1 1163 = .ok (.iconst 0, 1) := by decide +kernel
theorem dLw_law__1164 : decode mLw_law_.2.1 1164 = .ok (.laload, 1) := by decide +kernel
theorem dLw_law__1165 : decode mLw_law_.2.1 1165 = .ok (.iload 6, 2) := by decide +kernel
theorem dLw_law__1167 : decode mLw_law_.2.1 1167 = .ok (.i2l, 1) := by decide +kernel
theorem dLw_law__1168 : decode mLw_law_.2.1 1168 = .ok (.lcmp, 1) := by decide +kernel
theorem dLw_law__1169 : decode mLw_law_.2.1 1169 = .ok (.ifCond .eq 5, 3) := by decide +kernel
theorem dLw_law__1172 : decode mLw_law_.2.1 1172 = .ok (.iconst 0, 1) := by decide +kernel
theorem dLw_law__1173 : decode mLw_law_.2.1 1173 = .ok (.ireturn, 1) := by decide +kernel
theorem dLw_law__1174 : decode mLw_law_.2.1 1174 = .ok (.goto 669, 3) := by decide +kernel
theorem dLw_law__1177 : decode mLw_law_.2.1 1177 = .ok (.aload_n 1, 1) := by decide +kernel
theorem dLw_law__1178 : decode mLw_law_.2.1 1178 = .ok (.aload_n 0, 1) := by decide +kernel
theorem dLw_law__1179 : decode mLw_law_.2.1 1179 = .ok (.iload 4, 2) := by decide +kernel
theorem dLw_law__1181 : decode mLw_law_.2.1 1181 = .ok (.iconst 1, 1) := by decide +kernel
theorem dLw_law__1182 : decode mLw_law_.2.1 1182 = .ok (.iadd, 1) := by decide +kernel
theorem dLw_law__1183 : decode mLw_law_.2.1 1183 = .ok (.iaload, 1) := by decide +kernel
theorem dLw_law__1184 : decode mLw_law_.2.1 1184 = .ok (.aload_n 0, 1) := by decide +kernel
theorem dLw_law__1185 : decode mLw_law_.2.1 1185 = .ok (.iload 4, 2) := by decide +kernel
theorem dLw_law__1187 : decode mLw_law_.2.1 1187 = .ok (.iconst 2, 1) := by decide +kernel
theorem dLw_law__1188 : decode mLw_law_.2.1 1188 = .ok (.iadd, 1) := by decide +kernel
theorem dLw_law__1189 : decode mLw_law_.2.1 1189 = .ok (.iaload, 1) := by decide +kernel
theorem dLw_law__1190 : decode mLw_law_.2.1 1190 = .ok (.aload_n 3, 1) := by decide +kernel
theorem dLw_law__1191 : decode mLw_law_.2.1 1191 = .ok (.invokestatic 154, 3) := by decide +kernel
theorem dLw_law__1194 : decode mLw_law_.2.1 1194 = .ok (.istore 5, 2) := by decide +kernel
theorem dLw_law__1196 : decode mLw_law_.2.1 1196 = .ok (.aload_n 2, 1) := by decide +kernel
theorem dLw_law__1197 : decode mLw_law_.2.1 1197 = .ok (.aload_n 0, 1) := by decide +kernel
theorem dLw_law__1198 : decode mLw_law_.2.1 1198 = .ok (.iload 4, 2) := by decide +kernel
theorem dLw_law__1200 : decode mLw_law_.2.1 1200 = .ok (.iconst 1, 1) := by decide +kernel
theorem dLw_law__1201 : decode mLw_law_.2.1 1201 = .ok (.iadd, 1) := by decide +kernel
theorem dLw_law__1202 : decode mLw_law_.2.1 1202 = .ok (.iaload, 1) := by decide +kernel
theorem dLw_law__1203 : decode mLw_law_.2.1 1203 = .ok (.aload_n 0, 1) := by decide +kernel
theorem dLw_law__1204 : decode mLw_law_.2.1 1204 = .ok (.iload 4, 2) := by decide +kernel
theorem dLw_law__1206 : decode mLw_law_.2.1 1206 = .ok (.iconst 2, 1) := by decide +kernel
theorem dLw_law__1207 : decode mLw_law_.2.1 1207 = .ok (.iadd, 1) := by decide +kernel
theorem dLw_law__1208 : decode mLw_law_.2.1 1208 = .ok (.iaload, 1) := by decide +kernel
theorem dLw_law__1209 : decode mLw_law_.2.1 1209 = .ok (.invokevirtual 156, 3) := by decide +kernel
theorem dLw_law__1212 : decode mLw_law_.2.1 1212 = .ok (.istore 6, 2) := by decide +kernel
theorem dLw_law__1214 : decode mLw_law_.2.1 1214 = .ok (.aload_n 2, 1) := by decide +kernel
theorem dLw_law__1215 : decode mLw_law_.2.1 1215 = .ok (.invokevirtual 105, 3) := by decide +kernel
theorem dLw_law__1218 : decode mLw_law_.2.1 1218 = .ok (.iload 5, 2) := by decide +kernel
theorem dLw_law__1220 : decode mLw_law_.2.1 1220 = .ok (.if_icmp .eq 5, 3) := by decide +kernel
theorem dLw_law__1223 : decode mLw_law_.2.1 1223 = .ok (.iconst 0, 1) := by decide +kernel
theorem dLw_law__1224 : decode mLw_law_.2.1 1224 = .ok (.ireturn, 1) := by decide +kernel
theorem dLw_law__1225 : decode mLw_law_.2.1 1225 = .ok (.iload 5, 2) := by decide +kernel
theorem dLw_law__1227 : decode mLw_law_.2.1 1227 = .ok (.ifCond .ne 15, 3) := by decide +kernel
theorem dLw_law__1230 : decode mLw_law_.2.1 1230 = .ok (.aload_n 3, 1) := by decide +kernel
theorem dLw_law__1231 : decode mLw_law_.2.1 1231 = .ok (.iconst 0, 1) := by decide +kernel
theorem dLw_law__1232 : decode mLw_law_.2.1 1232 = .ok (.laload, 1) := by decide +kernel
theorem dLw_law__1233 : decode mLw_law_.2.1 1233 = .ok (.iload 6, 2) := by decide +kernel
theorem dLw_law__1235 : decode mLw_law_.2.1 1235 = .ok (.i2l, 1) := by decide +kernel
theorem dLw_law__1236 : decode mLw_law_.2.1 1236 = .ok (.lcmp, 1) := by decide +kernel
theorem dLw_law__1237 : decode mLw_law_.2.1 1237 = .ok (.ifCond .eq 5, 3) := by decide +kernel
theorem dLw_law__1240 : decode mLw_law_.2.1 1240 = .ok (.iconst 0, 1) := by decide +kernel
theorem dLw_law__1241 : decode mLw_law_.2.1 1241 = .ok (.ireturn, 1) := by decide +kernel
theorem dLw_law__1242 : decode mLw_law_.2.1 1242 = .ok (.goto 601, 3) := by decide +kernel
theorem dLw_law__1245 : decode mLw_law_.2.1 1245 = .ok (.aload_n 1, 1) := by decide +kernel
theorem dLw_law__1246 : decode mLw_law_.2.1 1246 = .ok (.aload_n 0, 1) := by decide +kernel
theorem dLw_law__1247 : decode mLw_law_.2.1 1247 = .ok (.iload 4, 2) := by decide +kernel
theorem dLw_law__1249 : decode mLw_law_.2.1 1249 = .ok (.iconst 1, 1) := by decide +kernel
theorem dLw_law__1250 : decode mLw_law_.2.1 1250 = .ok (.iadd, 1) := by decide +kernel
theorem dLw_law__1251 : decode mLw_law_.2.1 1251 = .ok (.iaload, 1) := by decide +kernel
theorem dLw_law__1252 : decode mLw_law_.2.1 1252 = .ok (.aload_n 3, 1) := by decide +kernel
theorem dLw_law__1253 : decode mLw_law_.2.1 1253 = .ok (.invokestatic 157, 3) := by decide +kernel
theorem dLw_law__1256 : decode mLw_law_.2.1 1256 = .ok (.istore 5, 2) := by decide +kernel
theorem dLw_law__1258 : decode mLw_law_.2.1 1258 = .ok (.aload_n 2, 1) := by decide +kernel
theorem dLw_law__1259 : decode mLw_law_.2.1 1259 = .ok (.aload_n 0, 1) := by decide +kernel
theorem dLw_law__1260 : decode mLw_law_.2.1 1260 = .ok (.iload 4, 2) := by decide +kernel
theorem dLw_law__1262 : decode mLw_law_.2.1 1262 = .ok (.iconst 1, 1) := by decide +kernel
theorem dLw_law__1263 : decode mLw_law_.2.1 1263 = .ok (.iadd, 1) := by decide +kernel
theorem dLw_law__1264 : decode mLw_law_.2.1 1264 = .ok (.iaload, 1) := by decide +kernel
theorem dLw_law__1265 : decode mLw_law_.2.1 1265 = .ok (.invokevirtual 159, 3) := by decide +kernel
theorem dLw_law__1268 : decode mLw_law_.2.1 1268 = .ok (.istore 6, 2) := by decide +kernel
theorem dLw_law__1270 : decode mLw_law_.2.1 1270 = .ok (.aload_n 2, 1) := by decide +kernel
theorem dLw_law__1271 : decode mLw_law_.2.1 1271 = .ok (.invokevirtual 105, 3) := by decide +kernel
theorem dLw_law__1274 : decode mLw_law_.2.1 1274 = .ok (.iload 5, 2) := by decide +kernel
theorem dLw_law__1276 : decode mLw_law_.2.1 1276 = .ok (.if_icmp .eq 5, 3) := by decide +kernel
theorem dLw_law__1279 : decode mLw_law_.2.1 1279 = .ok (.iconst 0, 1) := by decide +kernel
theorem dLw_law__1280 : decode mLw_law_.2.1 1280 = .ok (.ireturn, 1) := by decide +kernel
theorem dLw_law__1281 : decode mLw_law_.2.1 1281 = .ok (.iload 5, 2) := by decide +kernel
theorem dLw_law__1283 : decode mLw_law_.2.1 1283 = .ok (.ifCond .ne 15, 3) := by decide +kernel
theorem dLw_law__1286 : decode mLw_law_.2.1 1286 = .ok (.aload_n 3, 1) := by decide +kernel
theorem dLw_law__1287 : decode mLw_law_.2.1 1287 = .ok (.iconst 0, 1) := by decide +kernel
theorem dLw_law__1288 : decode mLw_law_.2.1 1288 = .ok (.laload, 1) := by decide +kernel
theorem dLw_law__1289 : decode mLw_law_.2.1 1289 = .ok (.iload 6, 2) := by decide +kernel
theorem dLw_law__1291 : decode mLw_law_.2.1 1291 = .ok (.i2l, 1) := by decide +kernel
theorem dLw_law__1292 : decode mLw_law_.2.1 1292 = .ok (.lcmp, 1) := by decide +kernel
theorem dLw_law__1293 : decode mLw_law_.2.1 1293 = .ok (.ifCond .eq 5, 3) := by decide +kernel
theorem dLw_law__1296 : decode mLw_law_.2.1 1296 = .ok (.iconst 0, 1) := by decide +kernel
theorem dLw_law__1297 : decode mLw_law_.2.1 1297 = .ok (.ireturn, 1) := by decide +kernel
theorem dLw_law__1298 : decode mLw_law_.2.1 1298 = .ok (.goto 545, 3) := by decide +kernel
theorem dLw_law__1301 : decode mLw_law_.2.1 1301 = .ok (.aload_n 1, 1) := by decide +kernel
theorem dLw_law__1302 : decode mLw_law_.2.1 1302 = .ok (.invokevirtual 160, 3) := by decide +kernel
theorem dLw_law__1305 : decode mLw_law_.2.1 1305 = .ok (.aload_n 2, 1) := by decide +kernel
theorem dLw_law__1306 : decode mLw_law_.2.1 1306 = .ok (.invokevirtual 163, 3) := by decide +kernel
theorem dLw_law__1309 : decode mLw_law_.2.1 1309 = .ok (.if_icmp .eq 534, 3) := by decide +kernel
theorem dLw_law__1312 : decode mLw_law_.2.1 1312 = .ok (.iconst 0, 1) := by decide +kernel
theorem dLw_law__1313 : decode mLw_law_.2.1 1313 = .ok (.ireturn, 1) := by decide +kernel
theorem dLw_law__1314 : decode mLw_law_.2.1 1314 = .ok (.aload_n 1, 1) := by decide +kernel
theorem dLw_law__1315 : decode mLw_law_.2.1 1315 = .ok (.invokevirtual 164, 3) := by decide +kernel
theorem dLw_law__1318 : decode mLw_law_.2.1 1318 = .ok (.aload_n 2, 1) := by decide +kernel
theorem dLw_law__1319 : decode mLw_law_.2.1 1319 = .ok (.invokevirtual 167, 3) := by decide +kernel
theorem dLw_law__1322 : decode mLw_law_.2.1 1322 = .ok (.if_icmp .eq 521, 3) := by decide +kernel
theorem dLw_law__1325 : decode mLw_law_.2.1 1325 = .ok (.iconst 0, 1) := by decide +kernel
theorem dLw_law__1326 : decode mLw_law_.2.1 1326 = .ok (.ireturn, 1) := by decide +kernel
theorem dLw_law__1327 : decode mLw_law_.2.1 1327 = .ok (.aload_n 1, 1) := by decide +kernel
theorem dLw_law__1328 : decode mLw_law_.2.1 1328 = .ok (.aload_n 0, 1) := by decide +kernel
theorem dLw_law__1329 : decode mLw_law_.2.1 1329 = .ok (.iload 4, 2) := by decide +kernel
theorem dLw_law__1331 : decode mLw_law_.2.1 1331 = .ok (.iconst 1, 1) := by decide +kernel
theorem dLw_law__1332 : decode mLw_law_.2.1 1332 = .ok (.iadd, 1) := by decide +kernel
theorem dLw_law__1333 : decode mLw_law_.2.1 1333 = .ok (.iaload, 1) := by decide +kernel
theorem dLw_law__1334 : decode mLw_law_.2.1 1334 = .ok (.aload_n 0, 1) := by decide +kernel
theorem dLw_law__1335 : decode mLw_law_.2.1 1335 = .ok (.iload 4, 2) := by decide +kernel
theorem dLw_law__1337 : decode mLw_law_.2.1 1337 = .ok (.iconst 2, 1) := by decide +kernel
theorem dLw_law__1338 : decode mLw_law_.2.1 1338 = .ok (.iadd, 1) := by decide +kernel
theorem dLw_law__1339 : decode mLw_law_.2.1 1339 = .ok (.iaload, 1) := by decide +kernel
theorem dLw_law__1340 : decode mLw_law_.2.1 1340 = .ok (.aload_n 0, 1) := by decide +kernel
theorem dLw_law__1341 : decode mLw_law_.2.1 1341 = .ok (.iload 4, 2) := by decide +kernel
theorem dLw_law__1343 : decode mLw_law_.2.1 1343 = .ok (.iconst 3, 1) := by decide +kernel
theorem dLw_law__1344 : decode mLw_law_.2.1 1344 = .ok (.iadd, 1) := by decide +kernel
theorem dLw_law__1345 : decode mLw_law_.2.1 1345 = .ok (.iaload, 1) := by decide +kernel
theorem dLw_law__1346 : decode mLw_law_.2.1 1346 = .ok (.aload_n 3, 1) := by decide +kernel
theorem dLw_law__1347 : decode mLw_law_.2.1 1347 = .ok (.invokestatic 168, 3) := by decide +kernel
theorem dLw_law__1350 : decode mLw_law_.2.1 1350 = .ok (.istore 5, 2) := by decide +kernel
theorem dLw_law__1352 : decode mLw_law_.2.1 1352 = .ok (.aload_n 2, 1) := by decide +kernel
theorem dLw_law__1353 : decode mLw_law_.2.1 1353 = .ok (.aload_n 0, 1) := by decide +kernel
theorem dLw_law__1354 : decode mLw_law_.2.1 1354 = .ok (.iload 4, 2) := by decide +kernel
theorem dLw_law__1356 : decode mLw_law_.2.1 1356 = .ok (.iconst 1, 1) := by decide +kernel
theorem dLw_law__1357 : decode mLw_law_.2.1 1357 = .ok (.iadd, 1) := by decide +kernel
theorem dLw_law__1358 : decode mLw_law_.2.1 1358 = .ok (.iaload, 1) := by decide +kernel
theorem dLw_law__1359 : decode mLw_law_.2.1 1359 = .ok (.aload_n 0, 1) := by decide +kernel
theorem dLw_law__1360 : decode mLw_law_.2.1 1360 = .ok (.iload 4, 2) := by decide +kernel
theorem dLw_law__1362 : decode mLw_law_.2.1 1362 = .ok (.iconst 2, 1) := by decide +kernel
theorem dLw_law__1363 : decode mLw_law_.2.1 1363 = .ok (.iadd, 1) := by decide +kernel
theorem dLw_law__1364 : decode mLw_law_.2.1 1364 = .ok (.iaload, 1) := by decide +kernel
theorem dLw_law__1365 : decode mLw_law_.2.1 1365 = .ok (.aload_n 0, 1) := by decide +kernel
theorem dLw_law__1366 : decode mLw_law_.2.1 1366 = .ok (.iload 4, 2) := by decide +kernel
theorem dLw_law__1368 : decode mLw_law_.2.1 1368 = .ok (.iconst 3, 1) := by decide +kernel
theorem dLw_law__1369 : decode mLw_law_.2.1 1369 = .ok (.iadd, 1) := by decide +kernel
theorem dLw_law__1370 : decode mLw_law_.2.1 1370 = .ok (.iaload, 1) := by decide +kernel
theorem dLw_law__1371 : decode mLw_law_.2.1 1371 = .ok (.invokevirtual 170, 3) := by decide +kernel
theorem dLw_law__1374 : decode mLw_law_.2.1 1374 = .ok (.istore 6, 2) := by decide +kernel
theorem dLw_law__1376 : decode mLw_law_.2.1 1376 = .ok (.aload_n 2, 1) := by decide +kernel
theorem dLw_law__1377 : decode mLw_law_.2.1 1377 = .ok (.invokevirtual 105, 3) := by decide +kernel
theorem dLw_law__1380 : decode mLw_law_.2.1 1380 = .ok (.iload 5, 2) := by decide +kernel
theorem dLw_law__1382 : decode mLw_law_.2.1 1382 = .ok (.if_icmp .eq 5, 3) := by decide +kernel
theorem dLw_law__1385 : decode mLw_law_.2.1 1385 = .ok (.iconst 0, 1) := by decide +kernel
theorem dLw_law__1386 : decode mLw_law_.2.1 1386 = .ok (.ireturn, 1) := by decide +kernel
theorem dLw_law__1387 : decode mLw_law_.2.1 1387 = .ok (.iload 5, 2) := by decide +kernel
theorem dLw_law__1389 : decode mLw_law_.2.1 1389 = .ok (.ifCond .ne 15, 3) := by decide +kernel
theorem dLw_law__1392 : decode mLw_law_.2.1 1392 = .ok (.aload_n 3, 1) := by decide +kernel
theorem dLw_law__1393 : decode mLw_law_.2.1 1393 = .ok (.iconst 0, 1) := by decide +kernel
theorem dLw_law__1394 : decode mLw_law_.2.1 1394 = .ok (.laload, 1) := by decide +kernel
theorem dLw_law__1395 : decode mLw_law_.2.1 1395 = .ok (.iload 6, 2) := by decide +kernel
theorem dLw_law__1397 : decode mLw_law_.2.1 1397 = .ok (.i2l, 1) := by decide +kernel
theorem dLw_law__1398 : decode mLw_law_.2.1 1398 = .ok (.lcmp, 1) := by decide +kernel
theorem dLw_law__1399 : decode mLw_law_.2.1 1399 = .ok (.ifCond .eq 5, 3) := by decide +kernel
theorem dLw_law__1402 : decode mLw_law_.2.1 1402 = .ok (.iconst 0, 1) := by decide +kernel
theorem dLw_law__1403 : decode mLw_law_.2.1 1403 = .ok (.ireturn, 1) := by decide +kernel
theorem dLw_law__1404 : decode mLw_law_.2.1 1404 = .ok (.goto 439, 3) := by decide +kernel
theorem dLw_law__1407 : decode mLw_law_.2.1 1407 = .ok (.aload_n 1, 1) := by decide +kernel
theorem dLw_law__1408 : decode mLw_law_.2.1 1408 = .ok (.aload_n 0, 1) := by decide +kernel
theorem dLw_law__1409 : decode mLw_law_.2.1 1409 = .ok (.iload 4, 2) := by decide +kernel
theorem dLw_law__1411 : decode mLw_law_.2.1 1411 = .ok (.iconst 1, 1) := by decide +kernel
theorem dLw_law__1412 : decode mLw_law_.2.1 1412 = .ok (.iadd, 1) := by decide +kernel
theorem dLw_law__1413 : decode mLw_law_.2.1 1413 = .ok (.iaload, 1) := by decide +kernel
theorem dLw_law__1414 : decode mLw_law_.2.1 1414 = .ok (.aload_n 0, 1) := by decide +kernel
theorem dLw_law__1415 : decode mLw_law_.2.1 1415 = .ok (.iload 4, 2) := by decide +kernel
theorem dLw_law__1417 : decode mLw_law_.2.1 1417 = .ok (.iconst 2, 1) := by decide +kernel
theorem dLw_law__1418 : decode mLw_law_.2.1 1418 = .ok (.iadd, 1) := by decide +kernel
theorem dLw_law__1419 : decode mLw_law_.2.1 1419 = .ok (.iaload, 1) := by decide +kernel
theorem dLw_law__1420 : decode mLw_law_.2.1 1420 = .ok (.aload_n 3, 1) := by decide +kernel
theorem dLw_law__1421 : decode mLw_law_.2.1 1421 = .ok (.invokestatic 171, 3) := by decide +kernel
theorem dLw_law__1424 : decode mLw_law_.2.1 1424 = .ok (.istore 5, 2) := by decide +kernel
theorem dLw_law__1426 : decode mLw_law_.2.1 1426 = .ok (.aload_n 2, 1) := by decide +kernel
theorem dLw_law__1427 : decode mLw_law_.2.1 1427 = .ok (.aload_n 0, 1) := by decide +kernel
theorem dLw_law__1428 : decode mLw_law_.2.1 1428 = .ok (.iload 4, 2) := by decide +kernel
theorem dLw_law__1430 : decode mLw_law_.2.1 1430 = .ok (.iconst 1, 1) := by decide +kernel
theorem dLw_law__1431 : decode mLw_law_.2.1 1431 = .ok (.iadd, 1) := by decide +kernel
theorem dLw_law__1432 : decode mLw_law_.2.1 1432 = .ok (.iaload, 1) := by decide +kernel
theorem dLw_law__1433 : decode mLw_law_.2.1 1433 = .ok (.aload_n 0, 1) := by decide +kernel
theorem dLw_law__1434 : decode mLw_law_.2.1 1434 = .ok (.iload 4, 2) := by decide +kernel
theorem dLw_law__1436 : decode mLw_law_.2.1 1436 = .ok (.iconst 2, 1) := by decide +kernel
theorem dLw_law__1437 : decode mLw_law_.2.1 1437 = .ok (.iadd, 1) := by decide +kernel
theorem dLw_law__1438 : decode mLw_law_.2.1 1438 = .ok (.iaload, 1) := by decide +kernel
theorem dLw_law__1439 : decode mLw_law_.2.1 1439 = .ok (.invokevirtual 173, 3) := by decide +kernel
theorem dLw_law__1442 : decode mLw_law_.2.1 1442 = .ok (.istore 6, 2) := by decide +kernel
theorem dLw_law__1444 : decode mLw_law_.2.1 1444 = .ok (.aload_n 2, 1) := by decide +kernel
theorem dLw_law__1445 : decode mLw_law_.2.1 1445 = .ok (.invokevirtual 105, 3) := by decide +kernel
theorem dLw_law__1448 : decode mLw_law_.2.1 1448 = .ok (.iload 5, 2) := by decide +kernel
theorem dLw_law__1450 : decode mLw_law_.2.1 1450 = .ok (.if_icmp .eq 5, 3) := by decide +kernel
theorem dLw_law__1453 : decode mLw_law_.2.1 1453 = .ok (.iconst 0, 1) := by decide +kernel
theorem dLw_law__1454 : decode mLw_law_.2.1 1454 = .ok (.ireturn, 1) := by decide +kernel
theorem dLw_law__1455 : decode mLw_law_.2.1 1455 = .ok (.iload 5, 2) := by decide +kernel
theorem dLw_law__1457 : decode mLw_law_.2.1 1457 = .ok (.ifCond .ne 15, 3) := by decide +kernel
theorem dLw_law__1460 : decode mLw_law_.2.1 1460 = .ok (.aload_n 3, 1) := by decide +kernel
theorem dLw_law__1461 : decode mLw_law_.2.1 1461 = .ok (.iconst 0, 1) := by decide +kernel
theorem dLw_law__1462 : decode mLw_law_.2.1 1462 = .ok (.laload, 1) := by decide +kernel
theorem dLw_law__1463 : decode mLw_law_.2.1 1463 = .ok (.iload 6, 2) := by decide +kernel
theorem dLw_law__1465 : decode mLw_law_.2.1 1465 = .ok (.i2l, 1) := by decide +kernel
theorem dLw_law__1466 : decode mLw_law_.2.1 1466 = .ok (.lcmp, 1) := by decide +kernel
theorem dLw_law__1467 : decode mLw_law_.2.1 1467 = .ok (.ifCond .eq 5, 3) := by decide +kernel
theorem dLw_law__1470 : decode mLw_law_.2.1 1470 = .ok (.iconst 0, 1) := by decide +kernel
theorem dLw_law__1471 : decode mLw_law_.2.1 1471 = .ok (.ireturn, 1) := by decide +kernel
theorem dLw_law__1472 : decode mLw_law_.2.1 1472 = .ok (.goto 371, 3) := by decide +kernel
theorem dLw_law__1475 : decode mLw_law_.2.1 1475 = .ok (.aload_n 1, 1) := by decide +kernel
theorem dLw_law__1476 : decode mLw_law_.2.1 1476 = .ok (.aload_n 0, 1) := by decide +kernel
theorem dLw_law__1477 : decode mLw_law_.2.1 1477 = .ok (.iload 4, 2) := by decide +kernel
theorem dLw_law__1479 : decode mLw_law_.2.1 1479 = .ok (.iconst 1, 1) := by decide +kernel
theorem dLw_law__1480 : decode mLw_law_.2.1 1480 = .ok (.iadd, 1) := by decide +kernel
theorem dLw_law__1481 : decode mLw_law_.2.1 1481 = .ok (.iaload, 1) := by decide +kernel
theorem dLw_law__1482 : decode mLw_law_.2.1 1482 = .ok (.aload_n 0, 1) := by decide +kernel
theorem dLw_law__1483 : decode mLw_law_.2.1 1483 = .ok (.iload 4, 2) := by decide +kernel
theorem dLw_law__1485 : decode mLw_law_.2.1 1485 = .ok (.iconst 2, 1) := by decide +kernel
theorem dLw_law__1486 : decode mLw_law_.2.1 1486 = .ok (.iadd, 1) := by decide +kernel
theorem dLw_law__1487 : decode mLw_law_.2.1 1487 = .ok (.iaload, 1) := by decide +kernel
theorem dLw_law__1488 : decode mLw_law_.2.1 1488 = .ok (.aload_n 3, 1) := by decide +kernel
theorem dLw_law__1489 : decode mLw_law_.2.1 1489 = .ok (.invokestatic 174, 3) := by decide +kernel
theorem dLw_law__1492 : decode mLw_law_.2.1 1492 = .ok (.istore 5, 2) := by decide +kernel
theorem dLw_law__1494 : decode mLw_law_.2.1 1494 = .ok (.aload_n 2, 1) := by decide +kernel
theorem dLw_law__1495 : decode mLw_law_.2.1 1495 = .ok (.aload_n 0, 1) := by decide +kernel
theorem dLw_law__1496 : decode mLw_law_.2.1 1496 = .ok (.iload 4, 2) := by decide +kernel
theorem dLw_law__1498 : decode mLw_law_.2.1 1498 = .ok (.iconst 1, 1) := by decide +kernel
theorem dLw_law__1499 : decode mLw_law_.2.1 1499 = .ok (.iadd, 1) := by decide +kernel
theorem dLw_law__1500 : decode mLw_law_.2.1 1500 = .ok (.iaload, 1) := by decide +kernel
theorem dLw_law__1501 : decode mLw_law_.2.1 1501 = .ok (.aload_n 0, 1) := by decide +kernel
theorem dLw_law__1502 : decode mLw_law_.2.1 1502 = .ok (.iload 4, 2) := by decide +kernel
theorem dLw_law__1504 : decode mLw_law_.2.1 1504 = .ok (.iconst 2, 1) := by decide +kernel
theorem dLw_law__1505 : decode mLw_law_.2.1 1505 = .ok (.iadd, 1) := by decide +kernel
theorem dLw_law__1506 : decode mLw_law_.2.1 1506 = .ok (.iaload, 1) := by decide +kernel
theorem dLw_law__1507 : decode mLw_law_.2.1 1507 = .ok (.invokevirtual 176, 3) := by decide +kernel
theorem dLw_law__1510 : decode mLw_law_.2.1 1510 = .ok (.istore 6, 2) := by decide +kernel
theorem dLw_law__1512 : decode mLw_law_.2.1 1512 = .ok (.aload_n 2, 1) := by decide +kernel
theorem dLw_law__1513 : decode mLw_law_.2.1 1513 = .ok (.invokevirtual 105, 3) := by decide +kernel
theorem dLw_law__1516 : decode mLw_law_.2.1 1516 = .ok (.iload 5, 2) := by decide +kernel
theorem dLw_law__1518 : decode mLw_law_.2.1 1518 = .ok (.if_icmp .eq 5, 3) := by decide +kernel
theorem dLw_law__1521 : decode mLw_law_.2.1 1521 = .ok (.iconst 0, 1) := by decide +kernel
theorem dLw_law__1522 : decode mLw_law_.2.1 1522 = .ok (.ireturn, 1) := by decide +kernel
theorem dLw_law__1523 : decode mLw_law_.2.1 1523 = .ok (.iload 5, 2) := by decide +kernel
theorem dLw_law__1525 : decode mLw_law_.2.1 1525 = .ok (.ifCond .ne 15, 3) := by decide +kernel
theorem dLw_law__1528 : decode mLw_law_.2.1 1528 = .ok (.aload_n 3, 1) := by decide +kernel
theorem dLw_law__1529 : decode mLw_law_.2.1 1529 = .ok (.iconst 0, 1) := by decide +kernel
theorem dLw_law__1530 : decode mLw_law_.2.1 1530 = .ok (.laload, 1) := by decide +kernel
theorem dLw_law__1531 : decode mLw_law_.2.1 1531 = .ok (.iload 6, 2) := by decide +kernel
theorem dLw_law__1533 : decode mLw_law_.2.1 1533 = .ok (.i2l, 1) := by decide +kernel
theorem dLw_law__1534 : decode mLw_law_.2.1 1534 = .ok (.lcmp, 1) := by decide +kernel
theorem dLw_law__1535 : decode mLw_law_.2.1 1535 = .ok (.ifCond .eq 5, 3) := by decide +kernel
theorem dLw_law__1538 : decode mLw_law_.2.1 1538 = .ok (.iconst 0, 1) := by decide +kernel
theorem dLw_law__1539 : decode mLw_law_.2.1 1539 = .ok (.ireturn, 1) := by decide +kernel
theorem dLw_law__1540 : decode mLw_law_.2.1 1540 = .ok (.goto 303, 3) := by decide +kernel
theorem dLw_law__1543 : decode mLw_law_.2.1 1543 = .ok (.aload_n 1, 1) := by decide +kernel
theorem dLw_law__1544 : decode mLw_law_.2.1 1544 = .ok (.aload_n 0, 1) := by decide +kernel
theorem dLw_law__1545 : decode mLw_law_.2.1 1545 = .ok (.iload 4, 2) := by decide +kernel
theorem dLw_law__1547 : decode mLw_law_.2.1 1547 = .ok (.iconst 1, 1) := by decide +kernel
theorem dLw_law__1548 : decode mLw_law_.2.1 1548 = .ok (.iadd, 1) := by decide +kernel
theorem dLw_law__1549 : decode mLw_law_.2.1 1549 = .ok (.iaload, 1) := by decide +kernel
theorem dLw_law__1550 : decode mLw_law_.2.1 1550 = .ok (.aload_n 0, 1) := by decide +kernel
theorem dLw_law__1551 : decode mLw_law_.2.1 1551 = .ok (.iload 4, 2) := by decide +kernel
theorem dLw_law__1553 : decode mLw_law_.2.1 1553 = .ok (.iconst 2, 1) := by decide +kernel
theorem dLw_law__1554 : decode mLw_law_.2.1 1554 = .ok (.iadd, 1) := by decide +kernel
theorem dLw_law__1555 : decode mLw_law_.2.1 1555 = .ok (.iaload, 1) := by decide +kernel
theorem dLw_law__1556 : decode mLw_law_.2.1 1556 = .ok (.aload_n 3, 1) := by decide +kernel
theorem dLw_law__1557 : decode mLw_law_.2.1 1557 = .ok (.invokestatic 177, 3) := by decide +kernel
theorem dLw_law__1560 : decode mLw_law_.2.1 1560 = .ok (.istore 5, 2) := by decide +kernel
theorem dLw_law__1562 : decode mLw_law_.2.1 1562 = .ok (.aload_n 2, 1) := by decide +kernel
theorem dLw_law__1563 : decode mLw_law_.2.1 1563 = .ok (.aload_n 0, 1) := by decide +kernel
theorem dLw_law__1564 : decode mLw_law_.2.1 1564 = .ok (.iload 4, 2) := by decide +kernel
theorem dLw_law__1566 : decode mLw_law_.2.1 1566 = .ok (.iconst 1, 1) := by decide +kernel
theorem dLw_law__1567 : decode mLw_law_.2.1 1567 = .ok (.iadd, 1) := by decide +kernel
theorem dLw_law__1568 : decode mLw_law_.2.1 1568 = .ok (.iaload, 1) := by decide +kernel
theorem dLw_law__1569 : decode mLw_law_.2.1 1569 = .ok (.aload_n 0, 1) := by decide +kernel
theorem dLw_law__1570 : decode mLw_law_.2.1 1570 = .ok (.iload 4, 2) := by decide +kernel
theorem dLw_law__1572 : decode mLw_law_.2.1 1572 = .ok (.iconst 2, 1) := by decide +kernel
theorem dLw_law__1573 : decode mLw_law_.2.1 1573 = .ok (.iadd, 1) := by decide +kernel
theorem dLw_law__1574 : decode mLw_law_.2.1 1574 = .ok (.iaload, 1) := by decide +kernel
theorem dLw_law__1575 : decode mLw_law_.2.1 1575 = .ok (.invokevirtual 179, 3) := by decide +kernel
theorem dLw_law__1578 : decode mLw_law_.2.1 1578 = .ok (.istore 6, 2) := by decide +kernel
theorem dLw_law__1580 : decode mLw_law_.2.1 1580 = .ok (.aload_n 2, 1) := by decide +kernel
theorem dLw_law__1581 : decode mLw_law_.2.1 1581 = .ok (.invokevirtual 105, 3) := by decide +kernel
theorem dLw_law__1584 : decode mLw_law_.2.1 1584 = .ok (.iload 5, 2) := by decide +kernel
theorem dLw_law__1586 : decode mLw_law_.2.1 1586 = .ok (.if_icmp .eq 5, 3) := by decide +kernel
theorem dLw_law__1589 : decode mLw_law_.2.1 1589 = .ok (.iconst 0, 1) := by decide +kernel
theorem dLw_law__1590 : decode mLw_law_.2.1 1590 = .ok (.ireturn, 1) := by decide +kernel
theorem dLw_law__1591 : decode mLw_law_.2.1 1591 = .ok (.iload 5, 2) := by decide +kernel
theorem dLw_law__1593 : decode mLw_law_.2.1 1593 = .ok (.ifCond .ne 15, 3) := by decide +kernel
theorem dLw_law__1596 : decode mLw_law_.2.1 1596 = .ok (.aload_n 3, 1) := by decide +kernel
theorem dLw_law__1597 : decode mLw_law_.2.1 1597 = .ok (.iconst 0, 1) := by decide +kernel
theorem dLw_law__1598 : decode mLw_law_.2.1 1598 = .ok (.laload, 1) := by decide +kernel
theorem dLw_law__1599 : decode mLw_law_.2.1 1599 = .ok (.iload 6, 2) := by decide +kernel
theorem dLw_law__1601 : decode mLw_law_.2.1 1601 = .ok (.i2l, 1) := by decide +kernel
theorem dLw_law__1602 : decode mLw_law_.2.1 1602 = .ok (.lcmp, 1) := by decide +kernel
theorem dLw_law__1603 : decode mLw_law_.2.1 1603 = .ok (.ifCond .eq 5, 3) := by decide +kernel
theorem dLw_law__1606 : decode mLw_law_.2.1 1606 = .ok (.iconst 0, 1) := by decide +kernel
theorem dLw_law__1607 : decode mLw_law_.2.1 1607 = .ok (.ireturn, 1) := by decide +kernel
theorem dLw_law__1608 : decode mLw_law_.2.1 1608 = .ok (.goto 235, 3) := by decide +kernel
theorem dLw_law__1611 : decode mLw_law_.2.1 1611 = .ok (.aload_n 1, 1) := by decide +kernel
theorem dLw_law__1612 : decode mLw_law_.2.1 1612 = .ok (.aload_n 0, 1) := by decide +kernel
theorem dLw_law__1613 : decode mLw_law_.2.1 1613 = .ok (.iload 4, 2) := by decide +kernel
theorem dLw_law__1615 : decode mLw_law_.2.1 1615 = .ok (.iconst 1, 1) := by decide +kernel
theorem dLw_law__1616 : decode mLw_law_.2.1 1616 = .ok (.iadd, 1) := by decide +kernel
theorem dLw_law__1617 : decode mLw_law_.2.1 1617 = .ok (.iaload, 1) := by decide +kernel
theorem dLw_law__1618 : decode mLw_law_.2.1 1618 = .ok (.aload_n 3, 1) := by decide +kernel
theorem dLw_law__1619 : decode mLw_law_.2.1 1619 = .ok (.invokestatic 180, 3) := by decide +kernel
theorem dLw_law__1622 : decode mLw_law_.2.1 1622 = .ok (.istore 5, 2) := by decide +kernel
theorem dLw_law__1624 : decode mLw_law_.2.1 1624 = .ok (.aload_n 2, 1) := by decide +kernel
theorem dLw_law__1625 : decode mLw_law_.2.1 1625 = .ok (.aload_n 0, 1) := by decide +kernel
theorem dLw_law__1626 : decode mLw_law_.2.1 1626 = .ok (.iload 4, 2) := by decide +kernel
theorem dLw_law__1628 : decode mLw_law_.2.1 1628 = .ok (.iconst 1, 1) := by decide +kernel
theorem dLw_law__1629 : decode mLw_law_.2.1 1629 = .ok (.iadd, 1) := by decide +kernel
theorem dLw_law__1630 : decode mLw_law_.2.1 1630 = .ok (.iaload, 1) := by decide +kernel
theorem dLw_law__1631 : decode mLw_law_.2.1 1631 = .ok (.invokevirtual 182, 3) := by decide +kernel
theorem dLw_law__1634 : decode mLw_law_.2.1 1634 = .ok (.istore 6, 2) := by decide +kernel
theorem dLw_law__1636 : decode mLw_law_.2.1 1636 = .ok (.aload_n 2, 1) := by decide +kernel
theorem dLw_law__1637 : decode mLw_law_.2.1 1637 = .ok (.invokevirtual 105, 3) := by decide +kernel
theorem dLw_law__1640 : decode mLw_law_.2.1 1640 = .ok (.iload 5, 2) := by decide +kernel
theorem dLw_law__1642 : decode mLw_law_.2.1 1642 = .ok (.if_icmp .eq 5, 3) := by decide +kernel
theorem dLw_law__1645 : decode mLw_law_.2.1 1645 = .ok (.iconst 0, 1) := by decide +kernel
theorem dLw_law__1646 : decode mLw_law_.2.1 1646 = .ok (.ireturn, 1) := by decide +kernel
theorem dLw_law__1647 : decode mLw_law_.2.1 1647 = .ok (.iload 5, 2) := by decide +kernel
theorem dLw_law__1649 : decode mLw_law_.2.1 1649 = .ok (.ifCond .ne 15, 3) := by decide +kernel
theorem dLw_law__1652 : decode mLw_law_.2.1 1652 = .ok (.aload_n 3, 1) := by decide +kernel
theorem dLw_law__1653 : decode mLw_law_.2.1 1653 = .ok (.iconst 0, 1) := by decide +kernel
theorem dLw_law__1654 : decode mLw_law_.2.1 1654 = .ok (.laload, 1) := by decide +kernel
theorem dLw_law__1655 : decode mLw_law_.2.1 1655 = .ok (.iload 6, 2) := by decide +kernel
theorem dLw_law__1657 : decode mLw_law_.2.1 1657 = .ok (.i2l, 1) := by decide +kernel
theorem dLw_law__1658 : decode mLw_law_.2.1 1658 = .ok (.lcmp, 1) := by decide +kernel
theorem dLw_law__1659 : decode mLw_law_.2.1 1659 = .ok (.ifCond .eq 5, 3) := by decide +kernel
theorem dLw_law__1662 : decode mLw_law_.2.1 1662 = .ok (.iconst 0, 1) := by decide +kernel
theorem dLw_law__1663 : decode mLw_law_.2.1 1663 = .ok (.ireturn, 1) := by decide +kernel
theorem dLw_law__1664 : decode mLw_law_.2.1 1664 = .ok (.goto 179, 3) := by decide +kernel
theorem dLw_law__1667 : decode mLw_law_.2.1 1667 = .ok (.aload_n 1, 1) := by decide +kernel
theorem dLw_law__1668 : decode mLw_law_.2.1 1668 = .ok (.aload_n 0, 1) := by decide +kernel
theorem dLw_law__1669 : decode mLw_law_.2.1 1669 = .ok (.iload 4, 2) := by decide +kernel
theorem dLw_law__1671 : decode mLw_law_.2.1 1671 = .ok (.iconst 1, 1) := by decide +kernel
theorem dLw_law__1672 : decode mLw_law_.2.1 1672 = .ok (.iadd, 1) := by decide +kernel
theorem dLw_law__1673 : decode mLw_law_.2.1 1673 = .ok (.iaload, 1) := by decide +kernel
theorem dLw_law__1674 : decode mLw_law_.2.1 1674 = .ok (.aload_n 3, 1) := by decide +kernel
theorem dLw_law__1675 : decode mLw_law_.2.1 1675 = .ok (.invokestatic 183, 3) := by decide +kernel
theorem dLw_law__1678 : decode mLw_law_.2.1 1678 = .ok (.istore 5, 2) := by decide +kernel
theorem dLw_law__1680 : decode mLw_law_.2.1 1680 = .ok (.aload_n 2, 1) := by decide +kernel
theorem dLw_law__1681 : decode mLw_law_.2.1 1681 = .ok (.aload_n 0, 1) := by decide +kernel
theorem dLw_law__1682 : decode mLw_law_.2.1 1682 = .ok (.iload 4, 2) := by decide +kernel
theorem dLw_law__1684 : decode mLw_law_.2.1 1684 = .ok (.iconst 1, 1) := by decide +kernel
theorem dLw_law__1685 : decode mLw_law_.2.1 1685 = .ok (.iadd, 1) := by decide +kernel
theorem dLw_law__1686 : decode mLw_law_.2.1 1686 = .ok (.iaload, 1) := by decide +kernel
theorem dLw_law__1687 : decode mLw_law_.2.1 1687 = .ok (.invokevirtual 185, 3) := by decide +kernel
theorem dLw_law__1690 : decode mLw_law_.2.1 1690 = .ok (.istore 6, 2) := by decide +kernel
theorem dLw_law__1692 : decode mLw_law_.2.1 1692 = .ok (.aload_n 2, 1) := by decide +kernel
theorem dLw_law__1693 : decode mLw_law_.2.1 1693 = .ok (.invokevirtual 105, 3) := by decide +kernel
theorem dLw_law__1696 : decode mLw_law_.2.1 1696 = .ok (.iload 5, 2) := by decide +kernel
theorem dLw_law__1698 : decode mLw_law_.2.1 1698 = .ok (.if_icmp .eq 5, 3) := by decide +kernel
theorem dLw_law__1701 : decode mLw_law_.2.1 1701 = .ok (.iconst 0, 1) := by decide +kernel
theorem dLw_law__1702 : decode mLw_law_.2.1 1702 = .ok (.ireturn, 1) := by decide +kernel
theorem dLw_law__1703 : decode mLw_law_.2.1 1703 = .ok (.iload 5, 2) := by decide +kernel
theorem dLw_law__1705 : decode mLw_law_.2.1 1705 = .ok (.ifCond .ne 15, 3) := by decide +kernel
theorem dLw_law__1708 : decode mLw_law_.2.1 1708 = .ok (.aload_n 3, 1) := by decide +kernel
theorem dLw_law__1709 : decode mLw_law_.2.1 1709 = .ok (.iconst 0, 1) := by decide +kernel
theorem dLw_law__1710 : decode mLw_law_.2.1 1710 = .ok (.laload, 1) := by decide +kernel
theorem dLw_law__1711 : decode mLw_law_.2.1 1711 = .ok (.iload 6, 2) := by decide +kernel
theorem dLw_law__1713 : decode mLw_law_.2.1 1713 = .ok (.i2l, 1) := by decide +kernel
theorem dLw_law__1714 : decode mLw_law_.2.1 1714 = .ok (.lcmp, 1) := by decide +kernel
theorem dLw_law__1715 : decode mLw_law_.2.1 1715 = .ok (.ifCond .eq 5, 3) := by decide +kernel
theorem dLw_law__1718 : decode mLw_law_.2.1 1718 = .ok (.iconst 0, 1) := by decide +kernel
theorem dLw_law__1719 : decode mLw_law_.2.1 1719 = .ok (.ireturn, 1) := by decide +kernel
theorem dLw_law__1720 : decode mLw_law_.2.1 1720 = .ok (.goto 123, 3) := by decide +kernel
theorem dLw_law__1723 : decode mLw_law_.2.1 1723 = .ok (.aload_n 1, 1) := by decide +kernel
theorem dLw_law__1724 : decode mLw_law_.2.1 1724 = .ok (.aload_n 0, 1) := by decide +kernel
theorem dLw_law__1725 : decode mLw_law_.2.1 1725 = .ok (.iload 4, 2) := by decide +kernel
theorem dLw_law__1727 : decode mLw_law_.2.1 1727 = .ok (.iconst 1, 1) := by decide +kernel
theorem dLw_law__1728 : decode mLw_law_.2.1 1728 = .ok (.iadd, 1) := by decide +kernel
theorem dLw_law__1729 : decode mLw_law_.2.1 1729 = .ok (.iaload, 1) := by decide +kernel
theorem dLw_law__1730 : decode mLw_law_.2.1 1730 = .ok (.aload_n 3, 1) := by decide +kernel
theorem dLw_law__1731 : decode mLw_law_.2.1 1731 = .ok (.invokestatic 186, 3) := by decide +kernel
theorem dLw_law__1734 : decode mLw_law_.2.1 1734 = .ok (.istore 5, 2) := by decide +kernel
theorem dLw_law__1736 : decode mLw_law_.2.1 1736 = .ok (.aload_n 2, 1) := by decide +kernel
theorem dLw_law__1737 : decode mLw_law_.2.1 1737 = .ok (.aload_n 0, 1) := by decide +kernel
theorem dLw_law__1738 : decode mLw_law_.2.1 1738 = .ok (.iload 4, 2) := by decide +kernel
theorem dLw_law__1740 : decode mLw_law_.2.1 1740 = .ok (.iconst 1, 1) := by decide +kernel
theorem dLw_law__1741 : decode mLw_law_.2.1 1741 = .ok (.iadd, 1) := by decide +kernel
theorem dLw_law__1742 : decode mLw_law_.2.1 1742 = .ok (.iaload, 1) := by decide +kernel
theorem dLw_law__1743 : decode mLw_law_.2.1 1743 = .ok (.invokevirtual 188, 3) := by decide +kernel
theorem dLw_law__1746 : decode mLw_law_.2.1 1746 = .ok (.istore 6, 2) := by decide +kernel
theorem dLw_law__1748 : decode mLw_law_.2.1 1748 = .ok (.aload_n 2, 1) := by decide +kernel
theorem dLw_law__1749 : decode mLw_law_.2.1 1749 = .ok (.invokevirtual 105, 3) := by decide +kernel
theorem dLw_law__1752 : decode mLw_law_.2.1 1752 = .ok (.iload 5, 2) := by decide +kernel
theorem dLw_law__1754 : decode mLw_law_.2.1 1754 = .ok (.if_icmp .eq 5, 3) := by decide +kernel
theorem dLw_law__1757 : decode mLw_law_.2.1 1757 = .ok (.iconst 0, 1) := by decide +kernel
theorem dLw_law__1758 : decode mLw_law_.2.1 1758 = .ok (.ireturn, 1) := by decide +kernel
theorem dLw_law__1759 : decode mLw_law_.2.1 1759 = .ok (.iload 5, 2) := by decide +kernel
theorem dLw_law__1761 : decode mLw_law_.2.1 1761 = .ok (.ifCond .ne 15, 3) := by decide +kernel
theorem dLw_law__1764 : decode mLw_law_.2.1 1764 = .ok (.aload_n 3, 1) := by decide +kernel
theorem dLw_law__1765 : decode mLw_law_.2.1 1765 = .ok (.iconst 0, 1) := by decide +kernel
theorem dLw_law__1766 : decode mLw_law_.2.1 1766 = .ok (.laload, 1) := by decide +kernel
theorem dLw_law__1767 : decode mLw_law_.2.1 1767 = .ok (.iload 6, 2) := by decide +kernel
theorem dLw_law__1769 : decode mLw_law_.2.1 1769 = .ok (.i2l, 1) := by decide +kernel
theorem dLw_law__1770 : decode mLw_law_.2.1 1770 = .ok (.lcmp, 1) := by decide +kernel
theorem dLw_law__1771 : decode mLw_law_.2.1 1771 = .ok (.ifCond .eq 5, 3) := by decide +kernel
theorem dLw_law__1774 : decode mLw_law_.2.1 1774 = .ok (.iconst 0, 1) := by decide +kernel
theorem dLw_law__1775 : decode mLw_law_.2.1 1775 = .ok (.ireturn, 1) := by decide +kernel
theorem dLw_law__1776 : decode mLw_law_.2.1 1776 = .ok (.goto 67, 3) := by decide +kernel
theorem dLw_law__1779 : decode mLw_law_.2.1 1779 = .ok (.aload_n 1, 1) := by decide +kernel
theorem dLw_law__1780 : decode mLw_law_.2.1 1780 = .ok (.invokevirtual 189, 3) := by decide +kernel
theorem dLw_law__1783 : decode mLw_law_.2.1 1783 = .ok (.aload_n 2, 1) := by decide +kernel
theorem dLw_law__1784 : decode mLw_law_.2.1 1784 = .ok (.invokevirtual 192, 3) := by decide +kernel
theorem dLw_law__1787 : decode mLw_law_.2.1 1787 = .ok (.if_icmp .eq 56, 3) := by decide +kernel
theorem dLw_law__1790 : decode mLw_law_.2.1 1790 = .ok (.iconst 0, 1) := by decide +kernel
theorem dLw_law__1791 : decode mLw_law_.2.1 1791 = .ok (.ireturn, 1) := by decide +kernel
theorem dLw_law__1792 : decode mLw_law_.2.1 1792 = .ok (.aload_n 1, 1) := by decide +kernel
theorem dLw_law__1793 : decode mLw_law_.2.1 1793 = .ok (.invokevirtual 193, 3) := by decide +kernel
theorem dLw_law__1796 : decode mLw_law_.2.1 1796 = .ok (.aload_n 2, 1) := by decide +kernel
theorem dLw_law__1797 : decode mLw_law_.2.1 1797 = .ok (.invokevirtual 196, 3) := by decide +kernel
theorem dLw_law__1800 : decode mLw_law_.2.1 1800 = .ok (.if_icmp .eq 43, 3) := by decide +kernel
theorem dLw_law__1803 : decode mLw_law_.2.1 1803 = .ok (.iconst 0, 1) := by decide +kernel
theorem dLw_law__1804 : decode mLw_law_.2.1 1804 = .ok (.ireturn, 1) := by decide +kernel
theorem dLw_law__1805 : decode mLw_law_.2.1 1805 = .ok (.aload_n 1, 1) := by decide +kernel
theorem dLw_law__1806 : decode mLw_law_.2.1 1806 = .ok (.invokevirtual 197, 3) := by decide +kernel
theorem dLw_law__1809 : decode mLw_law_.2.1 1809 = .ok (.aload_n 2, 1) := by decide +kernel
theorem dLw_law__1810 : decode mLw_law_.2.1 1810 = .ok (.invokevirtual 200, 3) := by decide +kernel
theorem dLw_law__1813 : decode mLw_law_.2.1 1813 = .ok (.if_icmp .eq 30, 3) := by decide +kernel
theorem dLw_law__1816 : decode mLw_law_.2.1 1816 = .ok (.iconst 0, 1) := by decide +kernel
theorem dLw_law__1817 : decode mLw_law_.2.1 1817 = .ok (.ireturn, 1) := by decide +kernel
theorem dLw_law__1818 : decode mLw_law_.2.1 1818 = .ok (.aload_n 1, 1) := by decide +kernel
theorem dLw_law__1819 : decode mLw_law_.2.1 1819 = .ok (.aload_n 0, 1) := by decide +kernel
theorem dLw_law__1820 : decode mLw_law_.2.1 1820 = .ok (.iload 4, 2) := by decide +kernel
theorem dLw_law__1822 : decode mLw_law_.2.1 1822 = .ok (.iconst 1, 1) := by decide +kernel
theorem dLw_law__1823 : decode mLw_law_.2.1 1823 = .ok (.iadd, 1) := by decide +kernel
theorem dLw_law__1824 : decode mLw_law_.2.1 1824 = .ok (.iaload, 1) := by decide +kernel
theorem dLw_law__1825 : decode mLw_law_.2.1 1825 = .ok (.invokevirtual 201, 3) := by decide +kernel
theorem dLw_law__1828 : decode mLw_law_.2.1 1828 = .ok (.aload_n 2, 1) := by decide +kernel
theorem dLw_law__1829 : decode mLw_law_.2.1 1829 = .ok (.aload_n 0, 1) := by decide +kernel
theorem dLw_law__1830 : decode mLw_law_.2.1 1830 = .ok (.iload 4, 2) := by decide +kernel
theorem dLw_law__1832 : decode mLw_law_.2.1 1832 = .ok (.iconst 1, 1) := by decide +kernel
theorem dLw_law__1833 : decode mLw_law_.2.1 1833 = .ok (.iadd, 1) := by decide +kernel
theorem dLw_law__1834 : decode mLw_law_.2.1 1834 = .ok (.iaload, 1) := by decide +kernel
theorem dLw_law__1835 : decode mLw_law_.2.1 1835 = .ok (.invokevirtual 204, 3) := by decide +kernel
theorem dLw_law__1838 : decode mLw_law_.2.1 1838 = .ok (.if_icmp .eq 5, 3) := by decide +kernel
theorem dLw_law__1841 : decode mLw_law_.2.1 1841 = .ok (.iconst 0, 1) := by decide +kernel
theorem dLw_law__1842 : decode mLw_law_.2.1 1842 = .ok (.ireturn, 1) := by decide +kernel
theorem dLw_law__1843 : decode mLw_law_.2.1 1843 = .ok (.iinc 4 6, 3) := by decide +kernel
theorem dLw_law__1846 : decode mLw_law_.2.1 1846 = .ok (.goto (-1823), 3) := by decide +kernel
theorem dLw_law__1849 : decode mLw_law_.2.1 1849 = .ok (.iconst 1, 1) := by decide +kernel
theorem dLw_law__1850 : decode mLw_law_.2.1 1850 = .ok (.ireturn, 1) := by decide +kernel
theorem w120 : Cond.classLink "BowingRowLaw" 8 "BowingRow" ∈ lwg := lwg_of 120 (by decide +kernel) (by decide +kernel)
theorem w121 : Cond.instantiable "BowingRow" 18 ∈ lwg := lwg_of 121 (by decide +kernel) (by decide +kernel)
theorem w91 : Cond.initialized "BowingRow" ∈ lwg := lwg_of 91 (by decide +kernel) (by decide +kernel)
theorem w122 : Cond.methodLink "BowingRowLaw" 90 ⟨"BowingRow", "<init>", "()V"⟩ ∈ lwg := lwg_of 122 (by decide +kernel) (by decide +kernel)
theorem bLw_law__0 {l : Launch} {G : Gx} {d : Nat} {bc bs : Nat} {Φ : OutV → Mm → Prop} {L : Nat} {xs : Nat → Int32} (hSC : SC G L xs) (M : Mm) 
    (h : (1 ≤ bc ∧ nFd 10 ≤ bs) ∧ ((m_nx M) ≠ 0) ∧ CallTC l G d mLw_law_ 7 [.ref 98, .null, .null, .null, .null, .null, .null] [.ref (m_nx M)] mBo_init [.ref (m_nx M)] (m_al M (10, 0)) (bc - 1) (bs - nFd 10) Φ) :
    EvT [] l G d mLw_law_ 0 [.ref 98, .null, .null, .null, .null, .null, .null] [] M bc bs Φ := by
  have g1 := h.1
  replace h := h.2
  refine EvT.newO2 (T := TX11) 10 dLw_law__0 rfl (by decide) w120 w121 w91 g1 ?_
  refine EvT.dup dLw_law__3 rfl ?_
  have g2 := h.1
  replace h := h.2
  exact EvT.vcI (z := mBo_init) [] [.ref (m_nx M)] rfl dLw_law__4 oBo_init rfl (Or.inl w122) iBo_init rfl rfl g2 (Nat.le_of_ble_eq_true rfl) h
theorem w1275 : Cond.classLink "BowingRowLaw" 91 "BowingRowModel" ∈ lwg := lwg_of 1275 (by decide +kernel) (by decide +kernel)
theorem w1276 : Cond.instantiable "BowingRowModel" 60 ∈ lwg := lwg_of 1276 (by decide +kernel) (by decide +kernel)
theorem w103 : Cond.initialized "BowingRowModel" ∈ lwg := lwg_of 103 (by decide +kernel) (by decide +kernel)
theorem w1277 : Cond.methodLink "BowingRowLaw" 93 ⟨"BowingRowModel", "<init>", "()V"⟩ ∈ lwg := lwg_of 1277 (by decide +kernel) (by decide +kernel)
theorem bLw_law__7 {l : Launch} {G : Gx} {d : Nat} {bc bs : Nat} {Φ : OutV → Mm → Prop} {L : Nat} {xs : Nat → Int32} (hSC : SC G L xs) (M : Mm) (u1 : Value) (u2 : Value) (u3 : Value) (u4 : Value) (u5 : Value) (u6 : Value) (r0 : Nat)
    (h : (1 ≤ bc ∧ nFd 11 ≤ bs) ∧ ((m_nx M) ≠ 0) ∧ CallTC l G d mLw_law_ 15 [.ref 98, .ref r0, u2, u3, u4, u5, u6] [.ref (m_nx M)] mRe_init [.ref (m_nx M)] (m_al M (11, 0)) (bc - 1) (bs - nFd 11) Φ) :
    EvT [] l G d mLw_law_ 7 [.ref 98, u1, u2, u3, u4, u5, u6] [.ref r0] M bc bs Φ := by
  refine EvT.astore_n dLw_law__7 (by decide) ?_
  show EvT [] l G d mLw_law_ (_ + _) [.ref 98, .ref r0, u2, u3, u4, u5, u6] [] M bc bs Φ
  have g1 := h.1
  replace h := h.2
  refine EvT.newO2 (T := TX12) 11 dLw_law__8 rfl (by decide) w1275 w1276 w103 g1 ?_
  refine EvT.dup dLw_law__11 rfl ?_
  have g2 := h.1
  replace h := h.2
  exact EvT.vcI (z := mRe_init) [] [.ref (m_nx M)] rfl dLw_law__12 oRe_init rfl (Or.inl w1277) iRe_init rfl rfl g2 (Nat.le_of_ble_eq_true rfl) h
theorem w1827 : Cond.arrayClass .long ∈ lwg := lwg_of 1827 (by decide +kernel) (by decide +kernel)
theorem bLw_law__15 {l : Launch} {G : Gx} {d : Nat} {bc bs : Nat} {Φ : OutV → Mm → Prop} {L : Nat} {xs : Nat → Int32} (hSC : SC G L xs) (M : Mm) (a1 : Nat) (u2 : Value) (u3 : Value) (u4 : Value) (u5 : Value) (u6 : Value) (r0 : Nat)
    (h : (1 ≤ bc ∧ 1 ≤ bs) ∧ EvT [] l G d mLw_law_ 23 [.ref 98, .ref a1, .ref r0, .ref (m_nx M), .int 0, u5, u6] [] (m_al M (22, 1)) (bc - 1) (bs - 1) Φ) :
    EvT [] l G d mLw_law_ 15 [.ref 98, .ref a1, u2, u3, u4, u5, u6] [.ref r0] M bc bs Φ := by
  refine EvT.astore_n dLw_law__15 (by decide) ?_
  show EvT [] l G d mLw_law_ (_ + _) [.ref 98, .ref a1, .ref r0, u3, u4, u5, u6] [] M bc bs Φ
  refine EvT.iconst (v := 1) dLw_law__16 (by decide) ?_
  have g1 := h.1
  replace h := h.2
  refine EvT.newL2 1 dLw_law__17 w1827 (by decide) (by decide) (by decide) g1 ?_
  refine EvT.astore_n dLw_law__19 (by decide) ?_
  show EvT [] l G d mLw_law_ (_ + _) [.ref 98, .ref a1, .ref r0, .ref (m_nx M), u4, u5, u6] [] (m_al M (22, 1)) (bc - 1) (bs - 1) Φ
  refine EvT.iconst (v := 0) dLw_law__20 (by decide) ?_
  refine EvT.istore dLw_law__21 (by decide) ?_
  show EvT [] l G d mLw_law_ (_ + _) [.ref 98, .ref a1, .ref r0, .ref (m_nx M), .int 0, u5, u6] [] (m_al M (22, 1)) (bc - 1) (bs - 1) Φ
  exact h
theorem bLw_law__23 {l : Launch} {G : Gx} {d : Nat} {bc bs : Nat} {Φ : OutV → Mm → Prop} {L : Nat} {xs : Nat → Int32} (hSC : SC G L xs) (M : Mm) (a1 : Nat) (a2 : Nat) (a3 : Nat) (x4 : Int32) (u5 : Value) (u6 : Value)
    (h : (((nI L) - 6) < x4 → Φ (.inl (some (.int 1))) M) ∧ (¬ ((nI L) - 6) < x4 → (vp_in x4 L) ∧ (((xs x4.toNatClampNeg) &&& 31) = 0 → EvT [] l G d mLw_law_ 180 [.ref 98, .ref a1, .ref a2, .ref a3, .int x4, u5, u6] [] M bc bs Φ) ∧ ((((xs x4.toNatClampNeg) &&& 31) = 1 → EvT [] l G d mLw_law_ 253 [.ref 98, .ref a1, .ref a2, .ref a3, .int x4, u5, u6] [] M bc bs Φ) ∧ ((((xs x4.toNatClampNeg) &&& 31) = 2 → EvT [] l G d mLw_law_ 309 [.ref 98, .ref a1, .ref a2, .ref a3, .int x4, u5, u6] [] M bc bs Φ) ∧ ((((xs x4.toNatClampNeg) &&& 31) = 3 → EvT [] l G d mLw_law_ 365 [.ref 98, .ref a1, .ref a2, .ref a3, .int x4, u5, u6] [] M bc bs Φ) ∧ ((((xs x4.toNatClampNeg) &&& 31) = 4 → EvT [] l G d mLw_law_ 378 [.ref 98, .ref a1, .ref a2, .ref a3, .int x4, u5, u6] [] M bc bs Φ) ∧ ((((xs x4.toNatClampNeg) &&& 31) = 5 → EvT [] l G d mLw_law_ 434 [.ref 98, .ref a1, .ref a2, .ref a3, .int x4, u5, u6] [] M bc bs Φ) ∧ ((((xs x4.toNatClampNeg) &&& 31) = 6 → EvT [] l G d mLw_law_ 502 [.ref 98, .ref a1, .ref a2, .ref a3, .int x4, u5, u6] [] M bc bs Φ) ∧ ((((xs x4.toNatClampNeg) &&& 31) = 7 → EvT [] l G d mLw_law_ 570 [.ref 98, .ref a1, .ref a2, .ref a3, .int x4, u5, u6] [] M bc bs Φ) ∧ ((((xs x4.toNatClampNeg) &&& 31) = 8 → EvT [] l G d mLw_law_ 638 [.ref 98, .ref a1, .ref a2, .ref a3, .int x4, u5, u6] [] M bc bs Φ) ∧ ((((xs x4.toNatClampNeg) &&& 31) = 9 → EvT [] l G d mLw_law_ 725 [.ref 98, .ref a1, .ref a2, .ref a3, .int x4, u5, u6] [] M bc bs Φ) ∧ ((((xs x4.toNatClampNeg) &&& 31) = 10 → EvT [] l G d mLw_law_ 805 [.ref 98, .ref a1, .ref a2, .ref a3, .int x4, u5, u6] [] M bc bs Φ) ∧ ((((xs x4.toNatClampNeg) &&& 31) = 11 → EvT [] l G d mLw_law_ 861 [.ref 98, .ref a1, .ref a2, .ref a3, .int x4, u5, u6] [] M bc bs Φ) ∧ ((((xs x4.toNatClampNeg) &&& 31) = 12 → EvT [] l G d mLw_law_ 929 [.ref 98, .ref a1, .ref a2, .ref a3, .int x4, u5, u6] [] M bc bs Φ) ∧ ((((xs x4.toNatClampNeg) &&& 31) = 13 → EvT [] l G d mLw_law_ 997 [.ref 98, .ref a1, .ref a2, .ref a3, .int x4, u5, u6] [] M bc bs Φ) ∧ ((((xs x4.toNatClampNeg) &&& 31) = 14 → EvT [] l G d mLw_law_ 1053 [.ref 98, .ref a1, .ref a2, .ref a3, .int x4, u5, u6] [] M bc bs Φ) ∧ ((((xs x4.toNatClampNeg) &&& 31) = 15 → EvT [] l G d mLw_law_ 1109 [.ref 98, .ref a1, .ref a2, .ref a3, .int x4, u5, u6] [] M bc bs Φ) ∧ ((((xs x4.toNatClampNeg) &&& 31) = 16 → EvT [] l G d mLw_law_ 1177 [.ref 98, .ref a1, .ref a2, .ref a3, .int x4, u5, u6] [] M bc bs Φ) ∧ ((((xs x4.toNatClampNeg) &&& 31) = 17 → EvT [] l G d mLw_law_ 1245 [.ref 98, .ref a1, .ref a2, .ref a3, .int x4, u5, u6] [] M bc bs Φ) ∧ ((((xs x4.toNatClampNeg) &&& 31) = 18 → EvT [] l G d mLw_law_ 1301 [.ref 98, .ref a1, .ref a2, .ref a3, .int x4, u5, u6] [] M bc bs Φ) ∧ ((((xs x4.toNatClampNeg) &&& 31) = 19 → EvT [] l G d mLw_law_ 1314 [.ref 98, .ref a1, .ref a2, .ref a3, .int x4, u5, u6] [] M bc bs Φ) ∧ ((((xs x4.toNatClampNeg) &&& 31) = 20 → EvT [] l G d mLw_law_ 1327 [.ref 98, .ref a1, .ref a2, .ref a3, .int x4, u5, u6] [] M bc bs Φ) ∧ ((((xs x4.toNatClampNeg) &&& 31) = 21 → EvT [] l G d mLw_law_ 1407 [.ref 98, .ref a1, .ref a2, .ref a3, .int x4, u5, u6] [] M bc bs Φ) ∧ ((((xs x4.toNatClampNeg) &&& 31) = 22 → EvT [] l G d mLw_law_ 1475 [.ref 98, .ref a1, .ref a2, .ref a3, .int x4, u5, u6] [] M bc bs Φ) ∧ ((((xs x4.toNatClampNeg) &&& 31) = 23 → EvT [] l G d mLw_law_ 1543 [.ref 98, .ref a1, .ref a2, .ref a3, .int x4, u5, u6] [] M bc bs Φ) ∧ ((((xs x4.toNatClampNeg) &&& 31) = 24 → EvT [] l G d mLw_law_ 1611 [.ref 98, .ref a1, .ref a2, .ref a3, .int x4, u5, u6] [] M bc bs Φ) ∧ ((((xs x4.toNatClampNeg) &&& 31) = 25 → EvT [] l G d mLw_law_ 1667 [.ref 98, .ref a1, .ref a2, .ref a3, .int x4, u5, u6] [] M bc bs Φ) ∧ ((((xs x4.toNatClampNeg) &&& 31) = 26 → EvT [] l G d mLw_law_ 1723 [.ref 98, .ref a1, .ref a2, .ref a3, .int x4, u5, u6] [] M bc bs Φ) ∧ ((((xs x4.toNatClampNeg) &&& 31) = 27 → EvT [] l G d mLw_law_ 1779 [.ref 98, .ref a1, .ref a2, .ref a3, .int x4, u5, u6] [] M bc bs Φ) ∧ ((((xs x4.toNatClampNeg) &&& 31) = 28 → EvT [] l G d mLw_law_ 1792 [.ref 98, .ref a1, .ref a2, .ref a3, .int x4, u5, u6] [] M bc bs Φ) ∧ ((((xs x4.toNatClampNeg) &&& 31) = 29 → EvT [] l G d mLw_law_ 1805 [.ref 98, .ref a1, .ref a2, .ref a3, .int x4, u5, u6] [] M bc bs Φ) ∧ ((((xs x4.toNatClampNeg) &&& 31) = 30 → EvT [] l G d mLw_law_ 1818 [.ref 98, .ref a1, .ref a2, .ref a3, .int x4, u5, u6] [] M bc bs Φ) ∧ (¬ ((xs x4.toNatClampNeg) &&& 31) = 0 → ¬ ((xs x4.toNatClampNeg) &&& 31) = 1 → ¬ ((xs x4.toNatClampNeg) &&& 31) = 2 → ¬ ((xs x4.toNatClampNeg) &&& 31) = 3 → ¬ ((xs x4.toNatClampNeg) &&& 31) = 4 → ¬ ((xs x4.toNatClampNeg) &&& 31) = 5 → ¬ ((xs x4.toNatClampNeg) &&& 31) = 6 → ¬ ((xs x4.toNatClampNeg) &&& 31) = 7 → ¬ ((xs x4.toNatClampNeg) &&& 31) = 8 → ¬ ((xs x4.toNatClampNeg) &&& 31) = 9 → ¬ ((xs x4.toNatClampNeg) &&& 31) = 10 → ¬ ((xs x4.toNatClampNeg) &&& 31) = 11 → ¬ ((xs x4.toNatClampNeg) &&& 31) = 12 → ¬ ((xs x4.toNatClampNeg) &&& 31) = 13 → ¬ ((xs x4.toNatClampNeg) &&& 31) = 14 → ¬ ((xs x4.toNatClampNeg) &&& 31) = 15 → ¬ ((xs x4.toNatClampNeg) &&& 31) = 16 → ¬ ((xs x4.toNatClampNeg) &&& 31) = 17 → ¬ ((xs x4.toNatClampNeg) &&& 31) = 18 → ¬ ((xs x4.toNatClampNeg) &&& 31) = 19 → ¬ ((xs x4.toNatClampNeg) &&& 31) = 20 → ¬ ((xs x4.toNatClampNeg) &&& 31) = 21 → ¬ ((xs x4.toNatClampNeg) &&& 31) = 22 → ¬ ((xs x4.toNatClampNeg) &&& 31) = 23 → ¬ ((xs x4.toNatClampNeg) &&& 31) = 24 → ¬ ((xs x4.toNatClampNeg) &&& 31) = 25 → ¬ ((xs x4.toNatClampNeg) &&& 31) = 26 → ¬ ((xs x4.toNatClampNeg) &&& 31) = 27 → ¬ ((xs x4.toNatClampNeg) &&& 31) = 28 → ¬ ((xs x4.toNatClampNeg) &&& 31) = 29 → ¬ ((xs x4.toNatClampNeg) &&& 31) = 30 → EvT [] l G d mLw_law_ 1843 [.ref 98, .ref a1, .ref a2, .ref a3, .int x4, u5, u6] [] M bc bs Φ))))))))))))))))))))))))))))))))) :
    EvT [] l G d mLw_law_ 23 [.ref 98, .ref a1, .ref a2, .ref a3, .int x4, u5, u6] [] M bc bs Φ := by
  refine EvT.iload dLw_law__23 rfl ?_
  refine EvT.aload_n dLw_law__25 rfl ?_
  refine EvT.sclen hSC dLw_law__26 ?_
  refine EvT.bipush (v := 6) dLw_law__27 (by decide) ?_
  refine EvT.isub dLw_law__29 ?_
  refine EvT.icmp_gt 1849 (by decide) dLw_law__30 (fun c => ?_) (fun c => ?_)
  · replace h := h.1 c
    refine EvT.iconst (v := 1) dLw_law__1849 (by decide) ?_
    exact EvT.iret dLw_law__1850 rfl rfl h
  · replace h := h.2 c
    refine EvT.aload_n dLw_law__33 rfl ?_
    refine EvT.iload dLw_law__34 rfl ?_
    have g1 := h.1
    replace h := h.2
    refine EvT.scld hSC dLw_law__36 g1 ?_
    refine EvT.bipush (v := 31) dLw_law__37 (by decide) ?_
    refine EvT.iand dLw_law__39 ?_
    skip
    by_cases c : ((xs x4.toNatClampNeg) &&& 31) = 0
    · refine EvT.tblAt 180 dLw_law__40 (by rw [c]; decide) (by rw [c]; decide) (by rw [c]; rfl) (by decide) ?_
      replace h := h.1 c
      exact h
    have c2 := c
    clear c
    replace h := h.2
    by_cases c : ((xs x4.toNatClampNeg) &&& 31) = 1
    · refine EvT.tblAt 253 dLw_law__40 (by rw [c]; decide) (by rw [c]; decide) (by rw [c]; rfl) (by decide) ?_
      replace h := h.1 c
      exact h
    have c3 := c
    clear c
    replace h := h.2
    by_cases c : ((xs x4.toNatClampNeg) &&& 31) = 2
    · refine EvT.tblAt 309 dLw_law__40 (by rw [c]; decide) (by rw [c]; decide) (by rw [c]; rfl) (by decide) ?_
      replace h := h.1 c
      exact h
    have c4 := c
    clear c
    replace h := h.2
    by_cases c : ((xs x4.toNatClampNeg) &&& 31) = 3
    · refine EvT.tblAt 365 dLw_law__40 (by rw [c]; decide) (by rw [c]; decide) (by rw [c]; rfl) (by decide) ?_
      replace h := h.1 c
      exact h
    have c5 := c
    clear c
    replace h := h.2
    by_cases c : ((xs x4.toNatClampNeg) &&& 31) = 4
    · refine EvT.tblAt 378 dLw_law__40 (by rw [c]; decide) (by rw [c]; decide) (by rw [c]; rfl) (by decide) ?_
      replace h := h.1 c
      exact h
    have c6 := c
    clear c
    replace h := h.2
    by_cases c : ((xs x4.toNatClampNeg) &&& 31) = 5
    · refine EvT.tblAt 434 dLw_law__40 (by rw [c]; decide) (by rw [c]; decide) (by rw [c]; rfl) (by decide) ?_
      replace h := h.1 c
      exact h
    have c7 := c
    clear c
    replace h := h.2
    by_cases c : ((xs x4.toNatClampNeg) &&& 31) = 6
    · refine EvT.tblAt 502 dLw_law__40 (by rw [c]; decide) (by rw [c]; decide) (by rw [c]; rfl) (by decide) ?_
      replace h := h.1 c
      exact h
    have c8 := c
    clear c
    replace h := h.2
    by_cases c : ((xs x4.toNatClampNeg) &&& 31) = 7
    · refine EvT.tblAt 570 dLw_law__40 (by rw [c]; decide) (by rw [c]; decide) (by rw [c]; rfl) (by decide) ?_
      replace h := h.1 c
      exact h
    have c9 := c
    clear c
    replace h := h.2
    by_cases c : ((xs x4.toNatClampNeg) &&& 31) = 8
    · refine EvT.tblAt 638 dLw_law__40 (by rw [c]; decide) (by rw [c]; decide) (by rw [c]; rfl) (by decide) ?_
      replace h := h.1 c
      exact h
    have c10 := c
    clear c
    replace h := h.2
    by_cases c : ((xs x4.toNatClampNeg) &&& 31) = 9
    · refine EvT.tblAt 725 dLw_law__40 (by rw [c]; decide) (by rw [c]; decide) (by rw [c]; rfl) (by decide) ?_
      replace h := h.1 c
      exact h
    have c11 := c
    clear c
    replace h := h.2
    by_cases c : ((xs x4.toNatClampNeg) &&& 31) = 10
    · refine EvT.tblAt 805 dLw_law__40 (by rw [c]; decide) (by rw [c]; decide) (by rw [c]; rfl) (by decide) ?_
      replace h := h.1 c
      exact h
    have c12 := c
    clear c
    replace h := h.2
    by_cases c : ((xs x4.toNatClampNeg) &&& 31) = 11
    · refine EvT.tblAt 861 dLw_law__40 (by rw [c]; decide) (by rw [c]; decide) (by rw [c]; rfl) (by decide) ?_
      replace h := h.1 c
      exact h
    have c13 := c
    clear c
    replace h := h.2
    by_cases c : ((xs x4.toNatClampNeg) &&& 31) = 12
    · refine EvT.tblAt 929 dLw_law__40 (by rw [c]; decide) (by rw [c]; decide) (by rw [c]; rfl) (by decide) ?_
      replace h := h.1 c
      exact h
    have c14 := c
    clear c
    replace h := h.2
    by_cases c : ((xs x4.toNatClampNeg) &&& 31) = 13
    · refine EvT.tblAt 997 dLw_law__40 (by rw [c]; decide) (by rw [c]; decide) (by rw [c]; rfl) (by decide) ?_
      replace h := h.1 c
      exact h
    have c15 := c
    clear c
    replace h := h.2
    by_cases c : ((xs x4.toNatClampNeg) &&& 31) = 14
    · refine EvT.tblAt 1053 dLw_law__40 (by rw [c]; decide) (by rw [c]; decide) (by rw [c]; rfl) (by decide) ?_
      replace h := h.1 c
      exact h
    have c16 := c
    clear c
    replace h := h.2
    by_cases c : ((xs x4.toNatClampNeg) &&& 31) = 15
    · refine EvT.tblAt 1109 dLw_law__40 (by rw [c]; decide) (by rw [c]; decide) (by rw [c]; rfl) (by decide) ?_
      replace h := h.1 c
      exact h
    have c17 := c
    clear c
    replace h := h.2
    by_cases c : ((xs x4.toNatClampNeg) &&& 31) = 16
    · refine EvT.tblAt 1177 dLw_law__40 (by rw [c]; decide) (by rw [c]; decide) (by rw [c]; rfl) (by decide) ?_
      replace h := h.1 c
      exact h
    have c18 := c
    clear c
    replace h := h.2
    by_cases c : ((xs x4.toNatClampNeg) &&& 31) = 17
    · refine EvT.tblAt 1245 dLw_law__40 (by rw [c]; decide) (by rw [c]; decide) (by rw [c]; rfl) (by decide) ?_
      replace h := h.1 c
      exact h
    have c19 := c
    clear c
    replace h := h.2
    by_cases c : ((xs x4.toNatClampNeg) &&& 31) = 18
    · refine EvT.tblAt 1301 dLw_law__40 (by rw [c]; decide) (by rw [c]; decide) (by rw [c]; rfl) (by decide) ?_
      replace h := h.1 c
      exact h
    have c20 := c
    clear c
    replace h := h.2
    by_cases c : ((xs x4.toNatClampNeg) &&& 31) = 19
    · refine EvT.tblAt 1314 dLw_law__40 (by rw [c]; decide) (by rw [c]; decide) (by rw [c]; rfl) (by decide) ?_
      replace h := h.1 c
      exact h
    have c21 := c
    clear c
    replace h := h.2
    by_cases c : ((xs x4.toNatClampNeg) &&& 31) = 20
    · refine EvT.tblAt 1327 dLw_law__40 (by rw [c]; decide) (by rw [c]; decide) (by rw [c]; rfl) (by decide) ?_
      replace h := h.1 c
      exact h
    have c22 := c
    clear c
    replace h := h.2
    by_cases c : ((xs x4.toNatClampNeg) &&& 31) = 21
    · refine EvT.tblAt 1407 dLw_law__40 (by rw [c]; decide) (by rw [c]; decide) (by rw [c]; rfl) (by decide) ?_
      replace h := h.1 c
      exact h
    have c23 := c
    clear c
    replace h := h.2
    by_cases c : ((xs x4.toNatClampNeg) &&& 31) = 22
    · refine EvT.tblAt 1475 dLw_law__40 (by rw [c]; decide) (by rw [c]; decide) (by rw [c]; rfl) (by decide) ?_
      replace h := h.1 c
      exact h
    have c24 := c
    clear c
    replace h := h.2
    by_cases c : ((xs x4.toNatClampNeg) &&& 31) = 23
    · refine EvT.tblAt 1543 dLw_law__40 (by rw [c]; decide) (by rw [c]; decide) (by rw [c]; rfl) (by decide) ?_
      replace h := h.1 c
      exact h
    have c25 := c
    clear c
    replace h := h.2
    by_cases c : ((xs x4.toNatClampNeg) &&& 31) = 24
    · refine EvT.tblAt 1611 dLw_law__40 (by rw [c]; decide) (by rw [c]; decide) (by rw [c]; rfl) (by decide) ?_
      replace h := h.1 c
      exact h
    have c26 := c
    clear c
    replace h := h.2
    by_cases c : ((xs x4.toNatClampNeg) &&& 31) = 25
    · refine EvT.tblAt 1667 dLw_law__40 (by rw [c]; decide) (by rw [c]; decide) (by rw [c]; rfl) (by decide) ?_
      replace h := h.1 c
      exact h
    have c27 := c
    clear c
    replace h := h.2
    by_cases c : ((xs x4.toNatClampNeg) &&& 31) = 26
    · refine EvT.tblAt 1723 dLw_law__40 (by rw [c]; decide) (by rw [c]; decide) (by rw [c]; rfl) (by decide) ?_
      replace h := h.1 c
      exact h
    have c28 := c
    clear c
    replace h := h.2
    by_cases c : ((xs x4.toNatClampNeg) &&& 31) = 27
    · refine EvT.tblAt 1779 dLw_law__40 (by rw [c]; decide) (by rw [c]; decide) (by rw [c]; rfl) (by decide) ?_
      replace h := h.1 c
      exact h
    have c29 := c
    clear c
    replace h := h.2
    by_cases c : ((xs x4.toNatClampNeg) &&& 31) = 28
    · refine EvT.tblAt 1792 dLw_law__40 (by rw [c]; decide) (by rw [c]; decide) (by rw [c]; rfl) (by decide) ?_
      replace h := h.1 c
      exact h
    have c30 := c
    clear c
    replace h := h.2
    by_cases c : ((xs x4.toNatClampNeg) &&& 31) = 29
    · refine EvT.tblAt 1805 dLw_law__40 (by rw [c]; decide) (by rw [c]; decide) (by rw [c]; rfl) (by decide) ?_
      replace h := h.1 c
      exact h
    have c31 := c
    clear c
    replace h := h.2
    by_cases c : ((xs x4.toNatClampNeg) &&& 31) = 30
    · refine EvT.tblAt 1818 dLw_law__40 (by rw [c]; decide) (by rw [c]; decide) (by rw [c]; rfl) (by decide) ?_
      replace h := h.1 c
      exact h
    have c32 := c
    clear c
    replace h := h.2
    refine EvT.tblOut 1843 dLw_law__40 ?_ (by decide) ?_
    · have e : ∀ k : Int32, ¬ ((xs x4.toNatClampNeg) &&& 31) = k → ¬ ((xs x4.toNatClampNeg) &&& 31).toInt = k.toInt := fun k h1 h2 => h1 (Int32.toInt_inj.mp h2)
      have := e 0 c2
      rw [show ((0 : Int32)).toInt = 0 from rfl] at this
      have := e 1 c3
      rw [show ((1 : Int32)).toInt = 1 from rfl] at this
      have := e 2 c4
      rw [show ((2 : Int32)).toInt = 2 from rfl] at this
      have := e 3 c5
      rw [show ((3 : Int32)).toInt = 3 from rfl] at this
      have := e 4 c6
      rw [show ((4 : Int32)).toInt = 4 from rfl] at this
      have := e 5 c7
      rw [show ((5 : Int32)).toInt = 5 from rfl] at this
      have := e 6 c8
      rw [show ((6 : Int32)).toInt = 6 from rfl] at this
      have := e 7 c9
      rw [show ((7 : Int32)).toInt = 7 from rfl] at this
      have := e 8 c10
      rw [show ((8 : Int32)).toInt = 8 from rfl] at this
      have := e 9 c11
      rw [show ((9 : Int32)).toInt = 9 from rfl] at this
      have := e 10 c12
      rw [show ((10 : Int32)).toInt = 10 from rfl] at this
      have := e 11 c13
      rw [show ((11 : Int32)).toInt = 11 from rfl] at this
      have := e 12 c14
      rw [show ((12 : Int32)).toInt = 12 from rfl] at this
      have := e 13 c15
      rw [show ((13 : Int32)).toInt = 13 from rfl] at this
      have := e 14 c16
      rw [show ((14 : Int32)).toInt = 14 from rfl] at this
      have := e 15 c17
      rw [show ((15 : Int32)).toInt = 15 from rfl] at this
      have := e 16 c18
      rw [show ((16 : Int32)).toInt = 16 from rfl] at this
      have := e 17 c19
      rw [show ((17 : Int32)).toInt = 17 from rfl] at this
      have := e 18 c20
      rw [show ((18 : Int32)).toInt = 18 from rfl] at this
      have := e 19 c21
      rw [show ((19 : Int32)).toInt = 19 from rfl] at this
      have := e 20 c22
      rw [show ((20 : Int32)).toInt = 20 from rfl] at this
      have := e 21 c23
      rw [show ((21 : Int32)).toInt = 21 from rfl] at this
      have := e 22 c24
      rw [show ((22 : Int32)).toInt = 22 from rfl] at this
      have := e 23 c25
      rw [show ((23 : Int32)).toInt = 23 from rfl] at this
      have := e 24 c26
      rw [show ((24 : Int32)).toInt = 24 from rfl] at this
      have := e 25 c27
      rw [show ((25 : Int32)).toInt = 25 from rfl] at this
      have := e 26 c28
      rw [show ((26 : Int32)).toInt = 26 from rfl] at this
      have := e 27 c29
      rw [show ((27 : Int32)).toInt = 27 from rfl] at this
      have := e 28 c30
      rw [show ((28 : Int32)).toInt = 28 from rfl] at this
      have := e 29 c31
      rw [show ((29 : Int32)).toInt = 29 from rfl] at this
      have := e 30 c32
      rw [show ((30 : Int32)).toInt = 30 from rfl] at this
      omega
    · replace h := h c2 c3 c4 c5 c6 c7 c8 c9 c10 c11 c12 c13 c14 c15 c16 c17 c18 c19 c20 c21 c22 c23 c24 c25 c26 c27 c28 c29 c30 c31 c32
      exact h
theorem w537 : Cond.methodLink "BowingRowLaw" 94 ⟨"BowingRow", "feed", "(IIIII)I"⟩ ∈ lwg := lwg_of 537 (by decide +kernel) (by decide +kernel)
theorem bLw_law__180 {l : Launch} {G : Gx} {d : Nat} {bc bs : Nat} {Φ : OutV → Mm → Prop} {L : Nat} {xs : Nat → Int32} (hSC : SC G L xs) (M : Mm) (a1 : Nat) (a2 : Nat) (a3 : Nat) (x4 : Int32) (u5 : Value) (u6 : Value)
    (h : (vp_in (x4 + 1) L) ∧ (vp_in (x4 + 2) L) ∧ (vp_in (x4 + 3) L) ∧ (vp_in (x4 + 4) L) ∧ (vp_in (x4 + 5) L) ∧ ((m_sh M a1).1 = 10) ∧ CallTC l G d mLw_law_ 214 [.ref 98, .ref a1, .ref a2, .ref a3, .int x4, u5, u6] [] mBo_feed [.ref a1, .int (xs (x4 + 1).toNatClampNeg), .int (xs (x4 + 2).toNatClampNeg), .int (xs (x4 + 3).toNatClampNeg), .int (xs (x4 + 4).toNatClampNeg), .int (xs (x4 + 5).toNatClampNeg)] M bc bs Φ) :
    EvT [] l G d mLw_law_ 180 [.ref 98, .ref a1, .ref a2, .ref a3, .int x4, u5, u6] [] M bc bs Φ := by
  refine EvT.aload_n dLw_law__180 rfl ?_
  refine EvT.aload_n dLw_law__181 rfl ?_
  refine EvT.iload dLw_law__182 rfl ?_
  refine EvT.iconst (v := 1) dLw_law__184 (by decide) ?_
  refine EvT.iadd dLw_law__185 ?_
  have g1 := h.1
  replace h := h.2
  refine EvT.scld hSC dLw_law__186 g1 ?_
  refine EvT.aload_n dLw_law__187 rfl ?_
  refine EvT.iload dLw_law__188 rfl ?_
  refine EvT.iconst (v := 2) dLw_law__190 (by decide) ?_
  refine EvT.iadd dLw_law__191 ?_
  have g2 := h.1
  replace h := h.2
  refine EvT.scld hSC dLw_law__192 g2 ?_
  refine EvT.aload_n dLw_law__193 rfl ?_
  refine EvT.iload dLw_law__194 rfl ?_
  refine EvT.iconst (v := 3) dLw_law__196 (by decide) ?_
  refine EvT.iadd dLw_law__197 ?_
  have g3 := h.1
  replace h := h.2
  refine EvT.scld hSC dLw_law__198 g3 ?_
  refine EvT.aload_n dLw_law__199 rfl ?_
  refine EvT.iload dLw_law__200 rfl ?_
  refine EvT.iconst (v := 4) dLw_law__202 (by decide) ?_
  refine EvT.iadd dLw_law__203 ?_
  have g4 := h.1
  replace h := h.2
  refine EvT.scld hSC dLw_law__204 g4 ?_
  refine EvT.aload_n dLw_law__205 rfl ?_
  refine EvT.iload dLw_law__206 rfl ?_
  refine EvT.iconst (v := 5) dLw_law__208 (by decide) ?_
  refine EvT.iadd dLw_law__209 ?_
  have g5 := h.1
  replace h := h.2
  refine EvT.scld hSC dLw_law__210 g5 ?_
  have g6 := h.1
  replace h := h.2
  exact EvT.vcV (z := mBo_feed) (ci := 10) [.int (xs (x4 + 1).toNatClampNeg), .int (xs (x4 + 2).toNatClampNeg), .int (xs (x4 + 3).toNatClampNeg), .int (xs (x4 + 4).toNatClampNeg), .int (xs (x4 + 5).toNatClampNeg)] [] rfl dLw_law__211 oBo_feed rfl w537 iBo_feed sBo_feed (by decide) rfl g6 (Nat.le_of_ble_eq_true rfl) h
theorem w1468 : Cond.methodLink "BowingRowLaw" 98 ⟨"BowingRowModel", "feed", "(IIIII)I"⟩ ∈ lwg := lwg_of 1468 (by decide +kernel) (by decide +kernel)
theorem bLw_law__214 {l : Launch} {G : Gx} {d : Nat} {bc bs : Nat} {Φ : OutV → Mm → Prop} {L : Nat} {xs : Nat → Int32} (hSC : SC G L xs) (M : Mm) (a1 : Nat) (a2 : Nat) (a3 : Nat) (x4 : Int32) (u5 : Value) (u6 : Value) (s0 : Int32)
    (h : (vp_in (x4 + 1) L) ∧ (vp_in (x4 + 2) L) ∧ (vp_in (x4 + 3) L) ∧ (vp_in (x4 + 4) L) ∧ (vp_in (x4 + 5) L) ∧ ((m_sh M a2).1 = 11) ∧ CallTC l G d mLw_law_ 248 [.ref 98, .ref a1, .ref a2, .ref a3, .int x4, u5, u6] [.int s0] mRe_feed [.ref a2, .int (xs (x4 + 1).toNatClampNeg), .int (xs (x4 + 2).toNatClampNeg), .int (xs (x4 + 3).toNatClampNeg), .int (xs (x4 + 4).toNatClampNeg), .int (xs (x4 + 5).toNatClampNeg)] M bc bs Φ) :
    EvT [] l G d mLw_law_ 214 [.ref 98, .ref a1, .ref a2, .ref a3, .int x4, u5, u6] [.int s0] M bc bs Φ := by
  refine EvT.aload_n dLw_law__214 rfl ?_
  refine EvT.aload_n dLw_law__215 rfl ?_
  refine EvT.iload dLw_law__216 rfl ?_
  refine EvT.iconst (v := 1) dLw_law__218 (by decide) ?_
  refine EvT.iadd dLw_law__219 ?_
  have g1 := h.1
  replace h := h.2
  refine EvT.scld hSC dLw_law__220 g1 ?_
  refine EvT.aload_n dLw_law__221 rfl ?_
  refine EvT.iload dLw_law__222 rfl ?_
  refine EvT.iconst (v := 2) dLw_law__224 (by decide) ?_
  refine EvT.iadd dLw_law__225 ?_
  have g2 := h.1
  replace h := h.2
  refine EvT.scld hSC dLw_law__226 g2 ?_
  refine EvT.aload_n dLw_law__227 rfl ?_
  refine EvT.iload dLw_law__228 rfl ?_
  refine EvT.iconst (v := 3) dLw_law__230 (by decide) ?_
  refine EvT.iadd dLw_law__231 ?_
  have g3 := h.1
  replace h := h.2
  refine EvT.scld hSC dLw_law__232 g3 ?_
  refine EvT.aload_n dLw_law__233 rfl ?_
  refine EvT.iload dLw_law__234 rfl ?_
  refine EvT.iconst (v := 4) dLw_law__236 (by decide) ?_
  refine EvT.iadd dLw_law__237 ?_
  have g4 := h.1
  replace h := h.2
  refine EvT.scld hSC dLw_law__238 g4 ?_
  refine EvT.aload_n dLw_law__239 rfl ?_
  refine EvT.iload dLw_law__240 rfl ?_
  refine EvT.iconst (v := 5) dLw_law__242 (by decide) ?_
  refine EvT.iadd dLw_law__243 ?_
  have g5 := h.1
  replace h := h.2
  refine EvT.scld hSC dLw_law__244 g5 ?_
  have g6 := h.1
  replace h := h.2
  exact EvT.vcV (z := mRe_feed) (ci := 11) [.int (xs (x4 + 1).toNatClampNeg), .int (xs (x4 + 2).toNatClampNeg), .int (xs (x4 + 3).toNatClampNeg), .int (xs (x4 + 4).toNatClampNeg), .int (xs (x4 + 5).toNatClampNeg)] [.int s0] rfl dLw_law__245 oRe_feed rfl w1468 iRe_feed sRe_feed (by decide) rfl g6 (Nat.le_of_ble_eq_true rfl) h
theorem bLw_law__248 {l : Launch} {G : Gx} {d : Nat} {bc bs : Nat} {Φ : OutV → Mm → Prop} {L : Nat} {xs : Nat → Int32} (hSC : SC G L xs) (M : Mm) (a1 : Nat) (a2 : Nat) (a3 : Nat) (x4 : Int32) (u5 : Value) (u6 : Value) (s0 : Int32) (s1 : Int32)
    (h : (s0 = s1 → EvT [] l G d mLw_law_ 1843 [.ref 98, .ref a1, .ref a2, .ref a3, .int x4, u5, u6] [] M bc bs Φ) ∧ (¬ s0 = s1 → Φ (.inl (some (.int 0))) M)) :
    EvT [] l G d mLw_law_ 248 [.ref 98, .ref a1, .ref a2, .ref a3, .int x4, u5, u6] [.int s1, .int s0] M bc bs Φ := by
  refine EvT.icmp_eq 1843 (by decide) dLw_law__248 (fun c => ?_) (fun c => ?_)
  · replace h := h.1 c
    exact h
  · replace h := h.2 c
    refine EvT.iconst (v := 0) dLw_law__251 (by decide) ?_
    exact EvT.iret dLw_law__252 rfl rfl h
theorem w706 : Cond.methodLink "BowingRowLaw" 99 ⟨"BowingRowLaw", "row", "(LBowingRow;I[J)I"⟩ ∈ lwg := lwg_of 706 (by decide +kernel) (by decide +kernel)
theorem bLw_law__253 {l : Launch} {G : Gx} {d : Nat} {bc bs : Nat} {Φ : OutV → Mm → Prop} {L : Nat} {xs : Nat → Int32} (hSC : SC G L xs) (M : Mm) (a1 : Nat) (a2 : Nat) (a3 : Nat) (x4 : Int32) (u5 : Value) (u6 : Value)
    (h : (vp_in (x4 + 1) L) ∧ CallTH l G d mLw_law_ 264 [.ref 98, .ref a1, .ref a2, .ref a3, .int x4, u5, u6] [] mLw_row hLw_row [.ref a1, .int (xs (x4 + 1).toNatClampNeg), .ref a3] M bc bs Φ) :
    EvT [] l G d mLw_law_ 253 [.ref 98, .ref a1, .ref a2, .ref a3, .int x4, u5, u6] [] M bc bs Φ := by
  refine EvT.aload_n dLw_law__253 rfl ?_
  refine EvT.aload_n dLw_law__254 rfl ?_
  refine EvT.iload dLw_law__255 rfl ?_
  refine EvT.iconst (v := 1) dLw_law__257 (by decide) ?_
  refine EvT.iadd dLw_law__258 ?_
  have g1 := h.1
  replace h := h.2
  refine EvT.scld hSC dLw_law__259 g1 ?_
  refine EvT.aload_n dLw_law__260 rfl ?_
  exact EvT.vcH (z := mLw_row) (hh := hLw_row) [.ref a1, .int (xs (x4 + 1).toNatClampNeg), .ref a3] [] rfl dLw_law__261 oLw_row rfl w706 iLw_row (Nat.le_of_ble_eq_true rfl) h
theorem w1472 : Cond.methodLink "BowingRowLaw" 104 ⟨"BowingRowModel", "row", "(I)I"⟩ ∈ lwg := lwg_of 1472 (by decide +kernel) (by decide +kernel)
theorem bLw_law__264 {l : Launch} {G : Gx} {d : Nat} {bc bs : Nat} {Φ : OutV → Mm → Prop} {L : Nat} {xs : Nat → Int32} (hSC : SC G L xs) (M : Mm) (a1 : Nat) (a2 : Nat) (a3 : Nat) (x4 : Int32) (u5 : Value) (u6 : Value) (s0 : Int32)
    (h : (vp_in (x4 + 1) L) ∧ ((m_sh M a2).1 = 11) ∧ CallTC l G d mLw_law_ 276 [.ref 98, .ref a1, .ref a2, .ref a3, .int x4, .int s0, u6] [] mRe_row [.ref a2, .int (xs (x4 + 1).toNatClampNeg)] M bc bs Φ) :
    EvT [] l G d mLw_law_ 264 [.ref 98, .ref a1, .ref a2, .ref a3, .int x4, u5, u6] [.int s0] M bc bs Φ := by
  refine EvT.istore dLw_law__264 (by decide) ?_
  show EvT [] l G d mLw_law_ (_ + _) [.ref 98, .ref a1, .ref a2, .ref a3, .int x4, .int s0, u6] [] M bc bs Φ
  refine EvT.aload_n dLw_law__266 rfl ?_
  refine EvT.aload_n dLw_law__267 rfl ?_
  refine EvT.iload dLw_law__268 rfl ?_
  refine EvT.iconst (v := 1) dLw_law__270 (by decide) ?_
  refine EvT.iadd dLw_law__271 ?_
  have g1 := h.1
  replace h := h.2
  refine EvT.scld hSC dLw_law__272 g1 ?_
  have g2 := h.1
  replace h := h.2
  exact EvT.vcV (z := mRe_row) (ci := 11) [.int (xs (x4 + 1).toNatClampNeg)] [] rfl dLw_law__273 oRe_row rfl w1472 iRe_row sRe_row (by decide) rfl g2 (Nat.le_of_ble_eq_true rfl) h
theorem w1464 : Cond.methodLink "BowingRowLaw" 105 ⟨"BowingRowModel", "thrown", "()I"⟩ ∈ lwg := lwg_of 1464 (by decide +kernel) (by decide +kernel)
theorem bLw_law__276 {l : Launch} {G : Gx} {d : Nat} {bc bs : Nat} {Φ : OutV → Mm → Prop} {L : Nat} {xs : Nat → Int32} (hSC : SC G L xs) (M : Mm) (a1 : Nat) (a2 : Nat) (a3 : Nat) (x4 : Int32) (x5 : Int32) (u6 : Value) (s0 : Int32)
    (h : ((m_sh M a2).1 = 11) ∧ CallTC l G d mLw_law_ 282 [.ref 98, .ref a1, .ref a2, .ref a3, .int x4, .int x5, .int s0] [] mRe_thrown [.ref a2] M bc bs Φ) :
    EvT [] l G d mLw_law_ 276 [.ref 98, .ref a1, .ref a2, .ref a3, .int x4, .int x5, u6] [.int s0] M bc bs Φ := by
  refine EvT.istore dLw_law__276 (by decide) ?_
  show EvT [] l G d mLw_law_ (_ + _) [.ref 98, .ref a1, .ref a2, .ref a3, .int x4, .int x5, .int s0] [] M bc bs Φ
  refine EvT.aload_n dLw_law__278 rfl ?_
  have g1 := h.1
  replace h := h.2
  exact EvT.vcV (z := mRe_thrown) (ci := 11) [] [] rfl dLw_law__279 oRe_thrown rfl w1464 iRe_thrown sRe_thrown (by decide) rfl g1 (Nat.le_of_ble_eq_true rfl) h
theorem bLw_law__282 {l : Launch} {G : Gx} {d : Nat} {bc bs : Nat} {Φ : OutV → Mm → Prop} {L : Nat} {xs : Nat → Int32} (hSC : SC G L xs) (M : Mm) (a1 : Nat) (a2 : Nat) (a3 : Nat) (x4 : Int32) (x5 : Int32) (x6 : Int32) (s0 : Int32)
    (h : (s0 = x5 → (¬ x5 = 0 → EvT [] l G d mLw_law_ 306 [.ref 98, .ref a1, .ref a2, .ref a3, .int x4, .int x5, .int x6] [] M bc bs Φ) ∧ (x5 = 0 → ((m_sh M a3).1 = 22) ∧ (vp_in 0 (m_sh M a3).2) ∧ ((lg_cmp (m_l M a3 (0 : Int32).toNatClampNeg) x6.toInt64) = 0 → EvT [] l G d mLw_law_ 306 [.ref 98, .ref a1, .ref a2, .ref a3, .int x4, .int x5, .int x6] [] M bc bs Φ) ∧ (¬ (lg_cmp (m_l M a3 (0 : Int32).toNatClampNeg) x6.toInt64) = 0 → Φ (.inl (some (.int 0))) M))) ∧ (¬ s0 = x5 → Φ (.inl (some (.int 0))) M)) :
    EvT [] l G d mLw_law_ 282 [.ref 98, .ref a1, .ref a2, .ref a3, .int x4, .int x5, .int x6] [.int s0] M bc bs Φ := by
  refine EvT.iload dLw_law__282 rfl ?_
  refine EvT.icmp_eq 289 (by decide) dLw_law__284 (fun c => ?_) (fun c => ?_)
  · replace h := h.1 c
    refine EvT.iload dLw_law__289 rfl ?_
    refine EvT.if_ne 306 (by decide) dLw_law__291 (fun c => ?_) (fun c => ?_)
    · replace h := h.1 c
      exact h
    · replace h := h.2 c
      refine EvT.aload_n dLw_law__294 rfl ?_
      refine EvT.iconst (v := 0) dLw_law__295 (by decide) ?_
      have g1 := h.1
      replace h := h.2
      have g2 := h.1
      replace h := h.2
      refine EvT.lald2 dLw_law__296 g1 g2 ?_
      refine EvT.iload dLw_law__297 rfl ?_
      refine EvT.i2l dLw_law__299 ?_
      refine EvT.lcmp dLw_law__300 ?_
      refine EvT.if_eq 306 (by decide) dLw_law__301 (fun c => ?_) (fun c => ?_)
      · replace h := h.1 c
        exact h
      · replace h := h.2 c
        refine EvT.iconst (v := 0) dLw_law__304 (by decide) ?_
        exact EvT.iret dLw_law__305 rfl rfl h
  · replace h := h.2 c
    refine EvT.iconst (v := 0) dLw_law__287 (by decide) ?_
    exact EvT.iret dLw_law__288 rfl rfl h
theorem bLw_law__306 {l : Launch} {G : Gx} {d : Nat} {bc bs : Nat} {Φ : OutV → Mm → Prop} {L : Nat} {xs : Nat → Int32} (hSC : SC G L xs) (M : Mm) (a1 : Nat) (a2 : Nat) (a3 : Nat) (x4 : Int32) (x5 : Int32) (x6 : Int32)
    (h : EvT [] l G d mLw_law_ 1843 [.ref 98, .ref a1, .ref a2, .ref a3, .int x4, .int x5, .int x6] [] M bc bs Φ) :
    EvT [] l G d mLw_law_ 306 [.ref 98, .ref a1, .ref a2, .ref a3, .int x4, .int x5, .int x6] [] M bc bs Φ := by
  refine EvT.goto 1843 dLw_law__306 (by decide) ?_
  exact h
theorem w933 : Cond.methodLink "BowingRowLaw" 109 ⟨"BowingRowLaw", "law", "(LBowingRow;I[J)I"⟩ ∈ lwg := lwg_of 933 (by decide +kernel) (by decide +kernel)
theorem bLw_law__309 {l : Launch} {G : Gx} {d : Nat} {bc bs : Nat} {Φ : OutV → Mm → Prop} {L : Nat} {xs : Nat → Int32} (hSC : SC G L xs) (M : Mm) (a1 : Nat) (a2 : Nat) (a3 : Nat) (x4 : Int32) (u5 : Value) (u6 : Value)
    (h : (vp_in (x4 + 1) L) ∧ CallTH l G d mLw_law_ 320 [.ref 98, .ref a1, .ref a2, .ref a3, .int x4, u5, u6] [] mLw_law hLw_law [.ref a1, .int (xs (x4 + 1).toNatClampNeg), .ref a3] M bc bs Φ) :
    EvT [] l G d mLw_law_ 309 [.ref 98, .ref a1, .ref a2, .ref a3, .int x4, u5, u6] [] M bc bs Φ := by
  refine EvT.aload_n dLw_law__309 rfl ?_
  refine EvT.aload_n dLw_law__310 rfl ?_
  refine EvT.iload dLw_law__311 rfl ?_
  refine EvT.iconst (v := 1) dLw_law__313 (by decide) ?_
  refine EvT.iadd dLw_law__314 ?_
  have g1 := h.1
  replace h := h.2
  refine EvT.scld hSC dLw_law__315 g1 ?_
  refine EvT.aload_n dLw_law__316 rfl ?_
  exact EvT.vcH (z := mLw_law) (hh := hLw_law) [.ref a1, .int (xs (x4 + 1).toNatClampNeg), .ref a3] [] rfl dLw_law__317 oLw_law rfl w933 iLw_law (Nat.le_of_ble_eq_true rfl) h
theorem w1538 : Cond.methodLink "BowingRowLaw" 111 ⟨"BowingRowModel", "law", "(I)I"⟩ ∈ lwg := lwg_of 1538 (by decide +kernel) (by decide +kernel)
theorem bLw_law__320 {l : Launch} {G : Gx} {d : Nat} {bc bs : Nat} {Φ : OutV → Mm → Prop} {L : Nat} {xs : Nat → Int32} (hSC : SC G L xs) (M : Mm) (a1 : Nat) (a2 : Nat) (a3 : Nat) (x4 : Int32) (u5 : Value) (u6 : Value) (s0 : Int32)
    (h : (vp_in (x4 + 1) L) ∧ ((m_sh M a2).1 = 11) ∧ CallTC l G d mLw_law_ 332 [.ref 98, .ref a1, .ref a2, .ref a3, .int x4, .int s0, u6] [] mRe_law [.ref a2, .int (xs (x4 + 1).toNatClampNeg)] M bc bs Φ) :
    EvT [] l G d mLw_law_ 320 [.ref 98, .ref a1, .ref a2, .ref a3, .int x4, u5, u6] [.int s0] M bc bs Φ := by
  refine EvT.istore dLw_law__320 (by decide) ?_
  show EvT [] l G d mLw_law_ (_ + _) [.ref 98, .ref a1, .ref a2, .ref a3, .int x4, .int s0, u6] [] M bc bs Φ
  refine EvT.aload_n dLw_law__322 rfl ?_
  refine EvT.aload_n dLw_law__323 rfl ?_
  refine EvT.iload dLw_law__324 rfl ?_
  refine EvT.iconst (v := 1) dLw_law__326 (by decide) ?_
  refine EvT.iadd dLw_law__327 ?_
  have g1 := h.1
  replace h := h.2
  refine EvT.scld hSC dLw_law__328 g1 ?_
  have g2 := h.1
  replace h := h.2
  exact EvT.vcV (z := mRe_law) (ci := 11) [.int (xs (x4 + 1).toNatClampNeg)] [] rfl dLw_law__329 oRe_law rfl w1538 iRe_law sRe_law (by decide) rfl g2 (Nat.le_of_ble_eq_true rfl) h
theorem bLw_law__332 {l : Launch} {G : Gx} {d : Nat} {bc bs : Nat} {Φ : OutV → Mm → Prop} {L : Nat} {xs : Nat → Int32} (hSC : SC G L xs) (M : Mm) (a1 : Nat) (a2 : Nat) (a3 : Nat) (x4 : Int32) (x5 : Int32) (u6 : Value) (s0 : Int32)
    (h : ((m_sh M a2).1 = 11) ∧ CallTC l G d mLw_law_ 338 [.ref 98, .ref a1, .ref a2, .ref a3, .int x4, .int x5, .int s0] [] mRe_thrown [.ref a2] M bc bs Φ) :
    EvT [] l G d mLw_law_ 332 [.ref 98, .ref a1, .ref a2, .ref a3, .int x4, .int x5, u6] [.int s0] M bc bs Φ := by
  refine EvT.istore dLw_law__332 (by decide) ?_
  show EvT [] l G d mLw_law_ (_ + _) [.ref 98, .ref a1, .ref a2, .ref a3, .int x4, .int x5, .int s0] [] M bc bs Φ
  refine EvT.aload_n dLw_law__334 rfl ?_
  have g1 := h.1
  replace h := h.2
  exact EvT.vcV (z := mRe_thrown) (ci := 11) [] [] rfl dLw_law__335 oRe_thrown rfl w1464 iRe_thrown sRe_thrown (by decide) rfl g1 (Nat.le_of_ble_eq_true rfl) h
theorem bLw_law__338 {l : Launch} {G : Gx} {d : Nat} {bc bs : Nat} {Φ : OutV → Mm → Prop} {L : Nat} {xs : Nat → Int32} (hSC : SC G L xs) (M : Mm) (a1 : Nat) (a2 : Nat) (a3 : Nat) (x4 : Int32) (x5 : Int32) (x6 : Int32) (s0 : Int32)
    (h : (s0 = x5 → (¬ x5 = 0 → EvT [] l G d mLw_law_ 362 [.ref 98, .ref a1, .ref a2, .ref a3, .int x4, .int x5, .int x6] [] M bc bs Φ) ∧ (x5 = 0 → ((m_sh M a3).1 = 22) ∧ (vp_in 0 (m_sh M a3).2) ∧ ((lg_cmp (m_l M a3 (0 : Int32).toNatClampNeg) x6.toInt64) = 0 → EvT [] l G d mLw_law_ 362 [.ref 98, .ref a1, .ref a2, .ref a3, .int x4, .int x5, .int x6] [] M bc bs Φ) ∧ (¬ (lg_cmp (m_l M a3 (0 : Int32).toNatClampNeg) x6.toInt64) = 0 → Φ (.inl (some (.int 0))) M))) ∧ (¬ s0 = x5 → Φ (.inl (some (.int 0))) M)) :
    EvT [] l G d mLw_law_ 338 [.ref 98, .ref a1, .ref a2, .ref a3, .int x4, .int x5, .int x6] [.int s0] M bc bs Φ := by
  refine EvT.iload dLw_law__338 rfl ?_
  refine EvT.icmp_eq 345 (by decide) dLw_law__340 (fun c => ?_) (fun c => ?_)
  · replace h := h.1 c
    refine EvT.iload dLw_law__345 rfl ?_
    refine EvT.if_ne 362 (by decide) dLw_law__347 (fun c => ?_) (fun c => ?_)
    · replace h := h.1 c
      exact h
    · replace h := h.2 c
      refine EvT.aload_n dLw_law__350 rfl ?_
      refine EvT.iconst (v := 0) dLw_law__351 (by decide) ?_
      have g1 := h.1
      replace h := h.2
      have g2 := h.1
      replace h := h.2
      refine EvT.lald2 dLw_law__352 g1 g2 ?_
      refine EvT.iload dLw_law__353 rfl ?_
      refine EvT.i2l dLw_law__355 ?_
      refine EvT.lcmp dLw_law__356 ?_
      refine EvT.if_eq 362 (by decide) dLw_law__357 (fun c => ?_) (fun c => ?_)
      · replace h := h.1 c
        exact h
      · replace h := h.2 c
        refine EvT.iconst (v := 0) dLw_law__360 (by decide) ?_
        exact EvT.iret dLw_law__361 rfl rfl h
  · replace h := h.2 c
    refine EvT.iconst (v := 0) dLw_law__343 (by decide) ?_
    exact EvT.iret dLw_law__344 rfl rfl h
theorem bLw_law__362 {l : Launch} {G : Gx} {d : Nat} {bc bs : Nat} {Φ : OutV → Mm → Prop} {L : Nat} {xs : Nat → Int32} (hSC : SC G L xs) (M : Mm) (a1 : Nat) (a2 : Nat) (a3 : Nat) (x4 : Int32) (x5 : Int32) (x6 : Int32)
    (h : EvT [] l G d mLw_law_ 1843 [.ref 98, .ref a1, .ref a2, .ref a3, .int x4, .int x5, .int x6] [] M bc bs Φ) :
    EvT [] l G d mLw_law_ 362 [.ref 98, .ref a1, .ref a2, .ref a3, .int x4, .int x5, .int x6] [] M bc bs Φ := by
  refine EvT.goto 1843 dLw_law__362 (by decide) ?_
  exact h
theorem w545 : Cond.methodLink "BowingRowLaw" 112 ⟨"BowingRow", "fault", "()I"⟩ ∈ lwg := lwg_of 545 (by decide +kernel) (by decide +kernel)
theorem bLw_law__365 {l : Launch} {G : Gx} {d : Nat} {bc bs : Nat} {Φ : OutV → Mm → Prop} {L : Nat} {xs : Nat → Int32} (hSC : SC G L xs) (M : Mm) (a1 : Nat) (a2 : Nat) (a3 : Nat) (x4 : Int32) (u5 : Value) (u6 : Value)
    (h : ((m_sh M a1).1 = 10) ∧ CallTC l G d mLw_law_ 369 [.ref 98, .ref a1, .ref a2, .ref a3, .int x4, u5, u6] [] mBo_fault [.ref a1] M bc bs Φ) :
    EvT [] l G d mLw_law_ 365 [.ref 98, .ref a1, .ref a2, .ref a3, .int x4, u5, u6] [] M bc bs Φ := by
  refine EvT.aload_n dLw_law__365 rfl ?_
  have g1 := h.1
  replace h := h.2
  exact EvT.vcV (z := mBo_fault) (ci := 10) [] [] rfl dLw_law__366 oBo_fault rfl w545 iBo_fault sBo_fault (by decide) rfl g1 (Nat.le_of_ble_eq_true rfl) h
theorem w1598 : Cond.methodLink "BowingRowLaw" 115 ⟨"BowingRowModel", "fault", "()I"⟩ ∈ lwg := lwg_of 1598 (by decide +kernel) (by decide +kernel)
theorem bLw_law__369 {l : Launch} {G : Gx} {d : Nat} {bc bs : Nat} {Φ : OutV → Mm → Prop} {L : Nat} {xs : Nat → Int32} (hSC : SC G L xs) (M : Mm) (a1 : Nat) (a2 : Nat) (a3 : Nat) (x4 : Int32) (u5 : Value) (u6 : Value) (s0 : Int32)
    (h : ((m_sh M a2).1 = 11) ∧ CallTC l G d mLw_law_ 373 [.ref 98, .ref a1, .ref a2, .ref a3, .int x4, u5, u6] [.int s0] mRe_fault [.ref a2] M bc bs Φ) :
    EvT [] l G d mLw_law_ 369 [.ref 98, .ref a1, .ref a2, .ref a3, .int x4, u5, u6] [.int s0] M bc bs Φ := by
  refine EvT.aload_n dLw_law__369 rfl ?_
  have g1 := h.1
  replace h := h.2
  exact EvT.vcV (z := mRe_fault) (ci := 11) [] [.int s0] rfl dLw_law__370 oRe_fault rfl w1598 iRe_fault sRe_fault (by decide) rfl g1 (Nat.le_of_ble_eq_true rfl) h
theorem bLw_law__373 {l : Launch} {G : Gx} {d : Nat} {bc bs : Nat} {Φ : OutV → Mm → Prop} {L : Nat} {xs : Nat → Int32} (hSC : SC G L xs) (M : Mm) (a1 : Nat) (a2 : Nat) (a3 : Nat) (x4 : Int32) (u5 : Value) (u6 : Value) (s0 : Int32) (s1 : Int32)
    (h : (s0 = s1 → EvT [] l G d mLw_law_ 1843 [.ref 98, .ref a1, .ref a2, .ref a3, .int x4, u5, u6] [] M bc bs Φ) ∧ (¬ s0 = s1 → Φ (.inl (some (.int 0))) M)) :
    EvT [] l G d mLw_law_ 373 [.ref 98, .ref a1, .ref a2, .ref a3, .int x4, u5, u6] [.int s1, .int s0] M bc bs Φ := by
  refine EvT.icmp_eq 1843 (by decide) dLw_law__373 (fun c => ?_) (fun c => ?_)
  · replace h := h.1 c
    exact h
  · replace h := h.2 c
    refine EvT.iconst (v := 0) dLw_law__376 (by decide) ?_
    exact EvT.iret dLw_law__377 rfl rfl h
theorem w991 : Cond.methodLink "BowingRowLaw" 116 ⟨"BowingRowLaw", "told", "(LBowingRow;I[J)I"⟩ ∈ lwg := lwg_of 991 (by decide +kernel) (by decide +kernel)
theorem bLw_law__378 {l : Launch} {G : Gx} {d : Nat} {bc bs : Nat} {Φ : OutV → Mm → Prop} {L : Nat} {xs : Nat → Int32} (hSC : SC G L xs) (M : Mm) (a1 : Nat) (a2 : Nat) (a3 : Nat) (x4 : Int32) (u5 : Value) (u6 : Value)
    (h : (vp_in (x4 + 1) L) ∧ CallTH l G d mLw_law_ 389 [.ref 98, .ref a1, .ref a2, .ref a3, .int x4, u5, u6] [] mLw_told hLw_told [.ref a1, .int (xs (x4 + 1).toNatClampNeg), .ref a3] M bc bs Φ) :
    EvT [] l G d mLw_law_ 378 [.ref 98, .ref a1, .ref a2, .ref a3, .int x4, u5, u6] [] M bc bs Φ := by
  refine EvT.aload_n dLw_law__378 rfl ?_
  refine EvT.aload_n dLw_law__379 rfl ?_
  refine EvT.iload dLw_law__380 rfl ?_
  refine EvT.iconst (v := 1) dLw_law__382 (by decide) ?_
  refine EvT.iadd dLw_law__383 ?_
  have g1 := h.1
  replace h := h.2
  refine EvT.scld hSC dLw_law__384 g1 ?_
  refine EvT.aload_n dLw_law__385 rfl ?_
  exact EvT.vcH (z := mLw_told) (hh := hLw_told) [.ref a1, .int (xs (x4 + 1).toNatClampNeg), .ref a3] [] rfl dLw_law__386 oLw_told rfl w991 iLw_told (Nat.le_of_ble_eq_true rfl) h
theorem w1602 : Cond.methodLink "BowingRowLaw" 118 ⟨"BowingRowModel", "told", "(I)I"⟩ ∈ lwg := lwg_of 1602 (by decide +kernel) (by decide +kernel)
theorem bLw_law__389 {l : Launch} {G : Gx} {d : Nat} {bc bs : Nat} {Φ : OutV → Mm → Prop} {L : Nat} {xs : Nat → Int32} (hSC : SC G L xs) (M : Mm) (a1 : Nat) (a2 : Nat) (a3 : Nat) (x4 : Int32) (u5 : Value) (u6 : Value) (s0 : Int32)
    (h : (vp_in (x4 + 1) L) ∧ ((m_sh M a2).1 = 11) ∧ CallTC l G d mLw_law_ 401 [.ref 98, .ref a1, .ref a2, .ref a3, .int x4, .int s0, u6] [] mRe_told [.ref a2, .int (xs (x4 + 1).toNatClampNeg)] M bc bs Φ) :
    EvT [] l G d mLw_law_ 389 [.ref 98, .ref a1, .ref a2, .ref a3, .int x4, u5, u6] [.int s0] M bc bs Φ := by
  refine EvT.istore dLw_law__389 (by decide) ?_
  show EvT [] l G d mLw_law_ (_ + _) [.ref 98, .ref a1, .ref a2, .ref a3, .int x4, .int s0, u6] [] M bc bs Φ
  refine EvT.aload_n dLw_law__391 rfl ?_
  refine EvT.aload_n dLw_law__392 rfl ?_
  refine EvT.iload dLw_law__393 rfl ?_
  refine EvT.iconst (v := 1) dLw_law__395 (by decide) ?_
  refine EvT.iadd dLw_law__396 ?_
  have g1 := h.1
  replace h := h.2
  refine EvT.scld hSC dLw_law__397 g1 ?_
  have g2 := h.1
  replace h := h.2
  exact EvT.vcV (z := mRe_told) (ci := 11) [.int (xs (x4 + 1).toNatClampNeg)] [] rfl dLw_law__398 oRe_told rfl w1602 iRe_told sRe_told (by decide) rfl g2 (Nat.le_of_ble_eq_true rfl) h
theorem bLw_law__401 {l : Launch} {G : Gx} {d : Nat} {bc bs : Nat} {Φ : OutV → Mm → Prop} {L : Nat} {xs : Nat → Int32} (hSC : SC G L xs) (M : Mm) (a1 : Nat) (a2 : Nat) (a3 : Nat) (x4 : Int32) (x5 : Int32) (u6 : Value) (s0 : Int32)
    (h : ((m_sh M a2).1 = 11) ∧ CallTC l G d mLw_law_ 407 [.ref 98, .ref a1, .ref a2, .ref a3, .int x4, .int x5, .int s0] [] mRe_thrown [.ref a2] M bc bs Φ) :
    EvT [] l G d mLw_law_ 401 [.ref 98, .ref a1, .ref a2, .ref a3, .int x4, .int x5, u6] [.int s0] M bc bs Φ := by
  refine EvT.istore dLw_law__401 (by decide) ?_
  show EvT [] l G d mLw_law_ (_ + _) [.ref 98, .ref a1, .ref a2, .ref a3, .int x4, .int x5, .int s0] [] M bc bs Φ
  refine EvT.aload_n dLw_law__403 rfl ?_
  have g1 := h.1
  replace h := h.2
  exact EvT.vcV (z := mRe_thrown) (ci := 11) [] [] rfl dLw_law__404 oRe_thrown rfl w1464 iRe_thrown sRe_thrown (by decide) rfl g1 (Nat.le_of_ble_eq_true rfl) h
theorem bLw_law__407 {l : Launch} {G : Gx} {d : Nat} {bc bs : Nat} {Φ : OutV → Mm → Prop} {L : Nat} {xs : Nat → Int32} (hSC : SC G L xs) (M : Mm) (a1 : Nat) (a2 : Nat) (a3 : Nat) (x4 : Int32) (x5 : Int32) (x6 : Int32) (s0 : Int32)
    (h : (s0 = x5 → (¬ x5 = 0 → EvT [] l G d mLw_law_ 431 [.ref 98, .ref a1, .ref a2, .ref a3, .int x4, .int x5, .int x6] [] M bc bs Φ) ∧ (x5 = 0 → ((m_sh M a3).1 = 22) ∧ (vp_in 0 (m_sh M a3).2) ∧ ((lg_cmp (m_l M a3 (0 : Int32).toNatClampNeg) x6.toInt64) = 0 → EvT [] l G d mLw_law_ 431 [.ref 98, .ref a1, .ref a2, .ref a3, .int x4, .int x5, .int x6] [] M bc bs Φ) ∧ (¬ (lg_cmp (m_l M a3 (0 : Int32).toNatClampNeg) x6.toInt64) = 0 → Φ (.inl (some (.int 0))) M))) ∧ (¬ s0 = x5 → Φ (.inl (some (.int 0))) M)) :
    EvT [] l G d mLw_law_ 407 [.ref 98, .ref a1, .ref a2, .ref a3, .int x4, .int x5, .int x6] [.int s0] M bc bs Φ := by
  refine EvT.iload dLw_law__407 rfl ?_
  refine EvT.icmp_eq 414 (by decide) dLw_law__409 (fun c => ?_) (fun c => ?_)
  · replace h := h.1 c
    refine EvT.iload dLw_law__414 rfl ?_
    refine EvT.if_ne 431 (by decide) dLw_law__416 (fun c => ?_) (fun c => ?_)
    · replace h := h.1 c
      exact h
    · replace h := h.2 c
      refine EvT.aload_n dLw_law__419 rfl ?_
      refine EvT.iconst (v := 0) dLw_law__420 (by decide) ?_
      have g1 := h.1
      replace h := h.2
      have g2 := h.1
      replace h := h.2
      refine EvT.lald2 dLw_law__421 g1 g2 ?_
      refine EvT.iload dLw_law__422 rfl ?_
      refine EvT.i2l dLw_law__424 ?_
      refine EvT.lcmp dLw_law__425 ?_
      refine EvT.if_eq 431 (by decide) dLw_law__426 (fun c => ?_) (fun c => ?_)
      · replace h := h.1 c
        exact h
      · replace h := h.2 c
        refine EvT.iconst (v := 0) dLw_law__429 (by decide) ?_
        exact EvT.iret dLw_law__430 rfl rfl h
  · replace h := h.2 c
    refine EvT.iconst (v := 0) dLw_law__412 (by decide) ?_
    exact EvT.iret dLw_law__413 rfl rfl h
theorem bLw_law__431 {l : Launch} {G : Gx} {d : Nat} {bc bs : Nat} {Φ : OutV → Mm → Prop} {L : Nat} {xs : Nat → Int32} (hSC : SC G L xs) (M : Mm) (a1 : Nat) (a2 : Nat) (a3 : Nat) (x4 : Int32) (x5 : Int32) (x6 : Int32)
    (h : EvT [] l G d mLw_law_ 1843 [.ref 98, .ref a1, .ref a2, .ref a3, .int x4, .int x5, .int x6] [] M bc bs Φ) :
    EvT [] l G d mLw_law_ 431 [.ref 98, .ref a1, .ref a2, .ref a3, .int x4, .int x5, .int x6] [] M bc bs Φ := by
  refine EvT.goto 1843 dLw_law__431 (by decide) ?_
  exact h
theorem w998 : Cond.methodLink "BowingRowLaw" 119 ⟨"BowingRowLaw", "person", "(LBowingRow;II[J)I"⟩ ∈ lwg := lwg_of 998 (by decide +kernel) (by decide +kernel)
theorem bLw_law__434 {l : Launch} {G : Gx} {d : Nat} {bc bs : Nat} {Φ : OutV → Mm → Prop} {L : Nat} {xs : Nat → Int32} (hSC : SC G L xs) (M : Mm) (a1 : Nat) (a2 : Nat) (a3 : Nat) (x4 : Int32) (u5 : Value) (u6 : Value)
    (h : (vp_in (x4 + 1) L) ∧ (vp_in (x4 + 2) L) ∧ CallTH l G d mLw_law_ 451 [.ref 98, .ref a1, .ref a2, .ref a3, .int x4, u5, u6] [] mLw_person hLw_person [.ref a1, .int (xs (x4 + 1).toNatClampNeg), .int (xs (x4 + 2).toNatClampNeg), .ref a3] M bc bs Φ) :
    EvT [] l G d mLw_law_ 434 [.ref 98, .ref a1, .ref a2, .ref a3, .int x4, u5, u6] [] M bc bs Φ := by
  refine EvT.aload_n dLw_law__434 rfl ?_
  refine EvT.aload_n dLw_law__435 rfl ?_
  refine EvT.iload dLw_law__436 rfl ?_
  refine EvT.iconst (v := 1) dLw_law__438 (by decide) ?_
  refine EvT.iadd dLw_law__439 ?_
  have g1 := h.1
  replace h := h.2
  refine EvT.scld hSC dLw_law__440 g1 ?_
  refine EvT.aload_n dLw_law__441 rfl ?_
  refine EvT.iload dLw_law__442 rfl ?_
  refine EvT.iconst (v := 2) dLw_law__444 (by decide) ?_
  refine EvT.iadd dLw_law__445 ?_
  have g2 := h.1
  replace h := h.2
  refine EvT.scld hSC dLw_law__446 g2 ?_
  refine EvT.aload_n dLw_law__447 rfl ?_
  exact EvT.vcH (z := mLw_person) (hh := hLw_person) [.ref a1, .int (xs (x4 + 1).toNatClampNeg), .int (xs (x4 + 2).toNatClampNeg), .ref a3] [] rfl dLw_law__448 oLw_person rfl w998 iLw_person (Nat.le_of_ble_eq_true rfl) h
theorem w1614 : Cond.methodLink "BowingRowLaw" 122 ⟨"BowingRowModel", "person", "(II)I"⟩ ∈ lwg := lwg_of 1614 (by decide +kernel) (by decide +kernel)
theorem bLw_law__451 {l : Launch} {G : Gx} {d : Nat} {bc bs : Nat} {Φ : OutV → Mm → Prop} {L : Nat} {xs : Nat → Int32} (hSC : SC G L xs) (M : Mm) (a1 : Nat) (a2 : Nat) (a3 : Nat) (x4 : Int32) (u5 : Value) (u6 : Value) (s0 : Int32)
    (h : (vp_in (x4 + 1) L) ∧ (vp_in (x4 + 2) L) ∧ ((m_sh M a2).1 = 11) ∧ CallTC l G d mLw_law_ 469 [.ref 98, .ref a1, .ref a2, .ref a3, .int x4, .int s0, u6] [] mRe_person [.ref a2, .int (xs (x4 + 1).toNatClampNeg), .int (xs (x4 + 2).toNatClampNeg)] M bc bs Φ) :
    EvT [] l G d mLw_law_ 451 [.ref 98, .ref a1, .ref a2, .ref a3, .int x4, u5, u6] [.int s0] M bc bs Φ := by
  refine EvT.istore dLw_law__451 (by decide) ?_
  show EvT [] l G d mLw_law_ (_ + _) [.ref 98, .ref a1, .ref a2, .ref a3, .int x4, .int s0, u6] [] M bc bs Φ
  refine EvT.aload_n dLw_law__453 rfl ?_
  refine EvT.aload_n dLw_law__454 rfl ?_
  refine EvT.iload dLw_law__455 rfl ?_
  refine EvT.iconst (v := 1) dLw_law__457 (by decide) ?_
  refine EvT.iadd dLw_law__458 ?_
  have g1 := h.1
  replace h := h.2
  refine EvT.scld hSC dLw_law__459 g1 ?_
  refine EvT.aload_n dLw_law__460 rfl ?_
  refine EvT.iload dLw_law__461 rfl ?_
  refine EvT.iconst (v := 2) dLw_law__463 (by decide) ?_
  refine EvT.iadd dLw_law__464 ?_
  have g2 := h.1
  replace h := h.2
  refine EvT.scld hSC dLw_law__465 g2 ?_
  have g3 := h.1
  replace h := h.2
  exact EvT.vcV (z := mRe_person) (ci := 11) [.int (xs (x4 + 1).toNatClampNeg), .int (xs (x4 + 2).toNatClampNeg)] [] rfl dLw_law__466 oRe_person rfl w1614 iRe_person sRe_person (by decide) rfl g3 (Nat.le_of_ble_eq_true rfl) h
theorem bLw_law__469 {l : Launch} {G : Gx} {d : Nat} {bc bs : Nat} {Φ : OutV → Mm → Prop} {L : Nat} {xs : Nat → Int32} (hSC : SC G L xs) (M : Mm) (a1 : Nat) (a2 : Nat) (a3 : Nat) (x4 : Int32) (x5 : Int32) (u6 : Value) (s0 : Int32)
    (h : ((m_sh M a2).1 = 11) ∧ CallTC l G d mLw_law_ 475 [.ref 98, .ref a1, .ref a2, .ref a3, .int x4, .int x5, .int s0] [] mRe_thrown [.ref a2] M bc bs Φ) :
    EvT [] l G d mLw_law_ 469 [.ref 98, .ref a1, .ref a2, .ref a3, .int x4, .int x5, u6] [.int s0] M bc bs Φ := by
  refine EvT.istore dLw_law__469 (by decide) ?_
  show EvT [] l G d mLw_law_ (_ + _) [.ref 98, .ref a1, .ref a2, .ref a3, .int x4, .int x5, .int s0] [] M bc bs Φ
  refine EvT.aload_n dLw_law__471 rfl ?_
  have g1 := h.1
  replace h := h.2
  exact EvT.vcV (z := mRe_thrown) (ci := 11) [] [] rfl dLw_law__472 oRe_thrown rfl w1464 iRe_thrown sRe_thrown (by decide) rfl g1 (Nat.le_of_ble_eq_true rfl) h
theorem bLw_law__475 {l : Launch} {G : Gx} {d : Nat} {bc bs : Nat} {Φ : OutV → Mm → Prop} {L : Nat} {xs : Nat → Int32} (hSC : SC G L xs) (M : Mm) (a1 : Nat) (a2 : Nat) (a3 : Nat) (x4 : Int32) (x5 : Int32) (x6 : Int32) (s0 : Int32)
    (h : (s0 = x5 → (¬ x5 = 0 → EvT [] l G d mLw_law_ 499 [.ref 98, .ref a1, .ref a2, .ref a3, .int x4, .int x5, .int x6] [] M bc bs Φ) ∧ (x5 = 0 → ((m_sh M a3).1 = 22) ∧ (vp_in 0 (m_sh M a3).2) ∧ ((lg_cmp (m_l M a3 (0 : Int32).toNatClampNeg) x6.toInt64) = 0 → EvT [] l G d mLw_law_ 499 [.ref 98, .ref a1, .ref a2, .ref a3, .int x4, .int x5, .int x6] [] M bc bs Φ) ∧ (¬ (lg_cmp (m_l M a3 (0 : Int32).toNatClampNeg) x6.toInt64) = 0 → Φ (.inl (some (.int 0))) M))) ∧ (¬ s0 = x5 → Φ (.inl (some (.int 0))) M)) :
    EvT [] l G d mLw_law_ 475 [.ref 98, .ref a1, .ref a2, .ref a3, .int x4, .int x5, .int x6] [.int s0] M bc bs Φ := by
  refine EvT.iload dLw_law__475 rfl ?_
  refine EvT.icmp_eq 482 (by decide) dLw_law__477 (fun c => ?_) (fun c => ?_)
  · replace h := h.1 c
    refine EvT.iload dLw_law__482 rfl ?_
    refine EvT.if_ne 499 (by decide) dLw_law__484 (fun c => ?_) (fun c => ?_)
    · replace h := h.1 c
      exact h
    · replace h := h.2 c
      refine EvT.aload_n dLw_law__487 rfl ?_
      refine EvT.iconst (v := 0) dLw_law__488 (by decide) ?_
      have g1 := h.1
      replace h := h.2
      have g2 := h.1
      replace h := h.2
      refine EvT.lald2 dLw_law__489 g1 g2 ?_
      refine EvT.iload dLw_law__490 rfl ?_
      refine EvT.i2l dLw_law__492 ?_
      refine EvT.lcmp dLw_law__493 ?_
      refine EvT.if_eq 499 (by decide) dLw_law__494 (fun c => ?_) (fun c => ?_)
      · replace h := h.1 c
        exact h
      · replace h := h.2 c
        refine EvT.iconst (v := 0) dLw_law__497 (by decide) ?_
        exact EvT.iret dLw_law__498 rfl rfl h
  · replace h := h.2 c
    refine EvT.iconst (v := 0) dLw_law__480 (by decide) ?_
    exact EvT.iret dLw_law__481 rfl rfl h
theorem bLw_law__499 {l : Launch} {G : Gx} {d : Nat} {bc bs : Nat} {Φ : OutV → Mm → Prop} {L : Nat} {xs : Nat → Int32} (hSC : SC G L xs) (M : Mm) (a1 : Nat) (a2 : Nat) (a3 : Nat) (x4 : Int32) (x5 : Int32) (x6 : Int32)
    (h : EvT [] l G d mLw_law_ 1843 [.ref 98, .ref a1, .ref a2, .ref a3, .int x4, .int x5, .int x6] [] M bc bs Φ) :
    EvT [] l G d mLw_law_ 499 [.ref 98, .ref a1, .ref a2, .ref a3, .int x4, .int x5, .int x6] [] M bc bs Φ := by
  refine EvT.goto 1843 dLw_law__499 (by decide) ?_
  exact h
theorem w1027 : Cond.methodLink "BowingRowLaw" 123 ⟨"BowingRowLaw", "way", "(LBowingRow;II[J)I"⟩ ∈ lwg := lwg_of 1027 (by decide +kernel) (by decide +kernel)
theorem bLw_law__502 {l : Launch} {G : Gx} {d : Nat} {bc bs : Nat} {Φ : OutV → Mm → Prop} {L : Nat} {xs : Nat → Int32} (hSC : SC G L xs) (M : Mm) (a1 : Nat) (a2 : Nat) (a3 : Nat) (x4 : Int32) (u5 : Value) (u6 : Value)
    (h : (vp_in (x4 + 1) L) ∧ (vp_in (x4 + 2) L) ∧ CallTH l G d mLw_law_ 519 [.ref 98, .ref a1, .ref a2, .ref a3, .int x4, u5, u6] [] mLw_way hLw_way [.ref a1, .int (xs (x4 + 1).toNatClampNeg), .int (xs (x4 + 2).toNatClampNeg), .ref a3] M bc bs Φ) :
    EvT [] l G d mLw_law_ 502 [.ref 98, .ref a1, .ref a2, .ref a3, .int x4, u5, u6] [] M bc bs Φ := by
  refine EvT.aload_n dLw_law__502 rfl ?_
  refine EvT.aload_n dLw_law__503 rfl ?_
  refine EvT.iload dLw_law__504 rfl ?_
  refine EvT.iconst (v := 1) dLw_law__506 (by decide) ?_
  refine EvT.iadd dLw_law__507 ?_
  have g1 := h.1
  replace h := h.2
  refine EvT.scld hSC dLw_law__508 g1 ?_
  refine EvT.aload_n dLw_law__509 rfl ?_
  refine EvT.iload dLw_law__510 rfl ?_
  refine EvT.iconst (v := 2) dLw_law__512 (by decide) ?_
  refine EvT.iadd dLw_law__513 ?_
  have g2 := h.1
  replace h := h.2
  refine EvT.scld hSC dLw_law__514 g2 ?_
  refine EvT.aload_n dLw_law__515 rfl ?_
  exact EvT.vcH (z := mLw_way) (hh := hLw_way) [.ref a1, .int (xs (x4 + 1).toNatClampNeg), .int (xs (x4 + 2).toNatClampNeg), .ref a3] [] rfl dLw_law__516 oLw_way rfl w1027 iLw_way (Nat.le_of_ble_eq_true rfl) h
theorem w1622 : Cond.methodLink "BowingRowLaw" 125 ⟨"BowingRowModel", "way", "(II)I"⟩ ∈ lwg := lwg_of 1622 (by decide +kernel) (by decide +kernel)
theorem bLw_law__519 {l : Launch} {G : Gx} {d : Nat} {bc bs : Nat} {Φ : OutV → Mm → Prop} {L : Nat} {xs : Nat → Int32} (hSC : SC G L xs) (M : Mm) (a1 : Nat) (a2 : Nat) (a3 : Nat) (x4 : Int32) (u5 : Value) (u6 : Value) (s0 : Int32)
    (h : (vp_in (x4 + 1) L) ∧ (vp_in (x4 + 2) L) ∧ ((m_sh M a2).1 = 11) ∧ CallTC l G d mLw_law_ 537 [.ref 98, .ref a1, .ref a2, .ref a3, .int x4, .int s0, u6] [] mRe_way [.ref a2, .int (xs (x4 + 1).toNatClampNeg), .int (xs (x4 + 2).toNatClampNeg)] M bc bs Φ) :
    EvT [] l G d mLw_law_ 519 [.ref 98, .ref a1, .ref a2, .ref a3, .int x4, u5, u6] [.int s0] M bc bs Φ := by
  refine EvT.istore dLw_law__519 (by decide) ?_
  show EvT [] l G d mLw_law_ (_ + _) [.ref 98, .ref a1, .ref a2, .ref a3, .int x4, .int s0, u6] [] M bc bs Φ
  refine EvT.aload_n dLw_law__521 rfl ?_
  refine EvT.aload_n dLw_law__522 rfl ?_
  refine EvT.iload dLw_law__523 rfl ?_
  refine EvT.iconst (v := 1) dLw_law__525 (by decide) ?_
  refine EvT.iadd dLw_law__526 ?_
  have g1 := h.1
  replace h := h.2
  refine EvT.scld hSC dLw_law__527 g1 ?_
  refine EvT.aload_n dLw_law__528 rfl ?_
  refine EvT.iload dLw_law__529 rfl ?_
  refine EvT.iconst (v := 2) dLw_law__531 (by decide) ?_
  refine EvT.iadd dLw_law__532 ?_
  have g2 := h.1
  replace h := h.2
  refine EvT.scld hSC dLw_law__533 g2 ?_
  have g3 := h.1
  replace h := h.2
  exact EvT.vcV (z := mRe_way) (ci := 11) [.int (xs (x4 + 1).toNatClampNeg), .int (xs (x4 + 2).toNatClampNeg)] [] rfl dLw_law__534 oRe_way rfl w1622 iRe_way sRe_way (by decide) rfl g3 (Nat.le_of_ble_eq_true rfl) h
theorem bLw_law__537 {l : Launch} {G : Gx} {d : Nat} {bc bs : Nat} {Φ : OutV → Mm → Prop} {L : Nat} {xs : Nat → Int32} (hSC : SC G L xs) (M : Mm) (a1 : Nat) (a2 : Nat) (a3 : Nat) (x4 : Int32) (x5 : Int32) (u6 : Value) (s0 : Int32)
    (h : ((m_sh M a2).1 = 11) ∧ CallTC l G d mLw_law_ 543 [.ref 98, .ref a1, .ref a2, .ref a3, .int x4, .int x5, .int s0] [] mRe_thrown [.ref a2] M bc bs Φ) :
    EvT [] l G d mLw_law_ 537 [.ref 98, .ref a1, .ref a2, .ref a3, .int x4, .int x5, u6] [.int s0] M bc bs Φ := by
  refine EvT.istore dLw_law__537 (by decide) ?_
  show EvT [] l G d mLw_law_ (_ + _) [.ref 98, .ref a1, .ref a2, .ref a3, .int x4, .int x5, .int s0] [] M bc bs Φ
  refine EvT.aload_n dLw_law__539 rfl ?_
  have g1 := h.1
  replace h := h.2
  exact EvT.vcV (z := mRe_thrown) (ci := 11) [] [] rfl dLw_law__540 oRe_thrown rfl w1464 iRe_thrown sRe_thrown (by decide) rfl g1 (Nat.le_of_ble_eq_true rfl) h
theorem bLw_law__543 {l : Launch} {G : Gx} {d : Nat} {bc bs : Nat} {Φ : OutV → Mm → Prop} {L : Nat} {xs : Nat → Int32} (hSC : SC G L xs) (M : Mm) (a1 : Nat) (a2 : Nat) (a3 : Nat) (x4 : Int32) (x5 : Int32) (x6 : Int32) (s0 : Int32)
    (h : (s0 = x5 → (¬ x5 = 0 → EvT [] l G d mLw_law_ 567 [.ref 98, .ref a1, .ref a2, .ref a3, .int x4, .int x5, .int x6] [] M bc bs Φ) ∧ (x5 = 0 → ((m_sh M a3).1 = 22) ∧ (vp_in 0 (m_sh M a3).2) ∧ ((lg_cmp (m_l M a3 (0 : Int32).toNatClampNeg) x6.toInt64) = 0 → EvT [] l G d mLw_law_ 567 [.ref 98, .ref a1, .ref a2, .ref a3, .int x4, .int x5, .int x6] [] M bc bs Φ) ∧ (¬ (lg_cmp (m_l M a3 (0 : Int32).toNatClampNeg) x6.toInt64) = 0 → Φ (.inl (some (.int 0))) M))) ∧ (¬ s0 = x5 → Φ (.inl (some (.int 0))) M)) :
    EvT [] l G d mLw_law_ 543 [.ref 98, .ref a1, .ref a2, .ref a3, .int x4, .int x5, .int x6] [.int s0] M bc bs Φ := by
  refine EvT.iload dLw_law__543 rfl ?_
  refine EvT.icmp_eq 550 (by decide) dLw_law__545 (fun c => ?_) (fun c => ?_)
  · replace h := h.1 c
    refine EvT.iload dLw_law__550 rfl ?_
    refine EvT.if_ne 567 (by decide) dLw_law__552 (fun c => ?_) (fun c => ?_)
    · replace h := h.1 c
      exact h
    · replace h := h.2 c
      refine EvT.aload_n dLw_law__555 rfl ?_
      refine EvT.iconst (v := 0) dLw_law__556 (by decide) ?_
      have g1 := h.1
      replace h := h.2
      have g2 := h.1
      replace h := h.2
      refine EvT.lald2 dLw_law__557 g1 g2 ?_
      refine EvT.iload dLw_law__558 rfl ?_
      refine EvT.i2l dLw_law__560 ?_
      refine EvT.lcmp dLw_law__561 ?_
      refine EvT.if_eq 567 (by decide) dLw_law__562 (fun c => ?_) (fun c => ?_)
      · replace h := h.1 c
        exact h
      · replace h := h.2 c
        refine EvT.iconst (v := 0) dLw_law__565 (by decide) ?_
        exact EvT.iret dLw_law__566 rfl rfl h
  · replace h := h.2 c
    refine EvT.iconst (v := 0) dLw_law__548 (by decide) ?_
    exact EvT.iret dLw_law__549 rfl rfl h
theorem bLw_law__567 {l : Launch} {G : Gx} {d : Nat} {bc bs : Nat} {Φ : OutV → Mm → Prop} {L : Nat} {xs : Nat → Int32} (hSC : SC G L xs) (M : Mm) (a1 : Nat) (a2 : Nat) (a3 : Nat) (x4 : Int32) (x5 : Int32) (x6 : Int32)
    (h : EvT [] l G d mLw_law_ 1843 [.ref 98, .ref a1, .ref a2, .ref a3, .int x4, .int x5, .int x6] [] M bc bs Φ) :
    EvT [] l G d mLw_law_ 567 [.ref 98, .ref a1, .ref a2, .ref a3, .int x4, .int x5, .int x6] [] M bc bs Φ := by
  refine EvT.goto 1843 dLw_law__567 (by decide) ?_
  exact h
theorem w1035 : Cond.methodLink "BowingRowLaw" 126 ⟨"BowingRowLaw", "until", "(LBowingRow;II[J)I"⟩ ∈ lwg := lwg_of 1035 (by decide +kernel) (by decide +kernel)
theorem bLw_law__570 {l : Launch} {G : Gx} {d : Nat} {bc bs : Nat} {Φ : OutV → Mm → Prop} {L : Nat} {xs : Nat → Int32} (hSC : SC G L xs) (M : Mm) (a1 : Nat) (a2 : Nat) (a3 : Nat) (x4 : Int32) (u5 : Value) (u6 : Value)
    (h : (vp_in (x4 + 1) L) ∧ (vp_in (x4 + 2) L) ∧ CallTH l G d mLw_law_ 587 [.ref 98, .ref a1, .ref a2, .ref a3, .int x4, u5, u6] [] mLw_until hLw_until [.ref a1, .int (xs (x4 + 1).toNatClampNeg), .int (xs (x4 + 2).toNatClampNeg), .ref a3] M bc bs Φ) :
    EvT [] l G d mLw_law_ 570 [.ref 98, .ref a1, .ref a2, .ref a3, .int x4, u5, u6] [] M bc bs Φ := by
  refine EvT.aload_n dLw_law__570 rfl ?_
  refine EvT.aload_n dLw_law__571 rfl ?_
  refine EvT.iload dLw_law__572 rfl ?_
  refine EvT.iconst (v := 1) dLw_law__574 (by decide) ?_
  refine EvT.iadd dLw_law__575 ?_
  have g1 := h.1
  replace h := h.2
  refine EvT.scld hSC dLw_law__576 g1 ?_
  refine EvT.aload_n dLw_law__577 rfl ?_
  refine EvT.iload dLw_law__578 rfl ?_
  refine EvT.iconst (v := 2) dLw_law__580 (by decide) ?_
  refine EvT.iadd dLw_law__581 ?_
  have g2 := h.1
  replace h := h.2
  refine EvT.scld hSC dLw_law__582 g2 ?_
  refine EvT.aload_n dLw_law__583 rfl ?_
  exact EvT.vcH (z := mLw_until) (hh := hLw_until) [.ref a1, .int (xs (x4 + 1).toNatClampNeg), .int (xs (x4 + 2).toNatClampNeg), .ref a3] [] rfl dLw_law__584 oLw_until rfl w1035 iLw_until (Nat.le_of_ble_eq_true rfl) h
theorem w1626 : Cond.methodLink "BowingRowLaw" 128 ⟨"BowingRowModel", "until", "(II)I"⟩ ∈ lwg := lwg_of 1626 (by decide +kernel) (by decide +kernel)
theorem bLw_law__587 {l : Launch} {G : Gx} {d : Nat} {bc bs : Nat} {Φ : OutV → Mm → Prop} {L : Nat} {xs : Nat → Int32} (hSC : SC G L xs) (M : Mm) (a1 : Nat) (a2 : Nat) (a3 : Nat) (x4 : Int32) (u5 : Value) (u6 : Value) (s0 : Int32)
    (h : (vp_in (x4 + 1) L) ∧ (vp_in (x4 + 2) L) ∧ ((m_sh M a2).1 = 11) ∧ CallTC l G d mLw_law_ 605 [.ref 98, .ref a1, .ref a2, .ref a3, .int x4, .int s0, u6] [] mRe_until [.ref a2, .int (xs (x4 + 1).toNatClampNeg), .int (xs (x4 + 2).toNatClampNeg)] M bc bs Φ) :
    EvT [] l G d mLw_law_ 587 [.ref 98, .ref a1, .ref a2, .ref a3, .int x4, u5, u6] [.int s0] M bc bs Φ := by
  refine EvT.istore dLw_law__587 (by decide) ?_
  show EvT [] l G d mLw_law_ (_ + _) [.ref 98, .ref a1, .ref a2, .ref a3, .int x4, .int s0, u6] [] M bc bs Φ
  refine EvT.aload_n dLw_law__589 rfl ?_
  refine EvT.aload_n dLw_law__590 rfl ?_
  refine EvT.iload dLw_law__591 rfl ?_
  refine EvT.iconst (v := 1) dLw_law__593 (by decide) ?_
  refine EvT.iadd dLw_law__594 ?_
  have g1 := h.1
  replace h := h.2
  refine EvT.scld hSC dLw_law__595 g1 ?_
  refine EvT.aload_n dLw_law__596 rfl ?_
  refine EvT.iload dLw_law__597 rfl ?_
  refine EvT.iconst (v := 2) dLw_law__599 (by decide) ?_
  refine EvT.iadd dLw_law__600 ?_
  have g2 := h.1
  replace h := h.2
  refine EvT.scld hSC dLw_law__601 g2 ?_
  have g3 := h.1
  replace h := h.2
  exact EvT.vcV (z := mRe_until) (ci := 11) [.int (xs (x4 + 1).toNatClampNeg), .int (xs (x4 + 2).toNatClampNeg)] [] rfl dLw_law__602 oRe_until rfl w1626 iRe_until sRe_until (by decide) rfl g3 (Nat.le_of_ble_eq_true rfl) h
theorem bLw_law__605 {l : Launch} {G : Gx} {d : Nat} {bc bs : Nat} {Φ : OutV → Mm → Prop} {L : Nat} {xs : Nat → Int32} (hSC : SC G L xs) (M : Mm) (a1 : Nat) (a2 : Nat) (a3 : Nat) (x4 : Int32) (x5 : Int32) (u6 : Value) (s0 : Int32)
    (h : ((m_sh M a2).1 = 11) ∧ CallTC l G d mLw_law_ 611 [.ref 98, .ref a1, .ref a2, .ref a3, .int x4, .int x5, .int s0] [] mRe_thrown [.ref a2] M bc bs Φ) :
    EvT [] l G d mLw_law_ 605 [.ref 98, .ref a1, .ref a2, .ref a3, .int x4, .int x5, u6] [.int s0] M bc bs Φ := by
  refine EvT.istore dLw_law__605 (by decide) ?_
  show EvT [] l G d mLw_law_ (_ + _) [.ref 98, .ref a1, .ref a2, .ref a3, .int x4, .int x5, .int s0] [] M bc bs Φ
  refine EvT.aload_n dLw_law__607 rfl ?_
  have g1 := h.1
  replace h := h.2
  exact EvT.vcV (z := mRe_thrown) (ci := 11) [] [] rfl dLw_law__608 oRe_thrown rfl w1464 iRe_thrown sRe_thrown (by decide) rfl g1 (Nat.le_of_ble_eq_true rfl) h
theorem bLw_law__611 {l : Launch} {G : Gx} {d : Nat} {bc bs : Nat} {Φ : OutV → Mm → Prop} {L : Nat} {xs : Nat → Int32} (hSC : SC G L xs) (M : Mm) (a1 : Nat) (a2 : Nat) (a3 : Nat) (x4 : Int32) (x5 : Int32) (x6 : Int32) (s0 : Int32)
    (h : (s0 = x5 → (¬ x5 = 0 → EvT [] l G d mLw_law_ 635 [.ref 98, .ref a1, .ref a2, .ref a3, .int x4, .int x5, .int x6] [] M bc bs Φ) ∧ (x5 = 0 → ((m_sh M a3).1 = 22) ∧ (vp_in 0 (m_sh M a3).2) ∧ ((lg_cmp (m_l M a3 (0 : Int32).toNatClampNeg) x6.toInt64) = 0 → EvT [] l G d mLw_law_ 635 [.ref 98, .ref a1, .ref a2, .ref a3, .int x4, .int x5, .int x6] [] M bc bs Φ) ∧ (¬ (lg_cmp (m_l M a3 (0 : Int32).toNatClampNeg) x6.toInt64) = 0 → Φ (.inl (some (.int 0))) M))) ∧ (¬ s0 = x5 → Φ (.inl (some (.int 0))) M)) :
    EvT [] l G d mLw_law_ 611 [.ref 98, .ref a1, .ref a2, .ref a3, .int x4, .int x5, .int x6] [.int s0] M bc bs Φ := by
  refine EvT.iload dLw_law__611 rfl ?_
  refine EvT.icmp_eq 618 (by decide) dLw_law__613 (fun c => ?_) (fun c => ?_)
  · replace h := h.1 c
    refine EvT.iload dLw_law__618 rfl ?_
    refine EvT.if_ne 635 (by decide) dLw_law__620 (fun c => ?_) (fun c => ?_)
    · replace h := h.1 c
      exact h
    · replace h := h.2 c
      refine EvT.aload_n dLw_law__623 rfl ?_
      refine EvT.iconst (v := 0) dLw_law__624 (by decide) ?_
      have g1 := h.1
      replace h := h.2
      have g2 := h.1
      replace h := h.2
      refine EvT.lald2 dLw_law__625 g1 g2 ?_
      refine EvT.iload dLw_law__626 rfl ?_
      refine EvT.i2l dLw_law__628 ?_
      refine EvT.lcmp dLw_law__629 ?_
      refine EvT.if_eq 635 (by decide) dLw_law__630 (fun c => ?_) (fun c => ?_)
      · replace h := h.1 c
        exact h
      · replace h := h.2 c
        refine EvT.iconst (v := 0) dLw_law__633 (by decide) ?_
        exact EvT.iret dLw_law__634 rfl rfl h
  · replace h := h.2 c
    refine EvT.iconst (v := 0) dLw_law__616 (by decide) ?_
    exact EvT.iret dLw_law__617 rfl rfl h
theorem bLw_law__635 {l : Launch} {G : Gx} {d : Nat} {bc bs : Nat} {Φ : OutV → Mm → Prop} {L : Nat} {xs : Nat → Int32} (hSC : SC G L xs) (M : Mm) (a1 : Nat) (a2 : Nat) (a3 : Nat) (x4 : Int32) (x5 : Int32) (x6 : Int32)
    (h : EvT [] l G d mLw_law_ 1843 [.ref 98, .ref a1, .ref a2, .ref a3, .int x4, .int x5, .int x6] [] M bc bs Φ) :
    EvT [] l G d mLw_law_ 635 [.ref 98, .ref a1, .ref a2, .ref a3, .int x4, .int x5, .int x6] [] M bc bs Φ := by
  refine EvT.goto 1843 dLw_law__635 (by decide) ?_
  exact h
theorem w1042 : Cond.methodLink "BowingRowLaw" 129 ⟨"BowingRowLaw", "must", "(LBowingRow;III[J)I"⟩ ∈ lwg := lwg_of 1042 (by decide +kernel) (by decide +kernel)
theorem bLw_law__638 {l : Launch} {G : Gx} {d : Nat} {bc bs : Nat} {Φ : OutV → Mm → Prop} {L : Nat} {xs : Nat → Int32} (hSC : SC G L xs) (M : Mm) (a1 : Nat) (a2 : Nat) (a3 : Nat) (x4 : Int32) (u5 : Value) (u6 : Value)
    (h : (vp_in (x4 + 1) L) ∧ (vp_in (x4 + 2) L) ∧ (vp_in (x4 + 3) L) ∧ CallTH l G d mLw_law_ 661 [.ref 98, .ref a1, .ref a2, .ref a3, .int x4, u5, u6] [] mLw_must hLw_must [.ref a1, .int (xs (x4 + 1).toNatClampNeg), .int (xs (x4 + 2).toNatClampNeg), .int (xs (x4 + 3).toNatClampNeg), .ref a3] M bc bs Φ) :
    EvT [] l G d mLw_law_ 638 [.ref 98, .ref a1, .ref a2, .ref a3, .int x4, u5, u6] [] M bc bs Φ := by
  refine EvT.aload_n dLw_law__638 rfl ?_
  refine EvT.aload_n dLw_law__639 rfl ?_
  refine EvT.iload dLw_law__640 rfl ?_
  refine EvT.iconst (v := 1) dLw_law__642 (by decide) ?_
  refine EvT.iadd dLw_law__643 ?_
  have g1 := h.1
  replace h := h.2
  refine EvT.scld hSC dLw_law__644 g1 ?_
  refine EvT.aload_n dLw_law__645 rfl ?_
  refine EvT.iload dLw_law__646 rfl ?_
  refine EvT.iconst (v := 2) dLw_law__648 (by decide) ?_
  refine EvT.iadd dLw_law__649 ?_
  have g2 := h.1
  replace h := h.2
  refine EvT.scld hSC dLw_law__650 g2 ?_
  refine EvT.aload_n dLw_law__651 rfl ?_
  refine EvT.iload dLw_law__652 rfl ?_
  refine EvT.iconst (v := 3) dLw_law__654 (by decide) ?_
  refine EvT.iadd dLw_law__655 ?_
  have g3 := h.1
  replace h := h.2
  refine EvT.scld hSC dLw_law__656 g3 ?_
  refine EvT.aload_n dLw_law__657 rfl ?_
  exact EvT.vcH (z := mLw_must) (hh := hLw_must) [.ref a1, .int (xs (x4 + 1).toNatClampNeg), .int (xs (x4 + 2).toNatClampNeg), .int (xs (x4 + 3).toNatClampNeg), .ref a3] [] rfl dLw_law__658 oLw_must rfl w1042 iLw_must (Nat.le_of_ble_eq_true rfl) h
theorem w1630 : Cond.methodLink "BowingRowLaw" 132 ⟨"BowingRowModel", "must", "(III)Z"⟩ ∈ lwg := lwg_of 1630 (by decide +kernel) (by decide +kernel)
theorem bLw_law__661 {l : Launch} {G : Gx} {d : Nat} {bc bs : Nat} {Φ : OutV → Mm → Prop} {L : Nat} {xs : Nat → Int32} (hSC : SC G L xs) (M : Mm) (a1 : Nat) (a2 : Nat) (a3 : Nat) (x4 : Int32) (u5 : Value) (u6 : Value) (s0 : Int32)
    (h : (vp_in (x4 + 1) L) ∧ (vp_in (x4 + 2) L) ∧ (vp_in (x4 + 3) L) ∧ ((m_sh M a2).1 = 11) ∧ CallTC l G d mLw_law_ 685 [.ref 98, .ref a1, .ref a2, .ref a3, .int x4, .int s0, u6] [] mRe_must [.ref a2, .int (xs (x4 + 1).toNatClampNeg), .int (xs (x4 + 2).toNatClampNeg), .int (xs (x4 + 3).toNatClampNeg)] M bc bs Φ) :
    EvT [] l G d mLw_law_ 661 [.ref 98, .ref a1, .ref a2, .ref a3, .int x4, u5, u6] [.int s0] M bc bs Φ := by
  refine EvT.istore dLw_law__661 (by decide) ?_
  show EvT [] l G d mLw_law_ (_ + _) [.ref 98, .ref a1, .ref a2, .ref a3, .int x4, .int s0, u6] [] M bc bs Φ
  refine EvT.aload_n dLw_law__663 rfl ?_
  refine EvT.aload_n dLw_law__664 rfl ?_
  refine EvT.iload dLw_law__665 rfl ?_
  refine EvT.iconst (v := 1) dLw_law__667 (by decide) ?_
  refine EvT.iadd dLw_law__668 ?_
  have g1 := h.1
  replace h := h.2
  refine EvT.scld hSC dLw_law__669 g1 ?_
  refine EvT.aload_n dLw_law__670 rfl ?_
  refine EvT.iload dLw_law__671 rfl ?_
  refine EvT.iconst (v := 2) dLw_law__673 (by decide) ?_
  refine EvT.iadd dLw_law__674 ?_
  have g2 := h.1
  replace h := h.2
  refine EvT.scld hSC dLw_law__675 g2 ?_
  refine EvT.aload_n dLw_law__676 rfl ?_
  refine EvT.iload dLw_law__677 rfl ?_
  refine EvT.iconst (v := 3) dLw_law__679 (by decide) ?_
  refine EvT.iadd dLw_law__680 ?_
  have g3 := h.1
  replace h := h.2
  refine EvT.scld hSC dLw_law__681 g3 ?_
  have g4 := h.1
  replace h := h.2
  exact EvT.vcV (z := mRe_must) (ci := 11) [.int (xs (x4 + 1).toNatClampNeg), .int (xs (x4 + 2).toNatClampNeg), .int (xs (x4 + 3).toNatClampNeg)] [] rfl dLw_law__682 oRe_must rfl w1630 iRe_must sRe_must (by decide) rfl g4 (Nat.le_of_ble_eq_true rfl) h
theorem bLw_law__685 {l : Launch} {G : Gx} {d : Nat} {bc bs : Nat} {Φ : OutV → Mm → Prop} {L : Nat} {xs : Nat → Int32} (hSC : SC G L xs) (M : Mm) (a1 : Nat) (a2 : Nat) (a3 : Nat) (x4 : Int32) (x5 : Int32) (u6 : Value) (s0 : Int32)
    (h : ((m_sh M a2).1 = 11) ∧ CallTC l G d mLw_law_ 691 [.ref 98, .ref a1, .ref a2, .ref a3, .int x4, .int x5, .int s0] [] mRe_thrown [.ref a2] M bc bs Φ) :
    EvT [] l G d mLw_law_ 685 [.ref 98, .ref a1, .ref a2, .ref a3, .int x4, .int x5, u6] [.int s0] M bc bs Φ := by
  refine EvT.istore dLw_law__685 (by decide) ?_
  show EvT [] l G d mLw_law_ (_ + _) [.ref 98, .ref a1, .ref a2, .ref a3, .int x4, .int x5, .int s0] [] M bc bs Φ
  refine EvT.aload_n dLw_law__687 rfl ?_
  have g1 := h.1
  replace h := h.2
  exact EvT.vcV (z := mRe_thrown) (ci := 11) [] [] rfl dLw_law__688 oRe_thrown rfl w1464 iRe_thrown sRe_thrown (by decide) rfl g1 (Nat.le_of_ble_eq_true rfl) h
theorem bLw_law__691 {l : Launch} {G : Gx} {d : Nat} {bc bs : Nat} {Φ : OutV → Mm → Prop} {L : Nat} {xs : Nat → Int32} (hSC : SC G L xs) (M : Mm) (a1 : Nat) (a2 : Nat) (a3 : Nat) (x4 : Int32) (x5 : Int32) (x6 : Int32) (s0 : Int32)
    (h : (s0 = x5 → (¬ x5 = 0 → EvT [] l G d mLw_law_ 722 [.ref 98, .ref a1, .ref a2, .ref a3, .int x4, .int x5, .int x6] [] M bc bs Φ) ∧ (x5 = 0 → ((m_sh M a3).1 = 22) ∧ (vp_in 0 (m_sh M a3).2) ∧ (x6 = 0 → ((lg_cmp (m_l M a3 (0 : Int32).toNatClampNeg) 0) = 0 → EvT [] l G d mLw_law_ 722 [.ref 98, .ref a1, .ref a2, .ref a3, .int x4, .int x5, .int x6] [] M bc bs Φ) ∧ (¬ (lg_cmp (m_l M a3 (0 : Int32).toNatClampNeg) 0) = 0 → Φ (.inl (some (.int 0))) M)) ∧ (¬ x6 = 0 → ((lg_cmp (m_l M a3 (0 : Int32).toNatClampNeg) 1) = 0 → EvT [] l G d mLw_law_ 722 [.ref 98, .ref a1, .ref a2, .ref a3, .int x4, .int x5, .int x6] [] M bc bs Φ) ∧ (¬ (lg_cmp (m_l M a3 (0 : Int32).toNatClampNeg) 1) = 0 → Φ (.inl (some (.int 0))) M)))) ∧ (¬ s0 = x5 → Φ (.inl (some (.int 0))) M)) :
    EvT [] l G d mLw_law_ 691 [.ref 98, .ref a1, .ref a2, .ref a3, .int x4, .int x5, .int x6] [.int s0] M bc bs Φ := by
  refine EvT.iload dLw_law__691 rfl ?_
  refine EvT.icmp_eq 698 (by decide) dLw_law__693 (fun c => ?_) (fun c => ?_)
  · replace h := h.1 c
    refine EvT.iload dLw_law__698 rfl ?_
    refine EvT.if_ne 722 (by decide) dLw_law__700 (fun c => ?_) (fun c => ?_)
    · replace h := h.1 c
      exact h
    · replace h := h.2 c
      refine EvT.aload_n dLw_law__703 rfl ?_
      refine EvT.iconst (v := 0) dLw_law__704 (by decide) ?_
      have g1 := h.1
      replace h := h.2
      have g2 := h.1
      replace h := h.2
      refine EvT.lald2 dLw_law__705 g1 g2 ?_
      refine EvT.iload dLw_law__706 rfl ?_
      refine EvT.if_eq 715 (by decide) dLw_law__708 (fun c => ?_) (fun c => ?_)
      · replace h := h.1 c
        refine EvT.lconst (v := 0) dLw_law__715 (by decide) ?_
        refine EvT.lcmp dLw_law__716 ?_
        refine EvT.if_eq 722 (by decide) dLw_law__717 (fun c => ?_) (fun c => ?_)
        · replace h := h.1 c
          exact h
        · replace h := h.2 c
          refine EvT.iconst (v := 0) dLw_law__720 (by decide) ?_
          exact EvT.iret dLw_law__721 rfl rfl h
      · replace h := h.2 c
        refine EvT.lconst (v := 1) dLw_law__711 (by decide) ?_
        refine EvT.goto 716 dLw_law__712 (by decide) ?_
        refine EvT.lcmp dLw_law__716 ?_
        refine EvT.if_eq 722 (by decide) dLw_law__717 (fun c => ?_) (fun c => ?_)
        · replace h := h.1 c
          exact h
        · replace h := h.2 c
          refine EvT.iconst (v := 0) dLw_law__720 (by decide) ?_
          exact EvT.iret dLw_law__721 rfl rfl h
  · replace h := h.2 c
    refine EvT.iconst (v := 0) dLw_law__696 (by decide) ?_
    exact EvT.iret dLw_law__697 rfl rfl h
theorem bLw_law__722 {l : Launch} {G : Gx} {d : Nat} {bc bs : Nat} {Φ : OutV → Mm → Prop} {L : Nat} {xs : Nat → Int32} (hSC : SC G L xs) (M : Mm) (a1 : Nat) (a2 : Nat) (a3 : Nat) (x4 : Int32) (x5 : Int32) (x6 : Int32)
    (h : EvT [] l G d mLw_law_ 1843 [.ref 98, .ref a1, .ref a2, .ref a3, .int x4, .int x5, .int x6] [] M bc bs Φ) :
    EvT [] l G d mLw_law_ 722 [.ref 98, .ref a1, .ref a2, .ref a3, .int x4, .int x5, .int x6] [] M bc bs Φ := by
  refine EvT.goto 1843 dLw_law__722 (by decide) ?_
  exact h
theorem w1055 : Cond.methodLink "BowingRowLaw" 133 ⟨"BowingRowLaw", "worth", "(LBowingRow;III[J)I"⟩ ∈ lwg := lwg_of 1055 (by decide +kernel) (by decide +kernel)
theorem bLw_law__725 {l : Launch} {G : Gx} {d : Nat} {bc bs : Nat} {Φ : OutV → Mm → Prop} {L : Nat} {xs : Nat → Int32} (hSC : SC G L xs) (M : Mm) (a1 : Nat) (a2 : Nat) (a3 : Nat) (x4 : Int32) (u5 : Value) (u6 : Value)
    (h : (vp_in (x4 + 1) L) ∧ (vp_in (x4 + 2) L) ∧ (vp_in (x4 + 3) L) ∧ CallTH l G d mLw_law_ 748 [.ref 98, .ref a1, .ref a2, .ref a3, .int x4, u5, u6] [] mLw_worth hLw_worth [.ref a1, .int (xs (x4 + 1).toNatClampNeg), .int (xs (x4 + 2).toNatClampNeg), .int (xs (x4 + 3).toNatClampNeg), .ref a3] M bc bs Φ) :
    EvT [] l G d mLw_law_ 725 [.ref 98, .ref a1, .ref a2, .ref a3, .int x4, u5, u6] [] M bc bs Φ := by
  refine EvT.aload_n dLw_law__725 rfl ?_
  refine EvT.aload_n dLw_law__726 rfl ?_
  refine EvT.iload dLw_law__727 rfl ?_
  refine EvT.iconst (v := 1) dLw_law__729 (by decide) ?_
  refine EvT.iadd dLw_law__730 ?_
  have g1 := h.1
  replace h := h.2
  refine EvT.scld hSC dLw_law__731 g1 ?_
  refine EvT.aload_n dLw_law__732 rfl ?_
  refine EvT.iload dLw_law__733 rfl ?_
  refine EvT.iconst (v := 2) dLw_law__735 (by decide) ?_
  refine EvT.iadd dLw_law__736 ?_
  have g2 := h.1
  replace h := h.2
  refine EvT.scld hSC dLw_law__737 g2 ?_
  refine EvT.aload_n dLw_law__738 rfl ?_
  refine EvT.iload dLw_law__739 rfl ?_
  refine EvT.iconst (v := 3) dLw_law__741 (by decide) ?_
  refine EvT.iadd dLw_law__742 ?_
  have g3 := h.1
  replace h := h.2
  refine EvT.scld hSC dLw_law__743 g3 ?_
  refine EvT.aload_n dLw_law__744 rfl ?_
  exact EvT.vcH (z := mLw_worth) (hh := hLw_worth) [.ref a1, .int (xs (x4 + 1).toNatClampNeg), .int (xs (x4 + 2).toNatClampNeg), .int (xs (x4 + 3).toNatClampNeg), .ref a3] [] rfl dLw_law__745 oLw_worth rfl w1055 iLw_worth (Nat.le_of_ble_eq_true rfl) h
theorem w1649 : Cond.methodLink "BowingRowLaw" 135 ⟨"BowingRowModel", "worth", "(III)I"⟩ ∈ lwg := lwg_of 1649 (by decide +kernel) (by decide +kernel)
theorem bLw_law__748 {l : Launch} {G : Gx} {d : Nat} {bc bs : Nat} {Φ : OutV → Mm → Prop} {L : Nat} {xs : Nat → Int32} (hSC : SC G L xs) (M : Mm) (a1 : Nat) (a2 : Nat) (a3 : Nat) (x4 : Int32) (u5 : Value) (u6 : Value) (s0 : Int32)
    (h : (vp_in (x4 + 1) L) ∧ (vp_in (x4 + 2) L) ∧ (vp_in (x4 + 3) L) ∧ ((m_sh M a2).1 = 11) ∧ CallTC l G d mLw_law_ 772 [.ref 98, .ref a1, .ref a2, .ref a3, .int x4, .int s0, u6] [] mRe_worth [.ref a2, .int (xs (x4 + 1).toNatClampNeg), .int (xs (x4 + 2).toNatClampNeg), .int (xs (x4 + 3).toNatClampNeg)] M bc bs Φ) :
    EvT [] l G d mLw_law_ 748 [.ref 98, .ref a1, .ref a2, .ref a3, .int x4, u5, u6] [.int s0] M bc bs Φ := by
  refine EvT.istore dLw_law__748 (by decide) ?_
  show EvT [] l G d mLw_law_ (_ + _) [.ref 98, .ref a1, .ref a2, .ref a3, .int x4, .int s0, u6] [] M bc bs Φ
  refine EvT.aload_n dLw_law__750 rfl ?_
  refine EvT.aload_n dLw_law__751 rfl ?_
  refine EvT.iload dLw_law__752 rfl ?_
  refine EvT.iconst (v := 1) dLw_law__754 (by decide) ?_
  refine EvT.iadd dLw_law__755 ?_
  have g1 := h.1
  replace h := h.2
  refine EvT.scld hSC dLw_law__756 g1 ?_
  refine EvT.aload_n dLw_law__757 rfl ?_
  refine EvT.iload dLw_law__758 rfl ?_
  refine EvT.iconst (v := 2) dLw_law__760 (by decide) ?_
  refine EvT.iadd dLw_law__761 ?_
  have g2 := h.1
  replace h := h.2
  refine EvT.scld hSC dLw_law__762 g2 ?_
  refine EvT.aload_n dLw_law__763 rfl ?_
  refine EvT.iload dLw_law__764 rfl ?_
  refine EvT.iconst (v := 3) dLw_law__766 (by decide) ?_
  refine EvT.iadd dLw_law__767 ?_
  have g3 := h.1
  replace h := h.2
  refine EvT.scld hSC dLw_law__768 g3 ?_
  have g4 := h.1
  replace h := h.2
  exact EvT.vcV (z := mRe_worth) (ci := 11) [.int (xs (x4 + 1).toNatClampNeg), .int (xs (x4 + 2).toNatClampNeg), .int (xs (x4 + 3).toNatClampNeg)] [] rfl dLw_law__769 oRe_worth rfl w1649 iRe_worth sRe_worth (by decide) rfl g4 (Nat.le_of_ble_eq_true rfl) h
theorem bLw_law__772 {l : Launch} {G : Gx} {d : Nat} {bc bs : Nat} {Φ : OutV → Mm → Prop} {L : Nat} {xs : Nat → Int32} (hSC : SC G L xs) (M : Mm) (a1 : Nat) (a2 : Nat) (a3 : Nat) (x4 : Int32) (x5 : Int32) (u6 : Value) (s0 : Int32)
    (h : ((m_sh M a2).1 = 11) ∧ CallTC l G d mLw_law_ 778 [.ref 98, .ref a1, .ref a2, .ref a3, .int x4, .int x5, .int s0] [] mRe_thrown [.ref a2] M bc bs Φ) :
    EvT [] l G d mLw_law_ 772 [.ref 98, .ref a1, .ref a2, .ref a3, .int x4, .int x5, u6] [.int s0] M bc bs Φ := by
  refine EvT.istore dLw_law__772 (by decide) ?_
  show EvT [] l G d mLw_law_ (_ + _) [.ref 98, .ref a1, .ref a2, .ref a3, .int x4, .int x5, .int s0] [] M bc bs Φ
  refine EvT.aload_n dLw_law__774 rfl ?_
  have g1 := h.1
  replace h := h.2
  exact EvT.vcV (z := mRe_thrown) (ci := 11) [] [] rfl dLw_law__775 oRe_thrown rfl w1464 iRe_thrown sRe_thrown (by decide) rfl g1 (Nat.le_of_ble_eq_true rfl) h
theorem bLw_law__778 {l : Launch} {G : Gx} {d : Nat} {bc bs : Nat} {Φ : OutV → Mm → Prop} {L : Nat} {xs : Nat → Int32} (hSC : SC G L xs) (M : Mm) (a1 : Nat) (a2 : Nat) (a3 : Nat) (x4 : Int32) (x5 : Int32) (x6 : Int32) (s0 : Int32)
    (h : (s0 = x5 → (¬ x5 = 0 → EvT [] l G d mLw_law_ 802 [.ref 98, .ref a1, .ref a2, .ref a3, .int x4, .int x5, .int x6] [] M bc bs Φ) ∧ (x5 = 0 → ((m_sh M a3).1 = 22) ∧ (vp_in 0 (m_sh M a3).2) ∧ ((lg_cmp (m_l M a3 (0 : Int32).toNatClampNeg) x6.toInt64) = 0 → EvT [] l G d mLw_law_ 802 [.ref 98, .ref a1, .ref a2, .ref a3, .int x4, .int x5, .int x6] [] M bc bs Φ) ∧ (¬ (lg_cmp (m_l M a3 (0 : Int32).toNatClampNeg) x6.toInt64) = 0 → Φ (.inl (some (.int 0))) M))) ∧ (¬ s0 = x5 → Φ (.inl (some (.int 0))) M)) :
    EvT [] l G d mLw_law_ 778 [.ref 98, .ref a1, .ref a2, .ref a3, .int x4, .int x5, .int x6] [.int s0] M bc bs Φ := by
  refine EvT.iload dLw_law__778 rfl ?_
  refine EvT.icmp_eq 785 (by decide) dLw_law__780 (fun c => ?_) (fun c => ?_)
  · replace h := h.1 c
    refine EvT.iload dLw_law__785 rfl ?_
    refine EvT.if_ne 802 (by decide) dLw_law__787 (fun c => ?_) (fun c => ?_)
    · replace h := h.1 c
      exact h
    · replace h := h.2 c
      refine EvT.aload_n dLw_law__790 rfl ?_
      refine EvT.iconst (v := 0) dLw_law__791 (by decide) ?_
      have g1 := h.1
      replace h := h.2
      have g2 := h.1
      replace h := h.2
      refine EvT.lald2 dLw_law__792 g1 g2 ?_
      refine EvT.iload dLw_law__793 rfl ?_
      refine EvT.i2l dLw_law__795 ?_
      refine EvT.lcmp dLw_law__796 ?_
      refine EvT.if_eq 802 (by decide) dLw_law__797 (fun c => ?_) (fun c => ?_)
      · replace h := h.1 c
        exact h
      · replace h := h.2 c
        refine EvT.iconst (v := 0) dLw_law__800 (by decide) ?_
        exact EvT.iret dLw_law__801 rfl rfl h
  · replace h := h.2 c
    refine EvT.iconst (v := 0) dLw_law__783 (by decide) ?_
    exact EvT.iret dLw_law__784 rfl rfl h
theorem bLw_law__802 {l : Launch} {G : Gx} {d : Nat} {bc bs : Nat} {Φ : OutV → Mm → Prop} {L : Nat} {xs : Nat → Int32} (hSC : SC G L xs) (M : Mm) (a1 : Nat) (a2 : Nat) (a3 : Nat) (x4 : Int32) (x5 : Int32) (x6 : Int32)
    (h : EvT [] l G d mLw_law_ 1843 [.ref 98, .ref a1, .ref a2, .ref a3, .int x4, .int x5, .int x6] [] M bc bs Φ) :
    EvT [] l G d mLw_law_ 802 [.ref 98, .ref a1, .ref a2, .ref a3, .int x4, .int x5, .int x6] [] M bc bs Φ := by
  refine EvT.goto 1843 dLw_law__802 (by decide) ?_
  exact h
theorem w1063 : Cond.methodLink "BowingRowLaw" 136 ⟨"BowingRowLaw", "day", "(LBowingRow;I[J)I"⟩ ∈ lwg := lwg_of 1063 (by decide +kernel) (by decide +kernel)
theorem bLw_law__805 {l : Launch} {G : Gx} {d : Nat} {bc bs : Nat} {Φ : OutV → Mm → Prop} {L : Nat} {xs : Nat → Int32} (hSC : SC G L xs) (M : Mm) (a1 : Nat) (a2 : Nat) (a3 : Nat) (x4 : Int32) (u5 : Value) (u6 : Value)
    (h : (vp_in (x4 + 1) L) ∧ CallTH l G d mLw_law_ 816 [.ref 98, .ref a1, .ref a2, .ref a3, .int x4, u5, u6] [] mLw_day hLw_day [.ref a1, .int (xs (x4 + 1).toNatClampNeg), .ref a3] M bc bs Φ) :
    EvT [] l G d mLw_law_ 805 [.ref 98, .ref a1, .ref a2, .ref a3, .int x4, u5, u6] [] M bc bs Φ := by
  refine EvT.aload_n dLw_law__805 rfl ?_
  refine EvT.aload_n dLw_law__806 rfl ?_
  refine EvT.iload dLw_law__807 rfl ?_
  refine EvT.iconst (v := 1) dLw_law__809 (by decide) ?_
  refine EvT.iadd dLw_law__810 ?_
  have g1 := h.1
  replace h := h.2
  refine EvT.scld hSC dLw_law__811 g1 ?_
  refine EvT.aload_n dLw_law__812 rfl ?_
  exact EvT.vcH (z := mLw_day) (hh := hLw_day) [.ref a1, .int (xs (x4 + 1).toNatClampNeg), .ref a3] [] rfl dLw_law__813 oLw_day rfl w1063 iLw_day (Nat.le_of_ble_eq_true rfl) h
theorem w1657 : Cond.methodLink "BowingRowLaw" 138 ⟨"BowingRowModel", "day", "(I)I"⟩ ∈ lwg := lwg_of 1657 (by decide +kernel) (by decide +kernel)
theorem bLw_law__816 {l : Launch} {G : Gx} {d : Nat} {bc bs : Nat} {Φ : OutV → Mm → Prop} {L : Nat} {xs : Nat → Int32} (hSC : SC G L xs) (M : Mm) (a1 : Nat) (a2 : Nat) (a3 : Nat) (x4 : Int32) (u5 : Value) (u6 : Value) (s0 : Int32)
    (h : (vp_in (x4 + 1) L) ∧ ((m_sh M a2).1 = 11) ∧ CallTC l G d mLw_law_ 828 [.ref 98, .ref a1, .ref a2, .ref a3, .int x4, .int s0, u6] [] mRe_day [.ref a2, .int (xs (x4 + 1).toNatClampNeg)] M bc bs Φ) :
    EvT [] l G d mLw_law_ 816 [.ref 98, .ref a1, .ref a2, .ref a3, .int x4, u5, u6] [.int s0] M bc bs Φ := by
  refine EvT.istore dLw_law__816 (by decide) ?_
  show EvT [] l G d mLw_law_ (_ + _) [.ref 98, .ref a1, .ref a2, .ref a3, .int x4, .int s0, u6] [] M bc bs Φ
  refine EvT.aload_n dLw_law__818 rfl ?_
  refine EvT.aload_n dLw_law__819 rfl ?_
  refine EvT.iload dLw_law__820 rfl ?_
  refine EvT.iconst (v := 1) dLw_law__822 (by decide) ?_
  refine EvT.iadd dLw_law__823 ?_
  have g1 := h.1
  replace h := h.2
  refine EvT.scld hSC dLw_law__824 g1 ?_
  have g2 := h.1
  replace h := h.2
  exact EvT.vcV (z := mRe_day) (ci := 11) [.int (xs (x4 + 1).toNatClampNeg)] [] rfl dLw_law__825 oRe_day rfl w1657 iRe_day sRe_day (by decide) rfl g2 (Nat.le_of_ble_eq_true rfl) h
theorem bLw_law__828 {l : Launch} {G : Gx} {d : Nat} {bc bs : Nat} {Φ : OutV → Mm → Prop} {L : Nat} {xs : Nat → Int32} (hSC : SC G L xs) (M : Mm) (a1 : Nat) (a2 : Nat) (a3 : Nat) (x4 : Int32) (x5 : Int32) (u6 : Value) (s0 : Int32)
    (h : ((m_sh M a2).1 = 11) ∧ CallTC l G d mLw_law_ 834 [.ref 98, .ref a1, .ref a2, .ref a3, .int x4, .int x5, .int s0] [] mRe_thrown [.ref a2] M bc bs Φ) :
    EvT [] l G d mLw_law_ 828 [.ref 98, .ref a1, .ref a2, .ref a3, .int x4, .int x5, u6] [.int s0] M bc bs Φ := by
  refine EvT.istore dLw_law__828 (by decide) ?_
  show EvT [] l G d mLw_law_ (_ + _) [.ref 98, .ref a1, .ref a2, .ref a3, .int x4, .int x5, .int s0] [] M bc bs Φ
  refine EvT.aload_n dLw_law__830 rfl ?_
  have g1 := h.1
  replace h := h.2
  exact EvT.vcV (z := mRe_thrown) (ci := 11) [] [] rfl dLw_law__831 oRe_thrown rfl w1464 iRe_thrown sRe_thrown (by decide) rfl g1 (Nat.le_of_ble_eq_true rfl) h
theorem bLw_law__834 {l : Launch} {G : Gx} {d : Nat} {bc bs : Nat} {Φ : OutV → Mm → Prop} {L : Nat} {xs : Nat → Int32} (hSC : SC G L xs) (M : Mm) (a1 : Nat) (a2 : Nat) (a3 : Nat) (x4 : Int32) (x5 : Int32) (x6 : Int32) (s0 : Int32)
    (h : (s0 = x5 → (¬ x5 = 0 → EvT [] l G d mLw_law_ 858 [.ref 98, .ref a1, .ref a2, .ref a3, .int x4, .int x5, .int x6] [] M bc bs Φ) ∧ (x5 = 0 → ((m_sh M a3).1 = 22) ∧ (vp_in 0 (m_sh M a3).2) ∧ ((lg_cmp (m_l M a3 (0 : Int32).toNatClampNeg) x6.toInt64) = 0 → EvT [] l G d mLw_law_ 858 [.ref 98, .ref a1, .ref a2, .ref a3, .int x4, .int x5, .int x6] [] M bc bs Φ) ∧ (¬ (lg_cmp (m_l M a3 (0 : Int32).toNatClampNeg) x6.toInt64) = 0 → Φ (.inl (some (.int 0))) M))) ∧ (¬ s0 = x5 → Φ (.inl (some (.int 0))) M)) :
    EvT [] l G d mLw_law_ 834 [.ref 98, .ref a1, .ref a2, .ref a3, .int x4, .int x5, .int x6] [.int s0] M bc bs Φ := by
  refine EvT.iload dLw_law__834 rfl ?_
  refine EvT.icmp_eq 841 (by decide) dLw_law__836 (fun c => ?_) (fun c => ?_)
  · replace h := h.1 c
    refine EvT.iload dLw_law__841 rfl ?_
    refine EvT.if_ne 858 (by decide) dLw_law__843 (fun c => ?_) (fun c => ?_)
    · replace h := h.1 c
      exact h
    · replace h := h.2 c
      refine EvT.aload_n dLw_law__846 rfl ?_
      refine EvT.iconst (v := 0) dLw_law__847 (by decide) ?_
      have g1 := h.1
      replace h := h.2
      have g2 := h.1
      replace h := h.2
      refine EvT.lald2 dLw_law__848 g1 g2 ?_
      refine EvT.iload dLw_law__849 rfl ?_
      refine EvT.i2l dLw_law__851 ?_
      refine EvT.lcmp dLw_law__852 ?_
      refine EvT.if_eq 858 (by decide) dLw_law__853 (fun c => ?_) (fun c => ?_)
      · replace h := h.1 c
        exact h
      · replace h := h.2 c
        refine EvT.iconst (v := 0) dLw_law__856 (by decide) ?_
        exact EvT.iret dLw_law__857 rfl rfl h
  · replace h := h.2 c
    refine EvT.iconst (v := 0) dLw_law__839 (by decide) ?_
    exact EvT.iret dLw_law__840 rfl rfl h
theorem bLw_law__858 {l : Launch} {G : Gx} {d : Nat} {bc bs : Nat} {Φ : OutV → Mm → Prop} {L : Nat} {xs : Nat → Int32} (hSC : SC G L xs) (M : Mm) (a1 : Nat) (a2 : Nat) (a3 : Nat) (x4 : Int32) (x5 : Int32) (x6 : Int32)
    (h : EvT [] l G d mLw_law_ 1843 [.ref 98, .ref a1, .ref a2, .ref a3, .int x4, .int x5, .int x6] [] M bc bs Φ) :
    EvT [] l G d mLw_law_ 858 [.ref 98, .ref a1, .ref a2, .ref a3, .int x4, .int x5, .int x6] [] M bc bs Φ := by
  refine EvT.goto 1843 dLw_law__858 (by decide) ?_
  exact h
theorem w1084 : Cond.methodLink "BowingRowLaw" 139 ⟨"BowingRowLaw", "call", "(LBowingRow;II[J)I"⟩ ∈ lwg := lwg_of 1084 (by decide +kernel) (by decide +kernel)
theorem bLw_law__861 {l : Launch} {G : Gx} {d : Nat} {bc bs : Nat} {Φ : OutV → Mm → Prop} {L : Nat} {xs : Nat → Int32} (hSC : SC G L xs) (M : Mm) (a1 : Nat) (a2 : Nat) (a3 : Nat) (x4 : Int32) (u5 : Value) (u6 : Value)
    (h : (vp_in (x4 + 1) L) ∧ (vp_in (x4 + 2) L) ∧ CallTH l G d mLw_law_ 878 [.ref 98, .ref a1, .ref a2, .ref a3, .int x4, u5, u6] [] mLw_call hLw_call [.ref a1, .int (xs (x4 + 1).toNatClampNeg), .int (xs (x4 + 2).toNatClampNeg), .ref a3] M bc bs Φ) :
    EvT [] l G d mLw_law_ 861 [.ref 98, .ref a1, .ref a2, .ref a3, .int x4, u5, u6] [] M bc bs Φ := by
  refine EvT.aload_n dLw_law__861 rfl ?_
  refine EvT.aload_n dLw_law__862 rfl ?_
  refine EvT.iload dLw_law__863 rfl ?_
  refine EvT.iconst (v := 1) dLw_law__865 (by decide) ?_
  refine EvT.iadd dLw_law__866 ?_
  have g1 := h.1
  replace h := h.2
  refine EvT.scld hSC dLw_law__867 g1 ?_
  refine EvT.aload_n dLw_law__868 rfl ?_
  refine EvT.iload dLw_law__869 rfl ?_
  refine EvT.iconst (v := 2) dLw_law__871 (by decide) ?_
  refine EvT.iadd dLw_law__872 ?_
  have g2 := h.1
  replace h := h.2
  refine EvT.scld hSC dLw_law__873 g2 ?_
  refine EvT.aload_n dLw_law__874 rfl ?_
  exact EvT.vcH (z := mLw_call) (hh := hLw_call) [.ref a1, .int (xs (x4 + 1).toNatClampNeg), .int (xs (x4 + 2).toNatClampNeg), .ref a3] [] rfl dLw_law__875 oLw_call rfl w1084 iLw_call (Nat.le_of_ble_eq_true rfl) h
theorem w1705 : Cond.methodLink "BowingRowLaw" 141 ⟨"BowingRowModel", "call", "(II)I"⟩ ∈ lwg := lwg_of 1705 (by decide +kernel) (by decide +kernel)
theorem bLw_law__878 {l : Launch} {G : Gx} {d : Nat} {bc bs : Nat} {Φ : OutV → Mm → Prop} {L : Nat} {xs : Nat → Int32} (hSC : SC G L xs) (M : Mm) (a1 : Nat) (a2 : Nat) (a3 : Nat) (x4 : Int32) (u5 : Value) (u6 : Value) (s0 : Int32)
    (h : (vp_in (x4 + 1) L) ∧ (vp_in (x4 + 2) L) ∧ ((m_sh M a2).1 = 11) ∧ CallTC l G d mLw_law_ 896 [.ref 98, .ref a1, .ref a2, .ref a3, .int x4, .int s0, u6] [] mRe_call [.ref a2, .int (xs (x4 + 1).toNatClampNeg), .int (xs (x4 + 2).toNatClampNeg)] M bc bs Φ) :
    EvT [] l G d mLw_law_ 878 [.ref 98, .ref a1, .ref a2, .ref a3, .int x4, u5, u6] [.int s0] M bc bs Φ := by
  refine EvT.istore dLw_law__878 (by decide) ?_
  show EvT [] l G d mLw_law_ (_ + _) [.ref 98, .ref a1, .ref a2, .ref a3, .int x4, .int s0, u6] [] M bc bs Φ
  refine EvT.aload_n dLw_law__880 rfl ?_
  refine EvT.aload_n dLw_law__881 rfl ?_
  refine EvT.iload dLw_law__882 rfl ?_
  refine EvT.iconst (v := 1) dLw_law__884 (by decide) ?_
  refine EvT.iadd dLw_law__885 ?_
  have g1 := h.1
  replace h := h.2
  refine EvT.scld hSC dLw_law__886 g1 ?_
  refine EvT.aload_n dLw_law__887 rfl ?_
  refine EvT.iload dLw_law__888 rfl ?_
  refine EvT.iconst (v := 2) dLw_law__890 (by decide) ?_
  refine EvT.iadd dLw_law__891 ?_
  have g2 := h.1
  replace h := h.2
  refine EvT.scld hSC dLw_law__892 g2 ?_
  have g3 := h.1
  replace h := h.2
  exact EvT.vcV (z := mRe_call) (ci := 11) [.int (xs (x4 + 1).toNatClampNeg), .int (xs (x4 + 2).toNatClampNeg)] [] rfl dLw_law__893 oRe_call rfl w1705 iRe_call sRe_call (by decide) rfl g3 (Nat.le_of_ble_eq_true rfl) h
theorem bLw_law__896 {l : Launch} {G : Gx} {d : Nat} {bc bs : Nat} {Φ : OutV → Mm → Prop} {L : Nat} {xs : Nat → Int32} (hSC : SC G L xs) (M : Mm) (a1 : Nat) (a2 : Nat) (a3 : Nat) (x4 : Int32) (x5 : Int32) (u6 : Value) (s0 : Int32)
    (h : ((m_sh M a2).1 = 11) ∧ CallTC l G d mLw_law_ 902 [.ref 98, .ref a1, .ref a2, .ref a3, .int x4, .int x5, .int s0] [] mRe_thrown [.ref a2] M bc bs Φ) :
    EvT [] l G d mLw_law_ 896 [.ref 98, .ref a1, .ref a2, .ref a3, .int x4, .int x5, u6] [.int s0] M bc bs Φ := by
  refine EvT.istore dLw_law__896 (by decide) ?_
  show EvT [] l G d mLw_law_ (_ + _) [.ref 98, .ref a1, .ref a2, .ref a3, .int x4, .int x5, .int s0] [] M bc bs Φ
  refine EvT.aload_n dLw_law__898 rfl ?_
  have g1 := h.1
  replace h := h.2
  exact EvT.vcV (z := mRe_thrown) (ci := 11) [] [] rfl dLw_law__899 oRe_thrown rfl w1464 iRe_thrown sRe_thrown (by decide) rfl g1 (Nat.le_of_ble_eq_true rfl) h
theorem bLw_law__902 {l : Launch} {G : Gx} {d : Nat} {bc bs : Nat} {Φ : OutV → Mm → Prop} {L : Nat} {xs : Nat → Int32} (hSC : SC G L xs) (M : Mm) (a1 : Nat) (a2 : Nat) (a3 : Nat) (x4 : Int32) (x5 : Int32) (x6 : Int32) (s0 : Int32)
    (h : (s0 = x5 → (¬ x5 = 0 → EvT [] l G d mLw_law_ 926 [.ref 98, .ref a1, .ref a2, .ref a3, .int x4, .int x5, .int x6] [] M bc bs Φ) ∧ (x5 = 0 → ((m_sh M a3).1 = 22) ∧ (vp_in 0 (m_sh M a3).2) ∧ ((lg_cmp (m_l M a3 (0 : Int32).toNatClampNeg) x6.toInt64) = 0 → EvT [] l G d mLw_law_ 926 [.ref 98, .ref a1, .ref a2, .ref a3, .int x4, .int x5, .int x6] [] M bc bs Φ) ∧ (¬ (lg_cmp (m_l M a3 (0 : Int32).toNatClampNeg) x6.toInt64) = 0 → Φ (.inl (some (.int 0))) M))) ∧ (¬ s0 = x5 → Φ (.inl (some (.int 0))) M)) :
    EvT [] l G d mLw_law_ 902 [.ref 98, .ref a1, .ref a2, .ref a3, .int x4, .int x5, .int x6] [.int s0] M bc bs Φ := by
  refine EvT.iload dLw_law__902 rfl ?_
  refine EvT.icmp_eq 909 (by decide) dLw_law__904 (fun c => ?_) (fun c => ?_)
  · replace h := h.1 c
    refine EvT.iload dLw_law__909 rfl ?_
    refine EvT.if_ne 926 (by decide) dLw_law__911 (fun c => ?_) (fun c => ?_)
    · replace h := h.1 c
      exact h
    · replace h := h.2 c
      refine EvT.aload_n dLw_law__914 rfl ?_
      refine EvT.iconst (v := 0) dLw_law__915 (by decide) ?_
      have g1 := h.1
      replace h := h.2
      have g2 := h.1
      replace h := h.2
      refine EvT.lald2 dLw_law__916 g1 g2 ?_
      refine EvT.iload dLw_law__917 rfl ?_
      refine EvT.i2l dLw_law__919 ?_
      refine EvT.lcmp dLw_law__920 ?_
      refine EvT.if_eq 926 (by decide) dLw_law__921 (fun c => ?_) (fun c => ?_)
      · replace h := h.1 c
        exact h
      · replace h := h.2 c
        refine EvT.iconst (v := 0) dLw_law__924 (by decide) ?_
        exact EvT.iret dLw_law__925 rfl rfl h
  · replace h := h.2 c
    refine EvT.iconst (v := 0) dLw_law__907 (by decide) ?_
    exact EvT.iret dLw_law__908 rfl rfl h
theorem bLw_law__926 {l : Launch} {G : Gx} {d : Nat} {bc bs : Nat} {Φ : OutV → Mm → Prop} {L : Nat} {xs : Nat → Int32} (hSC : SC G L xs) (M : Mm) (a1 : Nat) (a2 : Nat) (a3 : Nat) (x4 : Int32) (x5 : Int32) (x6 : Int32)
    (h : EvT [] l G d mLw_law_ 1843 [.ref 98, .ref a1, .ref a2, .ref a3, .int x4, .int x5, .int x6] [] M bc bs Φ) :
    EvT [] l G d mLw_law_ 926 [.ref 98, .ref a1, .ref a2, .ref a3, .int x4, .int x5, .int x6] [] M bc bs Φ := by
  refine EvT.goto 1843 dLw_law__926 (by decide) ?_
  exact h
theorem w1111 : Cond.methodLink "BowingRowLaw" 142 ⟨"BowingRowLaw", "holder", "(LBowingRow;II[J)I"⟩ ∈ lwg := lwg_of 1111 (by decide +kernel) (by decide +kernel)
theorem bLw_law__929 {l : Launch} {G : Gx} {d : Nat} {bc bs : Nat} {Φ : OutV → Mm → Prop} {L : Nat} {xs : Nat → Int32} (hSC : SC G L xs) (M : Mm) (a1 : Nat) (a2 : Nat) (a3 : Nat) (x4 : Int32) (u5 : Value) (u6 : Value)
    (h : (vp_in (x4 + 1) L) ∧ (vp_in (x4 + 2) L) ∧ CallTH l G d mLw_law_ 946 [.ref 98, .ref a1, .ref a2, .ref a3, .int x4, u5, u6] [] mLw_holder hLw_holder [.ref a1, .int (xs (x4 + 1).toNatClampNeg), .int (xs (x4 + 2).toNatClampNeg), .ref a3] M bc bs Φ) :
    EvT [] l G d mLw_law_ 929 [.ref 98, .ref a1, .ref a2, .ref a3, .int x4, u5, u6] [] M bc bs Φ := by
  refine EvT.aload_n dLw_law__929 rfl ?_
  refine EvT.aload_n dLw_law__930 rfl ?_
  refine EvT.iload dLw_law__931 rfl ?_
  refine EvT.iconst (v := 1) dLw_law__933 (by decide) ?_
  refine EvT.iadd dLw_law__934 ?_
  have g1 := h.1
  replace h := h.2
  refine EvT.scld hSC dLw_law__935 g1 ?_
  refine EvT.aload_n dLw_law__936 rfl ?_
  refine EvT.iload dLw_law__937 rfl ?_
  refine EvT.iconst (v := 2) dLw_law__939 (by decide) ?_
  refine EvT.iadd dLw_law__940 ?_
  have g2 := h.1
  replace h := h.2
  refine EvT.scld hSC dLw_law__941 g2 ?_
  refine EvT.aload_n dLw_law__942 rfl ?_
  exact EvT.vcH (z := mLw_holder) (hh := hLw_holder) [.ref a1, .int (xs (x4 + 1).toNatClampNeg), .int (xs (x4 + 2).toNatClampNeg), .ref a3] [] rfl dLw_law__943 oLw_holder rfl w1111 iLw_holder (Nat.le_of_ble_eq_true rfl) h
theorem w1709 : Cond.methodLink "BowingRowLaw" 144 ⟨"BowingRowModel", "holder", "(II)I"⟩ ∈ lwg := lwg_of 1709 (by decide +kernel) (by decide +kernel)
theorem bLw_law__946 {l : Launch} {G : Gx} {d : Nat} {bc bs : Nat} {Φ : OutV → Mm → Prop} {L : Nat} {xs : Nat → Int32} (hSC : SC G L xs) (M : Mm) (a1 : Nat) (a2 : Nat) (a3 : Nat) (x4 : Int32) (u5 : Value) (u6 : Value) (s0 : Int32)
    (h : (vp_in (x4 + 1) L) ∧ (vp_in (x4 + 2) L) ∧ ((m_sh M a2).1 = 11) ∧ CallTC l G d mLw_law_ 964 [.ref 98, .ref a1, .ref a2, .ref a3, .int x4, .int s0, u6] [] mRe_holder [.ref a2, .int (xs (x4 + 1).toNatClampNeg), .int (xs (x4 + 2).toNatClampNeg)] M bc bs Φ) :
    EvT [] l G d mLw_law_ 946 [.ref 98, .ref a1, .ref a2, .ref a3, .int x4, u5, u6] [.int s0] M bc bs Φ := by
  refine EvT.istore dLw_law__946 (by decide) ?_
  show EvT [] l G d mLw_law_ (_ + _) [.ref 98, .ref a1, .ref a2, .ref a3, .int x4, .int s0, u6] [] M bc bs Φ
  refine EvT.aload_n dLw_law__948 rfl ?_
  refine EvT.aload_n dLw_law__949 rfl ?_
  refine EvT.iload dLw_law__950 rfl ?_
  refine EvT.iconst (v := 1) dLw_law__952 (by decide) ?_
  refine EvT.iadd dLw_law__953 ?_
  have g1 := h.1
  replace h := h.2
  refine EvT.scld hSC dLw_law__954 g1 ?_
  refine EvT.aload_n dLw_law__955 rfl ?_
  refine EvT.iload dLw_law__956 rfl ?_
  refine EvT.iconst (v := 2) dLw_law__958 (by decide) ?_
  refine EvT.iadd dLw_law__959 ?_
  have g2 := h.1
  replace h := h.2
  refine EvT.scld hSC dLw_law__960 g2 ?_
  have g3 := h.1
  replace h := h.2
  exact EvT.vcV (z := mRe_holder) (ci := 11) [.int (xs (x4 + 1).toNatClampNeg), .int (xs (x4 + 2).toNatClampNeg)] [] rfl dLw_law__961 oRe_holder rfl w1709 iRe_holder sRe_holder (by decide) rfl g3 (Nat.le_of_ble_eq_true rfl) h
theorem bLw_law__964 {l : Launch} {G : Gx} {d : Nat} {bc bs : Nat} {Φ : OutV → Mm → Prop} {L : Nat} {xs : Nat → Int32} (hSC : SC G L xs) (M : Mm) (a1 : Nat) (a2 : Nat) (a3 : Nat) (x4 : Int32) (x5 : Int32) (u6 : Value) (s0 : Int32)
    (h : ((m_sh M a2).1 = 11) ∧ CallTC l G d mLw_law_ 970 [.ref 98, .ref a1, .ref a2, .ref a3, .int x4, .int x5, .int s0] [] mRe_thrown [.ref a2] M bc bs Φ) :
    EvT [] l G d mLw_law_ 964 [.ref 98, .ref a1, .ref a2, .ref a3, .int x4, .int x5, u6] [.int s0] M bc bs Φ := by
  refine EvT.istore dLw_law__964 (by decide) ?_
  show EvT [] l G d mLw_law_ (_ + _) [.ref 98, .ref a1, .ref a2, .ref a3, .int x4, .int x5, .int s0] [] M bc bs Φ
  refine EvT.aload_n dLw_law__966 rfl ?_
  have g1 := h.1
  replace h := h.2
  exact EvT.vcV (z := mRe_thrown) (ci := 11) [] [] rfl dLw_law__967 oRe_thrown rfl w1464 iRe_thrown sRe_thrown (by decide) rfl g1 (Nat.le_of_ble_eq_true rfl) h
theorem bLw_law__970 {l : Launch} {G : Gx} {d : Nat} {bc bs : Nat} {Φ : OutV → Mm → Prop} {L : Nat} {xs : Nat → Int32} (hSC : SC G L xs) (M : Mm) (a1 : Nat) (a2 : Nat) (a3 : Nat) (x4 : Int32) (x5 : Int32) (x6 : Int32) (s0 : Int32)
    (h : (s0 = x5 → (¬ x5 = 0 → EvT [] l G d mLw_law_ 994 [.ref 98, .ref a1, .ref a2, .ref a3, .int x4, .int x5, .int x6] [] M bc bs Φ) ∧ (x5 = 0 → ((m_sh M a3).1 = 22) ∧ (vp_in 0 (m_sh M a3).2) ∧ ((lg_cmp (m_l M a3 (0 : Int32).toNatClampNeg) x6.toInt64) = 0 → EvT [] l G d mLw_law_ 994 [.ref 98, .ref a1, .ref a2, .ref a3, .int x4, .int x5, .int x6] [] M bc bs Φ) ∧ (¬ (lg_cmp (m_l M a3 (0 : Int32).toNatClampNeg) x6.toInt64) = 0 → Φ (.inl (some (.int 0))) M))) ∧ (¬ s0 = x5 → Φ (.inl (some (.int 0))) M)) :
    EvT [] l G d mLw_law_ 970 [.ref 98, .ref a1, .ref a2, .ref a3, .int x4, .int x5, .int x6] [.int s0] M bc bs Φ := by
  refine EvT.iload dLw_law__970 rfl ?_
  refine EvT.icmp_eq 977 (by decide) dLw_law__972 (fun c => ?_) (fun c => ?_)
  · replace h := h.1 c
    refine EvT.iload dLw_law__977 rfl ?_
    refine EvT.if_ne 994 (by decide) dLw_law__979 (fun c => ?_) (fun c => ?_)
    · replace h := h.1 c
      exact h
    · replace h := h.2 c
      refine EvT.aload_n dLw_law__982 rfl ?_
      refine EvT.iconst (v := 0) dLw_law__983 (by decide) ?_
      have g1 := h.1
      replace h := h.2
      have g2 := h.1
      replace h := h.2
      refine EvT.lald2 dLw_law__984 g1 g2 ?_
      refine EvT.iload dLw_law__985 rfl ?_
      refine EvT.i2l dLw_law__987 ?_
      refine EvT.lcmp dLw_law__988 ?_
      refine EvT.if_eq 994 (by decide) dLw_law__989 (fun c => ?_) (fun c => ?_)
      · replace h := h.1 c
        exact h
      · replace h := h.2 c
        refine EvT.iconst (v := 0) dLw_law__992 (by decide) ?_
        exact EvT.iret dLw_law__993 rfl rfl h
  · replace h := h.2 c
    refine EvT.iconst (v := 0) dLw_law__975 (by decide) ?_
    exact EvT.iret dLw_law__976 rfl rfl h
theorem bLw_law__994 {l : Launch} {G : Gx} {d : Nat} {bc bs : Nat} {Φ : OutV → Mm → Prop} {L : Nat} {xs : Nat → Int32} (hSC : SC G L xs) (M : Mm) (a1 : Nat) (a2 : Nat) (a3 : Nat) (x4 : Int32) (x5 : Int32) (x6 : Int32)
    (h : EvT [] l G d mLw_law_ 1843 [.ref 98, .ref a1, .ref a2, .ref a3, .int x4, .int x5, .int x6] [] M bc bs Φ) :
    EvT [] l G d mLw_law_ 994 [.ref 98, .ref a1, .ref a2, .ref a3, .int x4, .int x5, .int x6] [] M bc bs Φ := by
  refine EvT.goto 1843 dLw_law__994 (by decide) ?_
  exact h
theorem w1118 : Cond.methodLink "BowingRowLaw" 145 ⟨"BowingRowLaw", "ends", "(LBowingRow;I[J)I"⟩ ∈ lwg := lwg_of 1118 (by decide +kernel) (by decide +kernel)
theorem bLw_law__997 {l : Launch} {G : Gx} {d : Nat} {bc bs : Nat} {Φ : OutV → Mm → Prop} {L : Nat} {xs : Nat → Int32} (hSC : SC G L xs) (M : Mm) (a1 : Nat) (a2 : Nat) (a3 : Nat) (x4 : Int32) (u5 : Value) (u6 : Value)
    (h : (vp_in (x4 + 1) L) ∧ CallTH l G d mLw_law_ 1008 [.ref 98, .ref a1, .ref a2, .ref a3, .int x4, u5, u6] [] mLw_ends hLw_ends [.ref a1, .int (xs (x4 + 1).toNatClampNeg), .ref a3] M bc bs Φ) :
    EvT [] l G d mLw_law_ 997 [.ref 98, .ref a1, .ref a2, .ref a3, .int x4, u5, u6] [] M bc bs Φ := by
  refine EvT.aload_n dLw_law__997 rfl ?_
  refine EvT.aload_n dLw_law__998 rfl ?_
  refine EvT.iload dLw_law__999 rfl ?_
  refine EvT.iconst (v := 1) dLw_law__1001 (by decide) ?_
  refine EvT.iadd dLw_law__1002 ?_
  have g1 := h.1
  replace h := h.2
  refine EvT.scld hSC dLw_law__1003 g1 ?_
  refine EvT.aload_n dLw_law__1004 rfl ?_
  exact EvT.vcH (z := mLw_ends) (hh := hLw_ends) [.ref a1, .int (xs (x4 + 1).toNatClampNeg), .ref a3] [] rfl dLw_law__1005 oLw_ends rfl w1118 iLw_ends (Nat.le_of_ble_eq_true rfl) h
theorem w1713 : Cond.methodLink "BowingRowLaw" 147 ⟨"BowingRowModel", "ends", "(I)I"⟩ ∈ lwg := lwg_of 1713 (by decide +kernel) (by decide +kernel)
theorem bLw_law__1008 {l : Launch} {G : Gx} {d : Nat} {bc bs : Nat} {Φ : OutV → Mm → Prop} {L : Nat} {xs : Nat → Int32} (hSC : SC G L xs) (M : Mm) (a1 : Nat) (a2 : Nat) (a3 : Nat) (x4 : Int32) (u5 : Value) (u6 : Value) (s0 : Int32)
    (h : (vp_in (x4 + 1) L) ∧ ((m_sh M a2).1 = 11) ∧ CallTC l G d mLw_law_ 1020 [.ref 98, .ref a1, .ref a2, .ref a3, .int x4, .int s0, u6] [] mRe_ends [.ref a2, .int (xs (x4 + 1).toNatClampNeg)] M bc bs Φ) :
    EvT [] l G d mLw_law_ 1008 [.ref 98, .ref a1, .ref a2, .ref a3, .int x4, u5, u6] [.int s0] M bc bs Φ := by
  refine EvT.istore dLw_law__1008 (by decide) ?_
  show EvT [] l G d mLw_law_ (_ + _) [.ref 98, .ref a1, .ref a2, .ref a3, .int x4, .int s0, u6] [] M bc bs Φ
  refine EvT.aload_n dLw_law__1010 rfl ?_
  refine EvT.aload_n dLw_law__1011 rfl ?_
  refine EvT.iload dLw_law__1012 rfl ?_
  refine EvT.iconst (v := 1) dLw_law__1014 (by decide) ?_
  refine EvT.iadd dLw_law__1015 ?_
  have g1 := h.1
  replace h := h.2
  refine EvT.scld hSC dLw_law__1016 g1 ?_
  have g2 := h.1
  replace h := h.2
  exact EvT.vcV (z := mRe_ends) (ci := 11) [.int (xs (x4 + 1).toNatClampNeg)] [] rfl dLw_law__1017 oRe_ends rfl w1713 iRe_ends sRe_ends (by decide) rfl g2 (Nat.le_of_ble_eq_true rfl) h
theorem bLw_law__1020 {l : Launch} {G : Gx} {d : Nat} {bc bs : Nat} {Φ : OutV → Mm → Prop} {L : Nat} {xs : Nat → Int32} (hSC : SC G L xs) (M : Mm) (a1 : Nat) (a2 : Nat) (a3 : Nat) (x4 : Int32) (x5 : Int32) (u6 : Value) (s0 : Int32)
    (h : ((m_sh M a2).1 = 11) ∧ CallTC l G d mLw_law_ 1026 [.ref 98, .ref a1, .ref a2, .ref a3, .int x4, .int x5, .int s0] [] mRe_thrown [.ref a2] M bc bs Φ) :
    EvT [] l G d mLw_law_ 1020 [.ref 98, .ref a1, .ref a2, .ref a3, .int x4, .int x5, u6] [.int s0] M bc bs Φ := by
  refine EvT.istore dLw_law__1020 (by decide) ?_
  show EvT [] l G d mLw_law_ (_ + _) [.ref 98, .ref a1, .ref a2, .ref a3, .int x4, .int x5, .int s0] [] M bc bs Φ
  refine EvT.aload_n dLw_law__1022 rfl ?_
  have g1 := h.1
  replace h := h.2
  exact EvT.vcV (z := mRe_thrown) (ci := 11) [] [] rfl dLw_law__1023 oRe_thrown rfl w1464 iRe_thrown sRe_thrown (by decide) rfl g1 (Nat.le_of_ble_eq_true rfl) h
theorem bLw_law__1026 {l : Launch} {G : Gx} {d : Nat} {bc bs : Nat} {Φ : OutV → Mm → Prop} {L : Nat} {xs : Nat → Int32} (hSC : SC G L xs) (M : Mm) (a1 : Nat) (a2 : Nat) (a3 : Nat) (x4 : Int32) (x5 : Int32) (x6 : Int32) (s0 : Int32)
    (h : (s0 = x5 → (¬ x5 = 0 → EvT [] l G d mLw_law_ 1050 [.ref 98, .ref a1, .ref a2, .ref a3, .int x4, .int x5, .int x6] [] M bc bs Φ) ∧ (x5 = 0 → ((m_sh M a3).1 = 22) ∧ (vp_in 0 (m_sh M a3).2) ∧ ((lg_cmp (m_l M a3 (0 : Int32).toNatClampNeg) x6.toInt64) = 0 → EvT [] l G d mLw_law_ 1050 [.ref 98, .ref a1, .ref a2, .ref a3, .int x4, .int x5, .int x6] [] M bc bs Φ) ∧ (¬ (lg_cmp (m_l M a3 (0 : Int32).toNatClampNeg) x6.toInt64) = 0 → Φ (.inl (some (.int 0))) M))) ∧ (¬ s0 = x5 → Φ (.inl (some (.int 0))) M)) :
    EvT [] l G d mLw_law_ 1026 [.ref 98, .ref a1, .ref a2, .ref a3, .int x4, .int x5, .int x6] [.int s0] M bc bs Φ := by
  refine EvT.iload dLw_law__1026 rfl ?_
  refine EvT.icmp_eq 1033 (by decide) dLw_law__1028 (fun c => ?_) (fun c => ?_)
  · replace h := h.1 c
    refine EvT.iload dLw_law__1033 rfl ?_
    refine EvT.if_ne 1050 (by decide) dLw_law__1035 (fun c => ?_) (fun c => ?_)
    · replace h := h.1 c
      exact h
    · replace h := h.2 c
      refine EvT.aload_n dLw_law__1038 rfl ?_
      refine EvT.iconst (v := 0) dLw_law__1039 (by decide) ?_
      have g1 := h.1
      replace h := h.2
      have g2 := h.1
      replace h := h.2
      refine EvT.lald2 dLw_law__1040 g1 g2 ?_
      refine EvT.iload dLw_law__1041 rfl ?_
      refine EvT.i2l dLw_law__1043 ?_
      refine EvT.lcmp dLw_law__1044 ?_
      refine EvT.if_eq 1050 (by decide) dLw_law__1045 (fun c => ?_) (fun c => ?_)
      · replace h := h.1 c
        exact h
      · replace h := h.2 c
        refine EvT.iconst (v := 0) dLw_law__1048 (by decide) ?_
        exact EvT.iret dLw_law__1049 rfl rfl h
  · replace h := h.2 c
    refine EvT.iconst (v := 0) dLw_law__1031 (by decide) ?_
    exact EvT.iret dLw_law__1032 rfl rfl h
theorem bLw_law__1050 {l : Launch} {G : Gx} {d : Nat} {bc bs : Nat} {Φ : OutV → Mm → Prop} {L : Nat} {xs : Nat → Int32} (hSC : SC G L xs) (M : Mm) (a1 : Nat) (a2 : Nat) (a3 : Nat) (x4 : Int32) (x5 : Int32) (x6 : Int32)
    (h : EvT [] l G d mLw_law_ 1843 [.ref 98, .ref a1, .ref a2, .ref a3, .int x4, .int x5, .int x6] [] M bc bs Φ) :
    EvT [] l G d mLw_law_ 1050 [.ref 98, .ref a1, .ref a2, .ref a3, .int x4, .int x5, .int x6] [] M bc bs Φ := by
  refine EvT.goto 1843 dLw_law__1050 (by decide) ?_
  exact h
theorem w1125 : Cond.methodLink "BowingRowLaw" 148 ⟨"BowingRowLaw", "balance", "(LBowingRow;I[J)I"⟩ ∈ lwg := lwg_of 1125 (by decide +kernel) (by decide +kernel)
theorem bLw_law__1053 {l : Launch} {G : Gx} {d : Nat} {bc bs : Nat} {Φ : OutV → Mm → Prop} {L : Nat} {xs : Nat → Int32} (hSC : SC G L xs) (M : Mm) (a1 : Nat) (a2 : Nat) (a3 : Nat) (x4 : Int32) (u5 : Value) (u6 : Value)
    (h : (vp_in (x4 + 1) L) ∧ CallTH l G d mLw_law_ 1064 [.ref 98, .ref a1, .ref a2, .ref a3, .int x4, u5, u6] [] mLw_balance hLw_balance [.ref a1, .int (xs (x4 + 1).toNatClampNeg), .ref a3] M bc bs Φ) :
    EvT [] l G d mLw_law_ 1053 [.ref 98, .ref a1, .ref a2, .ref a3, .int x4, u5, u6] [] M bc bs Φ := by
  refine EvT.aload_n dLw_law__1053 rfl ?_
  refine EvT.aload_n dLw_law__1054 rfl ?_
  refine EvT.iload dLw_law__1055 rfl ?_
  refine EvT.iconst (v := 1) dLw_law__1057 (by decide) ?_
  refine EvT.iadd dLw_law__1058 ?_
  have g1 := h.1
  replace h := h.2
  refine EvT.scld hSC dLw_law__1059 g1 ?_
  refine EvT.aload_n dLw_law__1060 rfl ?_
  exact EvT.vcH (z := mLw_balance) (hh := hLw_balance) [.ref a1, .int (xs (x4 + 1).toNatClampNeg), .ref a3] [] rfl dLw_law__1061 oLw_balance rfl w1125 iLw_balance (Nat.le_of_ble_eq_true rfl) h
theorem w1717 : Cond.methodLink "BowingRowLaw" 150 ⟨"BowingRowModel", "balance", "(I)I"⟩ ∈ lwg := lwg_of 1717 (by decide +kernel) (by decide +kernel)
theorem bLw_law__1064 {l : Launch} {G : Gx} {d : Nat} {bc bs : Nat} {Φ : OutV → Mm → Prop} {L : Nat} {xs : Nat → Int32} (hSC : SC G L xs) (M : Mm) (a1 : Nat) (a2 : Nat) (a3 : Nat) (x4 : Int32) (u5 : Value) (u6 : Value) (s0 : Int32)
    (h : (vp_in (x4 + 1) L) ∧ ((m_sh M a2).1 = 11) ∧ CallTC l G d mLw_law_ 1076 [.ref 98, .ref a1, .ref a2, .ref a3, .int x4, .int s0, u6] [] mRe_balance [.ref a2, .int (xs (x4 + 1).toNatClampNeg)] M bc bs Φ) :
    EvT [] l G d mLw_law_ 1064 [.ref 98, .ref a1, .ref a2, .ref a3, .int x4, u5, u6] [.int s0] M bc bs Φ := by
  refine EvT.istore dLw_law__1064 (by decide) ?_
  show EvT [] l G d mLw_law_ (_ + _) [.ref 98, .ref a1, .ref a2, .ref a3, .int x4, .int s0, u6] [] M bc bs Φ
  refine EvT.aload_n dLw_law__1066 rfl ?_
  refine EvT.aload_n dLw_law__1067 rfl ?_
  refine EvT.iload dLw_law__1068 rfl ?_
  refine EvT.iconst (v := 1) dLw_law__1070 (by decide) ?_
  refine EvT.iadd dLw_law__1071 ?_
  have g1 := h.1
  replace h := h.2
  refine EvT.scld hSC dLw_law__1072 g1 ?_
  have g2 := h.1
  replace h := h.2
  exact EvT.vcV (z := mRe_balance) (ci := 11) [.int (xs (x4 + 1).toNatClampNeg)] [] rfl dLw_law__1073 oRe_balance rfl w1717 iRe_balance sRe_balance (by decide) rfl g2 (Nat.le_of_ble_eq_true rfl) h
theorem bLw_law__1076 {l : Launch} {G : Gx} {d : Nat} {bc bs : Nat} {Φ : OutV → Mm → Prop} {L : Nat} {xs : Nat → Int32} (hSC : SC G L xs) (M : Mm) (a1 : Nat) (a2 : Nat) (a3 : Nat) (x4 : Int32) (x5 : Int32) (u6 : Value) (s0 : Int32)
    (h : ((m_sh M a2).1 = 11) ∧ CallTC l G d mLw_law_ 1082 [.ref 98, .ref a1, .ref a2, .ref a3, .int x4, .int x5, .int s0] [] mRe_thrown [.ref a2] M bc bs Φ) :
    EvT [] l G d mLw_law_ 1076 [.ref 98, .ref a1, .ref a2, .ref a3, .int x4, .int x5, u6] [.int s0] M bc bs Φ := by
  refine EvT.istore dLw_law__1076 (by decide) ?_
  show EvT [] l G d mLw_law_ (_ + _) [.ref 98, .ref a1, .ref a2, .ref a3, .int x4, .int x5, .int s0] [] M bc bs Φ
  refine EvT.aload_n dLw_law__1078 rfl ?_
  have g1 := h.1
  replace h := h.2
  exact EvT.vcV (z := mRe_thrown) (ci := 11) [] [] rfl dLw_law__1079 oRe_thrown rfl w1464 iRe_thrown sRe_thrown (by decide) rfl g1 (Nat.le_of_ble_eq_true rfl) h
theorem bLw_law__1082 {l : Launch} {G : Gx} {d : Nat} {bc bs : Nat} {Φ : OutV → Mm → Prop} {L : Nat} {xs : Nat → Int32} (hSC : SC G L xs) (M : Mm) (a1 : Nat) (a2 : Nat) (a3 : Nat) (x4 : Int32) (x5 : Int32) (x6 : Int32) (s0 : Int32)
    (h : (s0 = x5 → (¬ x5 = 0 → EvT [] l G d mLw_law_ 1106 [.ref 98, .ref a1, .ref a2, .ref a3, .int x4, .int x5, .int x6] [] M bc bs Φ) ∧ (x5 = 0 → ((m_sh M a3).1 = 22) ∧ (vp_in 0 (m_sh M a3).2) ∧ ((lg_cmp (m_l M a3 (0 : Int32).toNatClampNeg) x6.toInt64) = 0 → EvT [] l G d mLw_law_ 1106 [.ref 98, .ref a1, .ref a2, .ref a3, .int x4, .int x5, .int x6] [] M bc bs Φ) ∧ (¬ (lg_cmp (m_l M a3 (0 : Int32).toNatClampNeg) x6.toInt64) = 0 → Φ (.inl (some (.int 0))) M))) ∧ (¬ s0 = x5 → Φ (.inl (some (.int 0))) M)) :
    EvT [] l G d mLw_law_ 1082 [.ref 98, .ref a1, .ref a2, .ref a3, .int x4, .int x5, .int x6] [.int s0] M bc bs Φ := by
  refine EvT.iload dLw_law__1082 rfl ?_
  refine EvT.icmp_eq 1089 (by decide) dLw_law__1084 (fun c => ?_) (fun c => ?_)
  · replace h := h.1 c
    refine EvT.iload dLw_law__1089 rfl ?_
    refine EvT.if_ne 1106 (by decide) dLw_law__1091 (fun c => ?_) (fun c => ?_)
    · replace h := h.1 c
      exact h
    · replace h := h.2 c
      refine EvT.aload_n dLw_law__1094 rfl ?_
      refine EvT.iconst (v := 0) dLw_law__1095 (by decide) ?_
      have g1 := h.1
      replace h := h.2
      have g2 := h.1
      replace h := h.2
      refine EvT.lald2 dLw_law__1096 g1 g2 ?_
      refine EvT.iload dLw_law__1097 rfl ?_
      refine EvT.i2l dLw_law__1099 ?_
      refine EvT.lcmp dLw_law__1100 ?_
      refine EvT.if_eq 1106 (by decide) dLw_law__1101 (fun c => ?_) (fun c => ?_)
      · replace h := h.1 c
        exact h
      · replace h := h.2 c
        refine EvT.iconst (v := 0) dLw_law__1104 (by decide) ?_
        exact EvT.iret dLw_law__1105 rfl rfl h
  · replace h := h.2 c
    refine EvT.iconst (v := 0) dLw_law__1087 (by decide) ?_
    exact EvT.iret dLw_law__1088 rfl rfl h
theorem bLw_law__1106 {l : Launch} {G : Gx} {d : Nat} {bc bs : Nat} {Φ : OutV → Mm → Prop} {L : Nat} {xs : Nat → Int32} (hSC : SC G L xs) (M : Mm) (a1 : Nat) (a2 : Nat) (a3 : Nat) (x4 : Int32) (x5 : Int32) (x6 : Int32)
    (h : EvT [] l G d mLw_law_ 1843 [.ref 98, .ref a1, .ref a2, .ref a3, .int x4, .int x5, .int x6] [] M bc bs Φ) :
    EvT [] l G d mLw_law_ 1106 [.ref 98, .ref a1, .ref a2, .ref a3, .int x4, .int x5, .int x6] [] M bc bs Φ := by
  refine EvT.goto 1843 dLw_law__1106 (by decide) ?_
  exact h
theorem w1132 : Cond.methodLink "BowingRowLaw" 151 ⟨"BowingRowLaw", "book", "(LBowingRow;II[J)I"⟩ ∈ lwg := lwg_of 1132 (by decide +kernel) (by decide +kernel)
theorem bLw_law__1109 {l : Launch} {G : Gx} {d : Nat} {bc bs : Nat} {Φ : OutV → Mm → Prop} {L : Nat} {xs : Nat → Int32} (hSC : SC G L xs) (M : Mm) (a1 : Nat) (a2 : Nat) (a3 : Nat) (x4 : Int32) (u5 : Value) (u6 : Value)
    (h : (vp_in (x4 + 1) L) ∧ (vp_in (x4 + 2) L) ∧ CallTH l G d mLw_law_ 1126 [.ref 98, .ref a1, .ref a2, .ref a3, .int x4, u5, u6] [] mLw_book hLw_book [.ref a1, .int (xs (x4 + 1).toNatClampNeg), .int (xs (x4 + 2).toNatClampNeg), .ref a3] M bc bs Φ) :
    EvT [] l G d mLw_law_ 1109 [.ref 98, .ref a1, .ref a2, .ref a3, .int x4, u5, u6] [] M bc bs Φ := by
  refine EvT.aload_n dLw_law__1109 rfl ?_
  refine EvT.aload_n dLw_law__1110 rfl ?_
  refine EvT.iload dLw_law__1111 rfl ?_
  refine EvT.iconst (v := 1) dLw_law__1113 (by decide) ?_
  refine EvT.iadd dLw_law__1114 ?_
  have g1 := h.1
  replace h := h.2
  refine EvT.scld hSC dLw_law__1115 g1 ?_
  refine EvT.aload_n dLw_law__1116 rfl ?_
  refine EvT.iload dLw_law__1117 rfl ?_
  refine EvT.iconst (v := 2) dLw_law__1119 (by decide) ?_
  refine EvT.iadd dLw_law__1120 ?_
  have g2 := h.1
  replace h := h.2
  refine EvT.scld hSC dLw_law__1121 g2 ?_
  refine EvT.aload_n dLw_law__1122 rfl ?_
  exact EvT.vcH (z := mLw_book) (hh := hLw_book) [.ref a1, .int (xs (x4 + 1).toNatClampNeg), .int (xs (x4 + 2).toNatClampNeg), .ref a3] [] rfl dLw_law__1123 oLw_book rfl w1132 iLw_book (Nat.le_of_ble_eq_true rfl) h
theorem w1721 : Cond.methodLink "BowingRowLaw" 153 ⟨"BowingRowModel", "book", "(II)I"⟩ ∈ lwg := lwg_of 1721 (by decide +kernel) (by decide +kernel)
theorem bLw_law__1126 {l : Launch} {G : Gx} {d : Nat} {bc bs : Nat} {Φ : OutV → Mm → Prop} {L : Nat} {xs : Nat → Int32} (hSC : SC G L xs) (M : Mm) (a1 : Nat) (a2 : Nat) (a3 : Nat) (x4 : Int32) (u5 : Value) (u6 : Value) (s0 : Int32)
    (h : (vp_in (x4 + 1) L) ∧ (vp_in (x4 + 2) L) ∧ ((m_sh M a2).1 = 11) ∧ CallTC l G d mLw_law_ 1144 [.ref 98, .ref a1, .ref a2, .ref a3, .int x4, .int s0, u6] [] mRe_book [.ref a2, .int (xs (x4 + 1).toNatClampNeg), .int (xs (x4 + 2).toNatClampNeg)] M bc bs Φ) :
    EvT [] l G d mLw_law_ 1126 [.ref 98, .ref a1, .ref a2, .ref a3, .int x4, u5, u6] [.int s0] M bc bs Φ := by
  refine EvT.istore dLw_law__1126 (by decide) ?_
  show EvT [] l G d mLw_law_ (_ + _) [.ref 98, .ref a1, .ref a2, .ref a3, .int x4, .int s0, u6] [] M bc bs Φ
  refine EvT.aload_n dLw_law__1128 rfl ?_
  refine EvT.aload_n dLw_law__1129 rfl ?_
  refine EvT.iload dLw_law__1130 rfl ?_
  refine EvT.iconst (v := 1) dLw_law__1132 (by decide) ?_
  refine EvT.iadd dLw_law__1133 ?_
  have g1 := h.1
  replace h := h.2
  refine EvT.scld hSC dLw_law__1134 g1 ?_
  refine EvT.aload_n dLw_law__1135 rfl ?_
  refine EvT.iload dLw_law__1136 rfl ?_
  refine EvT.iconst (v := 2) dLw_law__1138 (by decide) ?_
  refine EvT.iadd dLw_law__1139 ?_
  have g2 := h.1
  replace h := h.2
  refine EvT.scld hSC dLw_law__1140 g2 ?_
  have g3 := h.1
  replace h := h.2
  exact EvT.vcV (z := mRe_book) (ci := 11) [.int (xs (x4 + 1).toNatClampNeg), .int (xs (x4 + 2).toNatClampNeg)] [] rfl dLw_law__1141 oRe_book rfl w1721 iRe_book sRe_book (by decide) rfl g3 (Nat.le_of_ble_eq_true rfl) h
theorem bLw_law__1144 {l : Launch} {G : Gx} {d : Nat} {bc bs : Nat} {Φ : OutV → Mm → Prop} {L : Nat} {xs : Nat → Int32} (hSC : SC G L xs) (M : Mm) (a1 : Nat) (a2 : Nat) (a3 : Nat) (x4 : Int32) (x5 : Int32) (u6 : Value) (s0 : Int32)
    (h : ((m_sh M a2).1 = 11) ∧ CallTC l G d mLw_law_ 1150 [.ref 98, .ref a1, .ref a2, .ref a3, .int x4, .int x5, .int s0] [] mRe_thrown [.ref a2] M bc bs Φ) :
    EvT [] l G d mLw_law_ 1144 [.ref 98, .ref a1, .ref a2, .ref a3, .int x4, .int x5, u6] [.int s0] M bc bs Φ := by
  refine EvT.istore dLw_law__1144 (by decide) ?_
  show EvT [] l G d mLw_law_ (_ + _) [.ref 98, .ref a1, .ref a2, .ref a3, .int x4, .int x5, .int s0] [] M bc bs Φ
  refine EvT.aload_n dLw_law__1146 rfl ?_
  have g1 := h.1
  replace h := h.2
  exact EvT.vcV (z := mRe_thrown) (ci := 11) [] [] rfl dLw_law__1147 oRe_thrown rfl w1464 iRe_thrown sRe_thrown (by decide) rfl g1 (Nat.le_of_ble_eq_true rfl) h
theorem bLw_law__1150 {l : Launch} {G : Gx} {d : Nat} {bc bs : Nat} {Φ : OutV → Mm → Prop} {L : Nat} {xs : Nat → Int32} (hSC : SC G L xs) (M : Mm) (a1 : Nat) (a2 : Nat) (a3 : Nat) (x4 : Int32) (x5 : Int32) (x6 : Int32) (s0 : Int32)
    (h : (s0 = x5 → (¬ x5 = 0 → EvT [] l G d mLw_law_ 1174 [.ref 98, .ref a1, .ref a2, .ref a3, .int x4, .int x5, .int x6] [] M bc bs Φ) ∧ (x5 = 0 → ((m_sh M a3).1 = 22) ∧ (vp_in 0 (m_sh M a3).2) ∧ ((lg_cmp (m_l M a3 (0 : Int32).toNatClampNeg) x6.toInt64) = 0 → EvT [] l G d mLw_law_ 1174 [.ref 98, .ref a1, .ref a2, .ref a3, .int x4, .int x5, .int x6] [] M bc bs Φ) ∧ (¬ (lg_cmp (m_l M a3 (0 : Int32).toNatClampNeg) x6.toInt64) = 0 → Φ (.inl (some (.int 0))) M))) ∧ (¬ s0 = x5 → Φ (.inl (some (.int 0))) M)) :
    EvT [] l G d mLw_law_ 1150 [.ref 98, .ref a1, .ref a2, .ref a3, .int x4, .int x5, .int x6] [.int s0] M bc bs Φ := by
  refine EvT.iload dLw_law__1150 rfl ?_
  refine EvT.icmp_eq 1157 (by decide) dLw_law__1152 (fun c => ?_) (fun c => ?_)
  · replace h := h.1 c
    refine EvT.iload dLw_law__1157 rfl ?_
    refine EvT.if_ne 1174 (by decide) dLw_law__1159 (fun c => ?_) (fun c => ?_)
    · replace h := h.1 c
      exact h
    · replace h := h.2 c
      refine EvT.aload_n dLw_law__1162 rfl ?_
      refine EvT.iconst (v := 0) dLw_law__1163 (by decide) ?_
      have g1 := h.1
      replace h := h.2
      have g2 := h.1
      replace h := h.2
      refine EvT.lald2 dLw_law__1164 g1 g2 ?_
      refine EvT.iload dLw_law__1165 rfl ?_
      refine EvT.i2l dLw_law__1167 ?_
      refine EvT.lcmp dLw_law__1168 ?_
      refine EvT.if_eq 1174 (by decide) dLw_law__1169 (fun c => ?_) (fun c => ?_)
      · replace h := h.1 c
        exact h
      · replace h := h.2 c
        refine EvT.iconst (v := 0) dLw_law__1172 (by decide) ?_
        exact EvT.iret dLw_law__1173 rfl rfl h
  · replace h := h.2 c
    refine EvT.iconst (v := 0) dLw_law__1155 (by decide) ?_
    exact EvT.iret dLw_law__1156 rfl rfl h
theorem bLw_law__1174 {l : Launch} {G : Gx} {d : Nat} {bc bs : Nat} {Φ : OutV → Mm → Prop} {L : Nat} {xs : Nat → Int32} (hSC : SC G L xs) (M : Mm) (a1 : Nat) (a2 : Nat) (a3 : Nat) (x4 : Int32) (x5 : Int32) (x6 : Int32)
    (h : EvT [] l G d mLw_law_ 1843 [.ref 98, .ref a1, .ref a2, .ref a3, .int x4, .int x5, .int x6] [] M bc bs Φ) :
    EvT [] l G d mLw_law_ 1174 [.ref 98, .ref a1, .ref a2, .ref a3, .int x4, .int x5, .int x6] [] M bc bs Φ := by
  refine EvT.goto 1843 dLw_law__1174 (by decide) ?_
  exact h
theorem w1143 : Cond.methodLink "BowingRowLaw" 154 ⟨"BowingRowLaw", "owed", "(LBowingRow;II[J)I"⟩ ∈ lwg := lwg_of 1143 (by decide +kernel) (by decide +kernel)
theorem bLw_law__1177 {l : Launch} {G : Gx} {d : Nat} {bc bs : Nat} {Φ : OutV → Mm → Prop} {L : Nat} {xs : Nat → Int32} (hSC : SC G L xs) (M : Mm) (a1 : Nat) (a2 : Nat) (a3 : Nat) (x4 : Int32) (u5 : Value) (u6 : Value)
    (h : (vp_in (x4 + 1) L) ∧ (vp_in (x4 + 2) L) ∧ CallTH l G d mLw_law_ 1194 [.ref 98, .ref a1, .ref a2, .ref a3, .int x4, u5, u6] [] mLw_owed hLw_owed [.ref a1, .int (xs (x4 + 1).toNatClampNeg), .int (xs (x4 + 2).toNatClampNeg), .ref a3] M bc bs Φ) :
    EvT [] l G d mLw_law_ 1177 [.ref 98, .ref a1, .ref a2, .ref a3, .int x4, u5, u6] [] M bc bs Φ := by
  refine EvT.aload_n dLw_law__1177 rfl ?_
  refine EvT.aload_n dLw_law__1178 rfl ?_
  refine EvT.iload dLw_law__1179 rfl ?_
  refine EvT.iconst (v := 1) dLw_law__1181 (by decide) ?_
  refine EvT.iadd dLw_law__1182 ?_
  have g1 := h.1
  replace h := h.2
  refine EvT.scld hSC dLw_law__1183 g1 ?_
  refine EvT.aload_n dLw_law__1184 rfl ?_
  refine EvT.iload dLw_law__1185 rfl ?_
  refine EvT.iconst (v := 2) dLw_law__1187 (by decide) ?_
  refine EvT.iadd dLw_law__1188 ?_
  have g2 := h.1
  replace h := h.2
  refine EvT.scld hSC dLw_law__1189 g2 ?_
  refine EvT.aload_n dLw_law__1190 rfl ?_
  exact EvT.vcH (z := mLw_owed) (hh := hLw_owed) [.ref a1, .int (xs (x4 + 1).toNatClampNeg), .int (xs (x4 + 2).toNatClampNeg), .ref a3] [] rfl dLw_law__1191 oLw_owed rfl w1143 iLw_owed (Nat.le_of_ble_eq_true rfl) h
theorem w1729 : Cond.methodLink "BowingRowLaw" 156 ⟨"BowingRowModel", "owed", "(II)I"⟩ ∈ lwg := lwg_of 1729 (by decide +kernel) (by decide +kernel)
theorem bLw_law__1194 {l : Launch} {G : Gx} {d : Nat} {bc bs : Nat} {Φ : OutV → Mm → Prop} {L : Nat} {xs : Nat → Int32} (hSC : SC G L xs) (M : Mm) (a1 : Nat) (a2 : Nat) (a3 : Nat) (x4 : Int32) (u5 : Value) (u6 : Value) (s0 : Int32)
    (h : (vp_in (x4 + 1) L) ∧ (vp_in (x4 + 2) L) ∧ ((m_sh M a2).1 = 11) ∧ CallTC l G d mLw_law_ 1212 [.ref 98, .ref a1, .ref a2, .ref a3, .int x4, .int s0, u6] [] mRe_owed [.ref a2, .int (xs (x4 + 1).toNatClampNeg), .int (xs (x4 + 2).toNatClampNeg)] M bc bs Φ) :
    EvT [] l G d mLw_law_ 1194 [.ref 98, .ref a1, .ref a2, .ref a3, .int x4, u5, u6] [.int s0] M bc bs Φ := by
  refine EvT.istore dLw_law__1194 (by decide) ?_
  show EvT [] l G d mLw_law_ (_ + _) [.ref 98, .ref a1, .ref a2, .ref a3, .int x4, .int s0, u6] [] M bc bs Φ
  refine EvT.aload_n dLw_law__1196 rfl ?_
  refine EvT.aload_n dLw_law__1197 rfl ?_
  refine EvT.iload dLw_law__1198 rfl ?_
  refine EvT.iconst (v := 1) dLw_law__1200 (by decide) ?_
  refine EvT.iadd dLw_law__1201 ?_
  have g1 := h.1
  replace h := h.2
  refine EvT.scld hSC dLw_law__1202 g1 ?_
  refine EvT.aload_n dLw_law__1203 rfl ?_
  refine EvT.iload dLw_law__1204 rfl ?_
  refine EvT.iconst (v := 2) dLw_law__1206 (by decide) ?_
  refine EvT.iadd dLw_law__1207 ?_
  have g2 := h.1
  replace h := h.2
  refine EvT.scld hSC dLw_law__1208 g2 ?_
  have g3 := h.1
  replace h := h.2
  exact EvT.vcV (z := mRe_owed) (ci := 11) [.int (xs (x4 + 1).toNatClampNeg), .int (xs (x4 + 2).toNatClampNeg)] [] rfl dLw_law__1209 oRe_owed rfl w1729 iRe_owed sRe_owed (by decide) rfl g3 (Nat.le_of_ble_eq_true rfl) h
theorem bLw_law__1212 {l : Launch} {G : Gx} {d : Nat} {bc bs : Nat} {Φ : OutV → Mm → Prop} {L : Nat} {xs : Nat → Int32} (hSC : SC G L xs) (M : Mm) (a1 : Nat) (a2 : Nat) (a3 : Nat) (x4 : Int32) (x5 : Int32) (u6 : Value) (s0 : Int32)
    (h : ((m_sh M a2).1 = 11) ∧ CallTC l G d mLw_law_ 1218 [.ref 98, .ref a1, .ref a2, .ref a3, .int x4, .int x5, .int s0] [] mRe_thrown [.ref a2] M bc bs Φ) :
    EvT [] l G d mLw_law_ 1212 [.ref 98, .ref a1, .ref a2, .ref a3, .int x4, .int x5, u6] [.int s0] M bc bs Φ := by
  refine EvT.istore dLw_law__1212 (by decide) ?_
  show EvT [] l G d mLw_law_ (_ + _) [.ref 98, .ref a1, .ref a2, .ref a3, .int x4, .int x5, .int s0] [] M bc bs Φ
  refine EvT.aload_n dLw_law__1214 rfl ?_
  have g1 := h.1
  replace h := h.2
  exact EvT.vcV (z := mRe_thrown) (ci := 11) [] [] rfl dLw_law__1215 oRe_thrown rfl w1464 iRe_thrown sRe_thrown (by decide) rfl g1 (Nat.le_of_ble_eq_true rfl) h
theorem bLw_law__1218 {l : Launch} {G : Gx} {d : Nat} {bc bs : Nat} {Φ : OutV → Mm → Prop} {L : Nat} {xs : Nat → Int32} (hSC : SC G L xs) (M : Mm) (a1 : Nat) (a2 : Nat) (a3 : Nat) (x4 : Int32) (x5 : Int32) (x6 : Int32) (s0 : Int32)
    (h : (s0 = x5 → (¬ x5 = 0 → EvT [] l G d mLw_law_ 1242 [.ref 98, .ref a1, .ref a2, .ref a3, .int x4, .int x5, .int x6] [] M bc bs Φ) ∧ (x5 = 0 → ((m_sh M a3).1 = 22) ∧ (vp_in 0 (m_sh M a3).2) ∧ ((lg_cmp (m_l M a3 (0 : Int32).toNatClampNeg) x6.toInt64) = 0 → EvT [] l G d mLw_law_ 1242 [.ref 98, .ref a1, .ref a2, .ref a3, .int x4, .int x5, .int x6] [] M bc bs Φ) ∧ (¬ (lg_cmp (m_l M a3 (0 : Int32).toNatClampNeg) x6.toInt64) = 0 → Φ (.inl (some (.int 0))) M))) ∧ (¬ s0 = x5 → Φ (.inl (some (.int 0))) M)) :
    EvT [] l G d mLw_law_ 1218 [.ref 98, .ref a1, .ref a2, .ref a3, .int x4, .int x5, .int x6] [.int s0] M bc bs Φ := by
  refine EvT.iload dLw_law__1218 rfl ?_
  refine EvT.icmp_eq 1225 (by decide) dLw_law__1220 (fun c => ?_) (fun c => ?_)
  · replace h := h.1 c
    refine EvT.iload dLw_law__1225 rfl ?_
    refine EvT.if_ne 1242 (by decide) dLw_law__1227 (fun c => ?_) (fun c => ?_)
    · replace h := h.1 c
      exact h
    · replace h := h.2 c
      refine EvT.aload_n dLw_law__1230 rfl ?_
      refine EvT.iconst (v := 0) dLw_law__1231 (by decide) ?_
      have g1 := h.1
      replace h := h.2
      have g2 := h.1
      replace h := h.2
      refine EvT.lald2 dLw_law__1232 g1 g2 ?_
      refine EvT.iload dLw_law__1233 rfl ?_
      refine EvT.i2l dLw_law__1235 ?_
      refine EvT.lcmp dLw_law__1236 ?_
      refine EvT.if_eq 1242 (by decide) dLw_law__1237 (fun c => ?_) (fun c => ?_)
      · replace h := h.1 c
        exact h
      · replace h := h.2 c
        refine EvT.iconst (v := 0) dLw_law__1240 (by decide) ?_
        exact EvT.iret dLw_law__1241 rfl rfl h
  · replace h := h.2 c
    refine EvT.iconst (v := 0) dLw_law__1223 (by decide) ?_
    exact EvT.iret dLw_law__1224 rfl rfl h
theorem bLw_law__1242 {l : Launch} {G : Gx} {d : Nat} {bc bs : Nat} {Φ : OutV → Mm → Prop} {L : Nat} {xs : Nat → Int32} (hSC : SC G L xs) (M : Mm) (a1 : Nat) (a2 : Nat) (a3 : Nat) (x4 : Int32) (x5 : Int32) (x6 : Int32)
    (h : EvT [] l G d mLw_law_ 1843 [.ref 98, .ref a1, .ref a2, .ref a3, .int x4, .int x5, .int x6] [] M bc bs Φ) :
    EvT [] l G d mLw_law_ 1242 [.ref 98, .ref a1, .ref a2, .ref a3, .int x4, .int x5, .int x6] [] M bc bs Φ := by
  refine EvT.goto 1843 dLw_law__1242 (by decide) ?_
  exact h
theorem w1165 : Cond.methodLink "BowingRowLaw" 157 ⟨"BowingRowLaw", "tell", "(LBowingRow;I[J)I"⟩ ∈ lwg := lwg_of 1165 (by decide +kernel) (by decide +kernel)
theorem bLw_law__1245 {l : Launch} {G : Gx} {d : Nat} {bc bs : Nat} {Φ : OutV → Mm → Prop} {L : Nat} {xs : Nat → Int32} (hSC : SC G L xs) (M : Mm) (a1 : Nat) (a2 : Nat) (a3 : Nat) (x4 : Int32) (u5 : Value) (u6 : Value)
    (h : (vp_in (x4 + 1) L) ∧ CallTH l G d mLw_law_ 1256 [.ref 98, .ref a1, .ref a2, .ref a3, .int x4, u5, u6] [] mLw_tell hLw_tell [.ref a1, .int (xs (x4 + 1).toNatClampNeg), .ref a3] M bc bs Φ) :
    EvT [] l G d mLw_law_ 1245 [.ref 98, .ref a1, .ref a2, .ref a3, .int x4, u5, u6] [] M bc bs Φ := by
  refine EvT.aload_n dLw_law__1245 rfl ?_
  refine EvT.aload_n dLw_law__1246 rfl ?_
  refine EvT.iload dLw_law__1247 rfl ?_
  refine EvT.iconst (v := 1) dLw_law__1249 (by decide) ?_
  refine EvT.iadd dLw_law__1250 ?_
  have g1 := h.1
  replace h := h.2
  refine EvT.scld hSC dLw_law__1251 g1 ?_
  refine EvT.aload_n dLw_law__1252 rfl ?_
  exact EvT.vcH (z := mLw_tell) (hh := hLw_tell) [.ref a1, .int (xs (x4 + 1).toNatClampNeg), .ref a3] [] rfl dLw_law__1253 oLw_tell rfl w1165 iLw_tell (Nat.le_of_ble_eq_true rfl) h
theorem w1737 : Cond.methodLink "BowingRowLaw" 159 ⟨"BowingRowModel", "tell", "(I)I"⟩ ∈ lwg := lwg_of 1737 (by decide +kernel) (by decide +kernel)
theorem bLw_law__1256 {l : Launch} {G : Gx} {d : Nat} {bc bs : Nat} {Φ : OutV → Mm → Prop} {L : Nat} {xs : Nat → Int32} (hSC : SC G L xs) (M : Mm) (a1 : Nat) (a2 : Nat) (a3 : Nat) (x4 : Int32) (u5 : Value) (u6 : Value) (s0 : Int32)
    (h : (vp_in (x4 + 1) L) ∧ ((m_sh M a2).1 = 11) ∧ CallTC l G d mLw_law_ 1268 [.ref 98, .ref a1, .ref a2, .ref a3, .int x4, .int s0, u6] [] mRe_tell [.ref a2, .int (xs (x4 + 1).toNatClampNeg)] M bc bs Φ) :
    EvT [] l G d mLw_law_ 1256 [.ref 98, .ref a1, .ref a2, .ref a3, .int x4, u5, u6] [.int s0] M bc bs Φ := by
  refine EvT.istore dLw_law__1256 (by decide) ?_
  show EvT [] l G d mLw_law_ (_ + _) [.ref 98, .ref a1, .ref a2, .ref a3, .int x4, .int s0, u6] [] M bc bs Φ
  refine EvT.aload_n dLw_law__1258 rfl ?_
  refine EvT.aload_n dLw_law__1259 rfl ?_
  refine EvT.iload dLw_law__1260 rfl ?_
  refine EvT.iconst (v := 1) dLw_law__1262 (by decide) ?_
  refine EvT.iadd dLw_law__1263 ?_
  have g1 := h.1
  replace h := h.2
  refine EvT.scld hSC dLw_law__1264 g1 ?_
  have g2 := h.1
  replace h := h.2
  exact EvT.vcV (z := mRe_tell) (ci := 11) [.int (xs (x4 + 1).toNatClampNeg)] [] rfl dLw_law__1265 oRe_tell rfl w1737 iRe_tell sRe_tell (by decide) rfl g2 (Nat.le_of_ble_eq_true rfl) h
theorem bLw_law__1268 {l : Launch} {G : Gx} {d : Nat} {bc bs : Nat} {Φ : OutV → Mm → Prop} {L : Nat} {xs : Nat → Int32} (hSC : SC G L xs) (M : Mm) (a1 : Nat) (a2 : Nat) (a3 : Nat) (x4 : Int32) (x5 : Int32) (u6 : Value) (s0 : Int32)
    (h : ((m_sh M a2).1 = 11) ∧ CallTC l G d mLw_law_ 1274 [.ref 98, .ref a1, .ref a2, .ref a3, .int x4, .int x5, .int s0] [] mRe_thrown [.ref a2] M bc bs Φ) :
    EvT [] l G d mLw_law_ 1268 [.ref 98, .ref a1, .ref a2, .ref a3, .int x4, .int x5, u6] [.int s0] M bc bs Φ := by
  refine EvT.istore dLw_law__1268 (by decide) ?_
  show EvT [] l G d mLw_law_ (_ + _) [.ref 98, .ref a1, .ref a2, .ref a3, .int x4, .int x5, .int s0] [] M bc bs Φ
  refine EvT.aload_n dLw_law__1270 rfl ?_
  have g1 := h.1
  replace h := h.2
  exact EvT.vcV (z := mRe_thrown) (ci := 11) [] [] rfl dLw_law__1271 oRe_thrown rfl w1464 iRe_thrown sRe_thrown (by decide) rfl g1 (Nat.le_of_ble_eq_true rfl) h
theorem bLw_law__1274 {l : Launch} {G : Gx} {d : Nat} {bc bs : Nat} {Φ : OutV → Mm → Prop} {L : Nat} {xs : Nat → Int32} (hSC : SC G L xs) (M : Mm) (a1 : Nat) (a2 : Nat) (a3 : Nat) (x4 : Int32) (x5 : Int32) (x6 : Int32) (s0 : Int32)
    (h : (s0 = x5 → (¬ x5 = 0 → EvT [] l G d mLw_law_ 1298 [.ref 98, .ref a1, .ref a2, .ref a3, .int x4, .int x5, .int x6] [] M bc bs Φ) ∧ (x5 = 0 → ((m_sh M a3).1 = 22) ∧ (vp_in 0 (m_sh M a3).2) ∧ ((lg_cmp (m_l M a3 (0 : Int32).toNatClampNeg) x6.toInt64) = 0 → EvT [] l G d mLw_law_ 1298 [.ref 98, .ref a1, .ref a2, .ref a3, .int x4, .int x5, .int x6] [] M bc bs Φ) ∧ (¬ (lg_cmp (m_l M a3 (0 : Int32).toNatClampNeg) x6.toInt64) = 0 → Φ (.inl (some (.int 0))) M))) ∧ (¬ s0 = x5 → Φ (.inl (some (.int 0))) M)) :
    EvT [] l G d mLw_law_ 1274 [.ref 98, .ref a1, .ref a2, .ref a3, .int x4, .int x5, .int x6] [.int s0] M bc bs Φ := by
  refine EvT.iload dLw_law__1274 rfl ?_
  refine EvT.icmp_eq 1281 (by decide) dLw_law__1276 (fun c => ?_) (fun c => ?_)
  · replace h := h.1 c
    refine EvT.iload dLw_law__1281 rfl ?_
    refine EvT.if_ne 1298 (by decide) dLw_law__1283 (fun c => ?_) (fun c => ?_)
    · replace h := h.1 c
      exact h
    · replace h := h.2 c
      refine EvT.aload_n dLw_law__1286 rfl ?_
      refine EvT.iconst (v := 0) dLw_law__1287 (by decide) ?_
      have g1 := h.1
      replace h := h.2
      have g2 := h.1
      replace h := h.2
      refine EvT.lald2 dLw_law__1288 g1 g2 ?_
      refine EvT.iload dLw_law__1289 rfl ?_
      refine EvT.i2l dLw_law__1291 ?_
      refine EvT.lcmp dLw_law__1292 ?_
      refine EvT.if_eq 1298 (by decide) dLw_law__1293 (fun c => ?_) (fun c => ?_)
      · replace h := h.1 c
        exact h
      · replace h := h.2 c
        refine EvT.iconst (v := 0) dLw_law__1296 (by decide) ?_
        exact EvT.iret dLw_law__1297 rfl rfl h
  · replace h := h.2 c
    refine EvT.iconst (v := 0) dLw_law__1279 (by decide) ?_
    exact EvT.iret dLw_law__1280 rfl rfl h
theorem bLw_law__1298 {l : Launch} {G : Gx} {d : Nat} {bc bs : Nat} {Φ : OutV → Mm → Prop} {L : Nat} {xs : Nat → Int32} (hSC : SC G L xs) (M : Mm) (a1 : Nat) (a2 : Nat) (a3 : Nat) (x4 : Int32) (x5 : Int32) (x6 : Int32)
    (h : EvT [] l G d mLw_law_ 1843 [.ref 98, .ref a1, .ref a2, .ref a3, .int x4, .int x5, .int x6] [] M bc bs Φ) :
    EvT [] l G d mLw_law_ 1298 [.ref 98, .ref a1, .ref a2, .ref a3, .int x4, .int x5, .int x6] [] M bc bs Φ := by
  refine EvT.goto 1843 dLw_law__1298 (by decide) ?_
  exact h
theorem w549 : Cond.methodLink "BowingRowLaw" 160 ⟨"BowingRow", "forget", "()I"⟩ ∈ lwg := lwg_of 549 (by decide +kernel) (by decide +kernel)
theorem bLw_law__1301 {l : Launch} {G : Gx} {d : Nat} {bc bs : Nat} {Φ : OutV → Mm → Prop} {L : Nat} {xs : Nat → Int32} (hSC : SC G L xs) (M : Mm) (a1 : Nat) (a2 : Nat) (a3 : Nat) (x4 : Int32) (u5 : Value) (u6 : Value)
    (h : ((m_sh M a1).1 = 10) ∧ CallTC l G d mLw_law_ 1305 [.ref 98, .ref a1, .ref a2, .ref a3, .int x4, u5, u6] [] mBo_forget [.ref a1] M bc bs Φ) :
    EvT [] l G d mLw_law_ 1301 [.ref 98, .ref a1, .ref a2, .ref a3, .int x4, u5, u6] [] M bc bs Φ := by
  refine EvT.aload_n dLw_law__1301 rfl ?_
  have g1 := h.1
  replace h := h.2
  exact EvT.vcV (z := mBo_forget) (ci := 10) [] [] rfl dLw_law__1302 oBo_forget rfl w549 iBo_forget sBo_forget (by decide) rfl g1 (Nat.le_of_ble_eq_true rfl) h
theorem w1741 : Cond.methodLink "BowingRowLaw" 163 ⟨"BowingRowModel", "forget", "()I"⟩ ∈ lwg := lwg_of 1741 (by decide +kernel) (by decide +kernel)
theorem bLw_law__1305 {l : Launch} {G : Gx} {d : Nat} {bc bs : Nat} {Φ : OutV → Mm → Prop} {L : Nat} {xs : Nat → Int32} (hSC : SC G L xs) (M : Mm) (a1 : Nat) (a2 : Nat) (a3 : Nat) (x4 : Int32) (u5 : Value) (u6 : Value) (s0 : Int32)
    (h : ((m_sh M a2).1 = 11) ∧ CallTC l G d mLw_law_ 1309 [.ref 98, .ref a1, .ref a2, .ref a3, .int x4, u5, u6] [.int s0] mRe_forget [.ref a2] M bc bs Φ) :
    EvT [] l G d mLw_law_ 1305 [.ref 98, .ref a1, .ref a2, .ref a3, .int x4, u5, u6] [.int s0] M bc bs Φ := by
  refine EvT.aload_n dLw_law__1305 rfl ?_
  have g1 := h.1
  replace h := h.2
  exact EvT.vcV (z := mRe_forget) (ci := 11) [] [.int s0] rfl dLw_law__1306 oRe_forget rfl w1741 iRe_forget sRe_forget (by decide) rfl g1 (Nat.le_of_ble_eq_true rfl) h
theorem bLw_law__1309 {l : Launch} {G : Gx} {d : Nat} {bc bs : Nat} {Φ : OutV → Mm → Prop} {L : Nat} {xs : Nat → Int32} (hSC : SC G L xs) (M : Mm) (a1 : Nat) (a2 : Nat) (a3 : Nat) (x4 : Int32) (u5 : Value) (u6 : Value) (s0 : Int32) (s1 : Int32)
    (h : (s0 = s1 → EvT [] l G d mLw_law_ 1843 [.ref 98, .ref a1, .ref a2, .ref a3, .int x4, u5, u6] [] M bc bs Φ) ∧ (¬ s0 = s1 → Φ (.inl (some (.int 0))) M)) :
    EvT [] l G d mLw_law_ 1309 [.ref 98, .ref a1, .ref a2, .ref a3, .int x4, u5, u6] [.int s1, .int s0] M bc bs Φ := by
  refine EvT.icmp_eq 1843 (by decide) dLw_law__1309 (fun c => ?_) (fun c => ?_)
  · replace h := h.1 c
    exact h
  · replace h := h.2 c
    refine EvT.iconst (v := 0) dLw_law__1312 (by decide) ?_
    exact EvT.iret dLw_law__1313 rfl rfl h
theorem w553 : Cond.methodLink "BowingRowLaw" 164 ⟨"BowingRow", "judge", "()I"⟩ ∈ lwg := lwg_of 553 (by decide +kernel) (by decide +kernel)
theorem bLw_law__1314 {l : Launch} {G : Gx} {d : Nat} {bc bs : Nat} {Φ : OutV → Mm → Prop} {L : Nat} {xs : Nat → Int32} (hSC : SC G L xs) (M : Mm) (a1 : Nat) (a2 : Nat) (a3 : Nat) (x4 : Int32) (u5 : Value) (u6 : Value)
    (h : ((m_sh M a1).1 = 10) ∧ CallTC l G d mLw_law_ 1318 [.ref 98, .ref a1, .ref a2, .ref a3, .int x4, u5, u6] [] mBo_judge [.ref a1] M bc bs Φ) :
    EvT [] l G d mLw_law_ 1314 [.ref 98, .ref a1, .ref a2, .ref a3, .int x4, u5, u6] [] M bc bs Φ := by
  refine EvT.aload_n dLw_law__1314 rfl ?_
  have g1 := h.1
  replace h := h.2
  exact EvT.vcV (z := mBo_judge) (ci := 10) [] [] rfl dLw_law__1315 oBo_judge rfl w553 iBo_judge sBo_judge (by decide) rfl g1 (Nat.le_of_ble_eq_true rfl) h
theorem w1745 : Cond.methodLink "BowingRowLaw" 167 ⟨"BowingRowModel", "judge", "()I"⟩ ∈ lwg := lwg_of 1745 (by decide +kernel) (by decide +kernel)
theorem bLw_law__1318 {l : Launch} {G : Gx} {d : Nat} {bc bs : Nat} {Φ : OutV → Mm → Prop} {L : Nat} {xs : Nat → Int32} (hSC : SC G L xs) (M : Mm) (a1 : Nat) (a2 : Nat) (a3 : Nat) (x4 : Int32) (u5 : Value) (u6 : Value) (s0 : Int32)
    (h : ((m_sh M a2).1 = 11) ∧ CallTC l G d mLw_law_ 1322 [.ref 98, .ref a1, .ref a2, .ref a3, .int x4, u5, u6] [.int s0] mRe_judge [.ref a2] M bc bs Φ) :
    EvT [] l G d mLw_law_ 1318 [.ref 98, .ref a1, .ref a2, .ref a3, .int x4, u5, u6] [.int s0] M bc bs Φ := by
  refine EvT.aload_n dLw_law__1318 rfl ?_
  have g1 := h.1
  replace h := h.2
  exact EvT.vcV (z := mRe_judge) (ci := 11) [] [.int s0] rfl dLw_law__1319 oRe_judge rfl w1745 iRe_judge sRe_judge (by decide) rfl g1 (Nat.le_of_ble_eq_true rfl) h
theorem bLw_law__1322 {l : Launch} {G : Gx} {d : Nat} {bc bs : Nat} {Φ : OutV → Mm → Prop} {L : Nat} {xs : Nat → Int32} (hSC : SC G L xs) (M : Mm) (a1 : Nat) (a2 : Nat) (a3 : Nat) (x4 : Int32) (u5 : Value) (u6 : Value) (s0 : Int32) (s1 : Int32)
    (h : (s0 = s1 → EvT [] l G d mLw_law_ 1843 [.ref 98, .ref a1, .ref a2, .ref a3, .int x4, u5, u6] [] M bc bs Φ) ∧ (¬ s0 = s1 → Φ (.inl (some (.int 0))) M)) :
    EvT [] l G d mLw_law_ 1322 [.ref 98, .ref a1, .ref a2, .ref a3, .int x4, u5, u6] [.int s1, .int s0] M bc bs Φ := by
  refine EvT.icmp_eq 1843 (by decide) dLw_law__1322 (fun c => ?_) (fun c => ?_)
  · replace h := h.1 c
    exact h
  · replace h := h.2 c
    refine EvT.iconst (v := 0) dLw_law__1325 (by decide) ?_
    exact EvT.iret dLw_law__1326 rfl rfl h
theorem w1172 : Cond.methodLink "BowingRowLaw" 168 ⟨"BowingRowLaw", "again", "(LBowingRow;III[J)I"⟩ ∈ lwg := lwg_of 1172 (by decide +kernel) (by decide +kernel)
theorem bLw_law__1327 {l : Launch} {G : Gx} {d : Nat} {bc bs : Nat} {Φ : OutV → Mm → Prop} {L : Nat} {xs : Nat → Int32} (hSC : SC G L xs) (M : Mm) (a1 : Nat) (a2 : Nat) (a3 : Nat) (x4 : Int32) (u5 : Value) (u6 : Value)
    (h : (vp_in (x4 + 1) L) ∧ (vp_in (x4 + 2) L) ∧ (vp_in (x4 + 3) L) ∧ CallTH l G d mLw_law_ 1350 [.ref 98, .ref a1, .ref a2, .ref a3, .int x4, u5, u6] [] mLw_again hLw_again [.ref a1, .int (xs (x4 + 1).toNatClampNeg), .int (xs (x4 + 2).toNatClampNeg), .int (xs (x4 + 3).toNatClampNeg), .ref a3] M bc bs Φ) :
    EvT [] l G d mLw_law_ 1327 [.ref 98, .ref a1, .ref a2, .ref a3, .int x4, u5, u6] [] M bc bs Φ := by
  refine EvT.aload_n dLw_law__1327 rfl ?_
  refine EvT.aload_n dLw_law__1328 rfl ?_
  refine EvT.iload dLw_law__1329 rfl ?_
  refine EvT.iconst (v := 1) dLw_law__1331 (by decide) ?_
  refine EvT.iadd dLw_law__1332 ?_
  have g1 := h.1
  replace h := h.2
  refine EvT.scld hSC dLw_law__1333 g1 ?_
  refine EvT.aload_n dLw_law__1334 rfl ?_
  refine EvT.iload dLw_law__1335 rfl ?_
  refine EvT.iconst (v := 2) dLw_law__1337 (by decide) ?_
  refine EvT.iadd dLw_law__1338 ?_
  have g2 := h.1
  replace h := h.2
  refine EvT.scld hSC dLw_law__1339 g2 ?_
  refine EvT.aload_n dLw_law__1340 rfl ?_
  refine EvT.iload dLw_law__1341 rfl ?_
  refine EvT.iconst (v := 3) dLw_law__1343 (by decide) ?_
  refine EvT.iadd dLw_law__1344 ?_
  have g3 := h.1
  replace h := h.2
  refine EvT.scld hSC dLw_law__1345 g3 ?_
  refine EvT.aload_n dLw_law__1346 rfl ?_
  exact EvT.vcH (z := mLw_again) (hh := hLw_again) [.ref a1, .int (xs (x4 + 1).toNatClampNeg), .int (xs (x4 + 2).toNatClampNeg), .int (xs (x4 + 3).toNatClampNeg), .ref a3] [] rfl dLw_law__1347 oLw_again rfl w1172 iLw_again (Nat.le_of_ble_eq_true rfl) h
theorem w1749 : Cond.methodLink "BowingRowLaw" 170 ⟨"BowingRowModel", "again", "(III)I"⟩ ∈ lwg := lwg_of 1749 (by decide +kernel) (by decide +kernel)
theorem bLw_law__1350 {l : Launch} {G : Gx} {d : Nat} {bc bs : Nat} {Φ : OutV → Mm → Prop} {L : Nat} {xs : Nat → Int32} (hSC : SC G L xs) (M : Mm) (a1 : Nat) (a2 : Nat) (a3 : Nat) (x4 : Int32) (u5 : Value) (u6 : Value) (s0 : Int32)
    (h : (vp_in (x4 + 1) L) ∧ (vp_in (x4 + 2) L) ∧ (vp_in (x4 + 3) L) ∧ ((m_sh M a2).1 = 11) ∧ CallTC l G d mLw_law_ 1374 [.ref 98, .ref a1, .ref a2, .ref a3, .int x4, .int s0, u6] [] mRe_again [.ref a2, .int (xs (x4 + 1).toNatClampNeg), .int (xs (x4 + 2).toNatClampNeg), .int (xs (x4 + 3).toNatClampNeg)] M bc bs Φ) :
    EvT [] l G d mLw_law_ 1350 [.ref 98, .ref a1, .ref a2, .ref a3, .int x4, u5, u6] [.int s0] M bc bs Φ := by
  refine EvT.istore dLw_law__1350 (by decide) ?_
  show EvT [] l G d mLw_law_ (_ + _) [.ref 98, .ref a1, .ref a2, .ref a3, .int x4, .int s0, u6] [] M bc bs Φ
  refine EvT.aload_n dLw_law__1352 rfl ?_
  refine EvT.aload_n dLw_law__1353 rfl ?_
  refine EvT.iload dLw_law__1354 rfl ?_
  refine EvT.iconst (v := 1) dLw_law__1356 (by decide) ?_
  refine EvT.iadd dLw_law__1357 ?_
  have g1 := h.1
  replace h := h.2
  refine EvT.scld hSC dLw_law__1358 g1 ?_
  refine EvT.aload_n dLw_law__1359 rfl ?_
  refine EvT.iload dLw_law__1360 rfl ?_
  refine EvT.iconst (v := 2) dLw_law__1362 (by decide) ?_
  refine EvT.iadd dLw_law__1363 ?_
  have g2 := h.1
  replace h := h.2
  refine EvT.scld hSC dLw_law__1364 g2 ?_
  refine EvT.aload_n dLw_law__1365 rfl ?_
  refine EvT.iload dLw_law__1366 rfl ?_
  refine EvT.iconst (v := 3) dLw_law__1368 (by decide) ?_
  refine EvT.iadd dLw_law__1369 ?_
  have g3 := h.1
  replace h := h.2
  refine EvT.scld hSC dLw_law__1370 g3 ?_
  have g4 := h.1
  replace h := h.2
  exact EvT.vcV (z := mRe_again) (ci := 11) [.int (xs (x4 + 1).toNatClampNeg), .int (xs (x4 + 2).toNatClampNeg), .int (xs (x4 + 3).toNatClampNeg)] [] rfl dLw_law__1371 oRe_again rfl w1749 iRe_again sRe_again (by decide) rfl g4 (Nat.le_of_ble_eq_true rfl) h
theorem bLw_law__1374 {l : Launch} {G : Gx} {d : Nat} {bc bs : Nat} {Φ : OutV → Mm → Prop} {L : Nat} {xs : Nat → Int32} (hSC : SC G L xs) (M : Mm) (a1 : Nat) (a2 : Nat) (a3 : Nat) (x4 : Int32) (x5 : Int32) (u6 : Value) (s0 : Int32)
    (h : ((m_sh M a2).1 = 11) ∧ CallTC l G d mLw_law_ 1380 [.ref 98, .ref a1, .ref a2, .ref a3, .int x4, .int x5, .int s0] [] mRe_thrown [.ref a2] M bc bs Φ) :
    EvT [] l G d mLw_law_ 1374 [.ref 98, .ref a1, .ref a2, .ref a3, .int x4, .int x5, u6] [.int s0] M bc bs Φ := by
  refine EvT.istore dLw_law__1374 (by decide) ?_
  show EvT [] l G d mLw_law_ (_ + _) [.ref 98, .ref a1, .ref a2, .ref a3, .int x4, .int x5, .int s0] [] M bc bs Φ
  refine EvT.aload_n dLw_law__1376 rfl ?_
  have g1 := h.1
  replace h := h.2
  exact EvT.vcV (z := mRe_thrown) (ci := 11) [] [] rfl dLw_law__1377 oRe_thrown rfl w1464 iRe_thrown sRe_thrown (by decide) rfl g1 (Nat.le_of_ble_eq_true rfl) h
theorem bLw_law__1380 {l : Launch} {G : Gx} {d : Nat} {bc bs : Nat} {Φ : OutV → Mm → Prop} {L : Nat} {xs : Nat → Int32} (hSC : SC G L xs) (M : Mm) (a1 : Nat) (a2 : Nat) (a3 : Nat) (x4 : Int32) (x5 : Int32) (x6 : Int32) (s0 : Int32)
    (h : (s0 = x5 → (¬ x5 = 0 → EvT [] l G d mLw_law_ 1404 [.ref 98, .ref a1, .ref a2, .ref a3, .int x4, .int x5, .int x6] [] M bc bs Φ) ∧ (x5 = 0 → ((m_sh M a3).1 = 22) ∧ (vp_in 0 (m_sh M a3).2) ∧ ((lg_cmp (m_l M a3 (0 : Int32).toNatClampNeg) x6.toInt64) = 0 → EvT [] l G d mLw_law_ 1404 [.ref 98, .ref a1, .ref a2, .ref a3, .int x4, .int x5, .int x6] [] M bc bs Φ) ∧ (¬ (lg_cmp (m_l M a3 (0 : Int32).toNatClampNeg) x6.toInt64) = 0 → Φ (.inl (some (.int 0))) M))) ∧ (¬ s0 = x5 → Φ (.inl (some (.int 0))) M)) :
    EvT [] l G d mLw_law_ 1380 [.ref 98, .ref a1, .ref a2, .ref a3, .int x4, .int x5, .int x6] [.int s0] M bc bs Φ := by
  refine EvT.iload dLw_law__1380 rfl ?_
  refine EvT.icmp_eq 1387 (by decide) dLw_law__1382 (fun c => ?_) (fun c => ?_)
  · replace h := h.1 c
    refine EvT.iload dLw_law__1387 rfl ?_
    refine EvT.if_ne 1404 (by decide) dLw_law__1389 (fun c => ?_) (fun c => ?_)
    · replace h := h.1 c
      exact h
    · replace h := h.2 c
      refine EvT.aload_n dLw_law__1392 rfl ?_
      refine EvT.iconst (v := 0) dLw_law__1393 (by decide) ?_
      have g1 := h.1
      replace h := h.2
      have g2 := h.1
      replace h := h.2
      refine EvT.lald2 dLw_law__1394 g1 g2 ?_
      refine EvT.iload dLw_law__1395 rfl ?_
      refine EvT.i2l dLw_law__1397 ?_
      refine EvT.lcmp dLw_law__1398 ?_
      refine EvT.if_eq 1404 (by decide) dLw_law__1399 (fun c => ?_) (fun c => ?_)
      · replace h := h.1 c
        exact h
      · replace h := h.2 c
        refine EvT.iconst (v := 0) dLw_law__1402 (by decide) ?_
        exact EvT.iret dLw_law__1403 rfl rfl h
  · replace h := h.2 c
    refine EvT.iconst (v := 0) dLw_law__1385 (by decide) ?_
    exact EvT.iret dLw_law__1386 rfl rfl h
theorem bLw_law__1404 {l : Launch} {G : Gx} {d : Nat} {bc bs : Nat} {Φ : OutV → Mm → Prop} {L : Nat} {xs : Nat → Int32} (hSC : SC G L xs) (M : Mm) (a1 : Nat) (a2 : Nat) (a3 : Nat) (x4 : Int32) (x5 : Int32) (x6 : Int32)
    (h : EvT [] l G d mLw_law_ 1843 [.ref 98, .ref a1, .ref a2, .ref a3, .int x4, .int x5, .int x6] [] M bc bs Φ) :
    EvT [] l G d mLw_law_ 1404 [.ref 98, .ref a1, .ref a2, .ref a3, .int x4, .int x5, .int x6] [] M bc bs Φ := by
  refine EvT.goto 1843 dLw_law__1404 (by decide) ?_
  exact h
theorem w1183 : Cond.methodLink "BowingRowLaw" 171 ⟨"BowingRowLaw", "plan", "(LBowingRow;II[J)I"⟩ ∈ lwg := lwg_of 1183 (by decide +kernel) (by decide +kernel)
theorem bLw_law__1407 {l : Launch} {G : Gx} {d : Nat} {bc bs : Nat} {Φ : OutV → Mm → Prop} {L : Nat} {xs : Nat → Int32} (hSC : SC G L xs) (M : Mm) (a1 : Nat) (a2 : Nat) (a3 : Nat) (x4 : Int32) (u5 : Value) (u6 : Value)
    (h : (vp_in (x4 + 1) L) ∧ (vp_in (x4 + 2) L) ∧ CallTH l G d mLw_law_ 1424 [.ref 98, .ref a1, .ref a2, .ref a3, .int x4, u5, u6] [] mLw_plan hLw_plan [.ref a1, .int (xs (x4 + 1).toNatClampNeg), .int (xs (x4 + 2).toNatClampNeg), .ref a3] M bc bs Φ) :
    EvT [] l G d mLw_law_ 1407 [.ref 98, .ref a1, .ref a2, .ref a3, .int x4, u5, u6] [] M bc bs Φ := by
  refine EvT.aload_n dLw_law__1407 rfl ?_
  refine EvT.aload_n dLw_law__1408 rfl ?_
  refine EvT.iload dLw_law__1409 rfl ?_
  refine EvT.iconst (v := 1) dLw_law__1411 (by decide) ?_
  refine EvT.iadd dLw_law__1412 ?_
  have g1 := h.1
  replace h := h.2
  refine EvT.scld hSC dLw_law__1413 g1 ?_
  refine EvT.aload_n dLw_law__1414 rfl ?_
  refine EvT.iload dLw_law__1415 rfl ?_
  refine EvT.iconst (v := 2) dLw_law__1417 (by decide) ?_
  refine EvT.iadd dLw_law__1418 ?_
  have g2 := h.1
  replace h := h.2
  refine EvT.scld hSC dLw_law__1419 g2 ?_
  refine EvT.aload_n dLw_law__1420 rfl ?_
  exact EvT.vcH (z := mLw_plan) (hh := hLw_plan) [.ref a1, .int (xs (x4 + 1).toNatClampNeg), .int (xs (x4 + 2).toNatClampNeg), .ref a3] [] rfl dLw_law__1421 oLw_plan rfl w1183 iLw_plan (Nat.le_of_ble_eq_true rfl) h
theorem w1753 : Cond.methodLink "BowingRowLaw" 173 ⟨"BowingRowModel", "plan", "(II)I"⟩ ∈ lwg := lwg_of 1753 (by decide +kernel) (by decide +kernel)
theorem bLw_law__1424 {l : Launch} {G : Gx} {d : Nat} {bc bs : Nat} {Φ : OutV → Mm → Prop} {L : Nat} {xs : Nat → Int32} (hSC : SC G L xs) (M : Mm) (a1 : Nat) (a2 : Nat) (a3 : Nat) (x4 : Int32) (u5 : Value) (u6 : Value) (s0 : Int32)
    (h : (vp_in (x4 + 1) L) ∧ (vp_in (x4 + 2) L) ∧ ((m_sh M a2).1 = 11) ∧ CallTC l G d mLw_law_ 1442 [.ref 98, .ref a1, .ref a2, .ref a3, .int x4, .int s0, u6] [] mRe_plan [.ref a2, .int (xs (x4 + 1).toNatClampNeg), .int (xs (x4 + 2).toNatClampNeg)] M bc bs Φ) :
    EvT [] l G d mLw_law_ 1424 [.ref 98, .ref a1, .ref a2, .ref a3, .int x4, u5, u6] [.int s0] M bc bs Φ := by
  refine EvT.istore dLw_law__1424 (by decide) ?_
  show EvT [] l G d mLw_law_ (_ + _) [.ref 98, .ref a1, .ref a2, .ref a3, .int x4, .int s0, u6] [] M bc bs Φ
  refine EvT.aload_n dLw_law__1426 rfl ?_
  refine EvT.aload_n dLw_law__1427 rfl ?_
  refine EvT.iload dLw_law__1428 rfl ?_
  refine EvT.iconst (v := 1) dLw_law__1430 (by decide) ?_
  refine EvT.iadd dLw_law__1431 ?_
  have g1 := h.1
  replace h := h.2
  refine EvT.scld hSC dLw_law__1432 g1 ?_
  refine EvT.aload_n dLw_law__1433 rfl ?_
  refine EvT.iload dLw_law__1434 rfl ?_
  refine EvT.iconst (v := 2) dLw_law__1436 (by decide) ?_
  refine EvT.iadd dLw_law__1437 ?_
  have g2 := h.1
  replace h := h.2
  refine EvT.scld hSC dLw_law__1438 g2 ?_
  have g3 := h.1
  replace h := h.2
  exact EvT.vcV (z := mRe_plan) (ci := 11) [.int (xs (x4 + 1).toNatClampNeg), .int (xs (x4 + 2).toNatClampNeg)] [] rfl dLw_law__1439 oRe_plan rfl w1753 iRe_plan sRe_plan (by decide) rfl g3 (Nat.le_of_ble_eq_true rfl) h
theorem bLw_law__1442 {l : Launch} {G : Gx} {d : Nat} {bc bs : Nat} {Φ : OutV → Mm → Prop} {L : Nat} {xs : Nat → Int32} (hSC : SC G L xs) (M : Mm) (a1 : Nat) (a2 : Nat) (a3 : Nat) (x4 : Int32) (x5 : Int32) (u6 : Value) (s0 : Int32)
    (h : ((m_sh M a2).1 = 11) ∧ CallTC l G d mLw_law_ 1448 [.ref 98, .ref a1, .ref a2, .ref a3, .int x4, .int x5, .int s0] [] mRe_thrown [.ref a2] M bc bs Φ) :
    EvT [] l G d mLw_law_ 1442 [.ref 98, .ref a1, .ref a2, .ref a3, .int x4, .int x5, u6] [.int s0] M bc bs Φ := by
  refine EvT.istore dLw_law__1442 (by decide) ?_
  show EvT [] l G d mLw_law_ (_ + _) [.ref 98, .ref a1, .ref a2, .ref a3, .int x4, .int x5, .int s0] [] M bc bs Φ
  refine EvT.aload_n dLw_law__1444 rfl ?_
  have g1 := h.1
  replace h := h.2
  exact EvT.vcV (z := mRe_thrown) (ci := 11) [] [] rfl dLw_law__1445 oRe_thrown rfl w1464 iRe_thrown sRe_thrown (by decide) rfl g1 (Nat.le_of_ble_eq_true rfl) h
theorem bLw_law__1448 {l : Launch} {G : Gx} {d : Nat} {bc bs : Nat} {Φ : OutV → Mm → Prop} {L : Nat} {xs : Nat → Int32} (hSC : SC G L xs) (M : Mm) (a1 : Nat) (a2 : Nat) (a3 : Nat) (x4 : Int32) (x5 : Int32) (x6 : Int32) (s0 : Int32)
    (h : (s0 = x5 → (¬ x5 = 0 → EvT [] l G d mLw_law_ 1472 [.ref 98, .ref a1, .ref a2, .ref a3, .int x4, .int x5, .int x6] [] M bc bs Φ) ∧ (x5 = 0 → ((m_sh M a3).1 = 22) ∧ (vp_in 0 (m_sh M a3).2) ∧ ((lg_cmp (m_l M a3 (0 : Int32).toNatClampNeg) x6.toInt64) = 0 → EvT [] l G d mLw_law_ 1472 [.ref 98, .ref a1, .ref a2, .ref a3, .int x4, .int x5, .int x6] [] M bc bs Φ) ∧ (¬ (lg_cmp (m_l M a3 (0 : Int32).toNatClampNeg) x6.toInt64) = 0 → Φ (.inl (some (.int 0))) M))) ∧ (¬ s0 = x5 → Φ (.inl (some (.int 0))) M)) :
    EvT [] l G d mLw_law_ 1448 [.ref 98, .ref a1, .ref a2, .ref a3, .int x4, .int x5, .int x6] [.int s0] M bc bs Φ := by
  refine EvT.iload dLw_law__1448 rfl ?_
  refine EvT.icmp_eq 1455 (by decide) dLw_law__1450 (fun c => ?_) (fun c => ?_)
  · replace h := h.1 c
    refine EvT.iload dLw_law__1455 rfl ?_
    refine EvT.if_ne 1472 (by decide) dLw_law__1457 (fun c => ?_) (fun c => ?_)
    · replace h := h.1 c
      exact h
    · replace h := h.2 c
      refine EvT.aload_n dLw_law__1460 rfl ?_
      refine EvT.iconst (v := 0) dLw_law__1461 (by decide) ?_
      have g1 := h.1
      replace h := h.2
      have g2 := h.1
      replace h := h.2
      refine EvT.lald2 dLw_law__1462 g1 g2 ?_
      refine EvT.iload dLw_law__1463 rfl ?_
      refine EvT.i2l dLw_law__1465 ?_
      refine EvT.lcmp dLw_law__1466 ?_
      refine EvT.if_eq 1472 (by decide) dLw_law__1467 (fun c => ?_) (fun c => ?_)
      · replace h := h.1 c
        exact h
      · replace h := h.2 c
        refine EvT.iconst (v := 0) dLw_law__1470 (by decide) ?_
        exact EvT.iret dLw_law__1471 rfl rfl h
  · replace h := h.2 c
    refine EvT.iconst (v := 0) dLw_law__1453 (by decide) ?_
    exact EvT.iret dLw_law__1454 rfl rfl h
theorem bLw_law__1472 {l : Launch} {G : Gx} {d : Nat} {bc bs : Nat} {Φ : OutV → Mm → Prop} {L : Nat} {xs : Nat → Int32} (hSC : SC G L xs) (M : Mm) (a1 : Nat) (a2 : Nat) (a3 : Nat) (x4 : Int32) (x5 : Int32) (x6 : Int32)
    (h : EvT [] l G d mLw_law_ 1843 [.ref 98, .ref a1, .ref a2, .ref a3, .int x4, .int x5, .int x6] [] M bc bs Φ) :
    EvT [] l G d mLw_law_ 1472 [.ref 98, .ref a1, .ref a2, .ref a3, .int x4, .int x5, .int x6] [] M bc bs Φ := by
  refine EvT.goto 1843 dLw_law__1472 (by decide) ?_
  exact h
theorem w1194 : Cond.methodLink "BowingRowLaw" 174 ⟨"BowingRowLaw", "best", "(LBowingRow;II[J)I"⟩ ∈ lwg := lwg_of 1194 (by decide +kernel) (by decide +kernel)
theorem bLw_law__1475 {l : Launch} {G : Gx} {d : Nat} {bc bs : Nat} {Φ : OutV → Mm → Prop} {L : Nat} {xs : Nat → Int32} (hSC : SC G L xs) (M : Mm) (a1 : Nat) (a2 : Nat) (a3 : Nat) (x4 : Int32) (u5 : Value) (u6 : Value)
    (h : (vp_in (x4 + 1) L) ∧ (vp_in (x4 + 2) L) ∧ CallTH l G d mLw_law_ 1492 [.ref 98, .ref a1, .ref a2, .ref a3, .int x4, u5, u6] [] mLw_best hLw_best [.ref a1, .int (xs (x4 + 1).toNatClampNeg), .int (xs (x4 + 2).toNatClampNeg), .ref a3] M bc bs Φ) :
    EvT [] l G d mLw_law_ 1475 [.ref 98, .ref a1, .ref a2, .ref a3, .int x4, u5, u6] [] M bc bs Φ := by
  refine EvT.aload_n dLw_law__1475 rfl ?_
  refine EvT.aload_n dLw_law__1476 rfl ?_
  refine EvT.iload dLw_law__1477 rfl ?_
  refine EvT.iconst (v := 1) dLw_law__1479 (by decide) ?_
  refine EvT.iadd dLw_law__1480 ?_
  have g1 := h.1
  replace h := h.2
  refine EvT.scld hSC dLw_law__1481 g1 ?_
  refine EvT.aload_n dLw_law__1482 rfl ?_
  refine EvT.iload dLw_law__1483 rfl ?_
  refine EvT.iconst (v := 2) dLw_law__1485 (by decide) ?_
  refine EvT.iadd dLw_law__1486 ?_
  have g2 := h.1
  replace h := h.2
  refine EvT.scld hSC dLw_law__1487 g2 ?_
  refine EvT.aload_n dLw_law__1488 rfl ?_
  exact EvT.vcH (z := mLw_best) (hh := hLw_best) [.ref a1, .int (xs (x4 + 1).toNatClampNeg), .int (xs (x4 + 2).toNatClampNeg), .ref a3] [] rfl dLw_law__1489 oLw_best rfl w1194 iLw_best (Nat.le_of_ble_eq_true rfl) h
theorem w1761 : Cond.methodLink "BowingRowLaw" 176 ⟨"BowingRowModel", "best", "(II)I"⟩ ∈ lwg := lwg_of 1761 (by decide +kernel) (by decide +kernel)
theorem bLw_law__1492 {l : Launch} {G : Gx} {d : Nat} {bc bs : Nat} {Φ : OutV → Mm → Prop} {L : Nat} {xs : Nat → Int32} (hSC : SC G L xs) (M : Mm) (a1 : Nat) (a2 : Nat) (a3 : Nat) (x4 : Int32) (u5 : Value) (u6 : Value) (s0 : Int32)
    (h : (vp_in (x4 + 1) L) ∧ (vp_in (x4 + 2) L) ∧ ((m_sh M a2).1 = 11) ∧ CallTC l G d mLw_law_ 1510 [.ref 98, .ref a1, .ref a2, .ref a3, .int x4, .int s0, u6] [] mRe_best [.ref a2, .int (xs (x4 + 1).toNatClampNeg), .int (xs (x4 + 2).toNatClampNeg)] M bc bs Φ) :
    EvT [] l G d mLw_law_ 1492 [.ref 98, .ref a1, .ref a2, .ref a3, .int x4, u5, u6] [.int s0] M bc bs Φ := by
  refine EvT.istore dLw_law__1492 (by decide) ?_
  show EvT [] l G d mLw_law_ (_ + _) [.ref 98, .ref a1, .ref a2, .ref a3, .int x4, .int s0, u6] [] M bc bs Φ
  refine EvT.aload_n dLw_law__1494 rfl ?_
  refine EvT.aload_n dLw_law__1495 rfl ?_
  refine EvT.iload dLw_law__1496 rfl ?_
  refine EvT.iconst (v := 1) dLw_law__1498 (by decide) ?_
  refine EvT.iadd dLw_law__1499 ?_
  have g1 := h.1
  replace h := h.2
  refine EvT.scld hSC dLw_law__1500 g1 ?_
  refine EvT.aload_n dLw_law__1501 rfl ?_
  refine EvT.iload dLw_law__1502 rfl ?_
  refine EvT.iconst (v := 2) dLw_law__1504 (by decide) ?_
  refine EvT.iadd dLw_law__1505 ?_
  have g2 := h.1
  replace h := h.2
  refine EvT.scld hSC dLw_law__1506 g2 ?_
  have g3 := h.1
  replace h := h.2
  exact EvT.vcV (z := mRe_best) (ci := 11) [.int (xs (x4 + 1).toNatClampNeg), .int (xs (x4 + 2).toNatClampNeg)] [] rfl dLw_law__1507 oRe_best rfl w1761 iRe_best sRe_best (by decide) rfl g3 (Nat.le_of_ble_eq_true rfl) h
theorem bLw_law__1510 {l : Launch} {G : Gx} {d : Nat} {bc bs : Nat} {Φ : OutV → Mm → Prop} {L : Nat} {xs : Nat → Int32} (hSC : SC G L xs) (M : Mm) (a1 : Nat) (a2 : Nat) (a3 : Nat) (x4 : Int32) (x5 : Int32) (u6 : Value) (s0 : Int32)
    (h : ((m_sh M a2).1 = 11) ∧ CallTC l G d mLw_law_ 1516 [.ref 98, .ref a1, .ref a2, .ref a3, .int x4, .int x5, .int s0] [] mRe_thrown [.ref a2] M bc bs Φ) :
    EvT [] l G d mLw_law_ 1510 [.ref 98, .ref a1, .ref a2, .ref a3, .int x4, .int x5, u6] [.int s0] M bc bs Φ := by
  refine EvT.istore dLw_law__1510 (by decide) ?_
  show EvT [] l G d mLw_law_ (_ + _) [.ref 98, .ref a1, .ref a2, .ref a3, .int x4, .int x5, .int s0] [] M bc bs Φ
  refine EvT.aload_n dLw_law__1512 rfl ?_
  have g1 := h.1
  replace h := h.2
  exact EvT.vcV (z := mRe_thrown) (ci := 11) [] [] rfl dLw_law__1513 oRe_thrown rfl w1464 iRe_thrown sRe_thrown (by decide) rfl g1 (Nat.le_of_ble_eq_true rfl) h
theorem bLw_law__1516 {l : Launch} {G : Gx} {d : Nat} {bc bs : Nat} {Φ : OutV → Mm → Prop} {L : Nat} {xs : Nat → Int32} (hSC : SC G L xs) (M : Mm) (a1 : Nat) (a2 : Nat) (a3 : Nat) (x4 : Int32) (x5 : Int32) (x6 : Int32) (s0 : Int32)
    (h : (s0 = x5 → (¬ x5 = 0 → EvT [] l G d mLw_law_ 1540 [.ref 98, .ref a1, .ref a2, .ref a3, .int x4, .int x5, .int x6] [] M bc bs Φ) ∧ (x5 = 0 → ((m_sh M a3).1 = 22) ∧ (vp_in 0 (m_sh M a3).2) ∧ ((lg_cmp (m_l M a3 (0 : Int32).toNatClampNeg) x6.toInt64) = 0 → EvT [] l G d mLw_law_ 1540 [.ref 98, .ref a1, .ref a2, .ref a3, .int x4, .int x5, .int x6] [] M bc bs Φ) ∧ (¬ (lg_cmp (m_l M a3 (0 : Int32).toNatClampNeg) x6.toInt64) = 0 → Φ (.inl (some (.int 0))) M))) ∧ (¬ s0 = x5 → Φ (.inl (some (.int 0))) M)) :
    EvT [] l G d mLw_law_ 1516 [.ref 98, .ref a1, .ref a2, .ref a3, .int x4, .int x5, .int x6] [.int s0] M bc bs Φ := by
  refine EvT.iload dLw_law__1516 rfl ?_
  refine EvT.icmp_eq 1523 (by decide) dLw_law__1518 (fun c => ?_) (fun c => ?_)
  · replace h := h.1 c
    refine EvT.iload dLw_law__1523 rfl ?_
    refine EvT.if_ne 1540 (by decide) dLw_law__1525 (fun c => ?_) (fun c => ?_)
    · replace h := h.1 c
      exact h
    · replace h := h.2 c
      refine EvT.aload_n dLw_law__1528 rfl ?_
      refine EvT.iconst (v := 0) dLw_law__1529 (by decide) ?_
      have g1 := h.1
      replace h := h.2
      have g2 := h.1
      replace h := h.2
      refine EvT.lald2 dLw_law__1530 g1 g2 ?_
      refine EvT.iload dLw_law__1531 rfl ?_
      refine EvT.i2l dLw_law__1533 ?_
      refine EvT.lcmp dLw_law__1534 ?_
      refine EvT.if_eq 1540 (by decide) dLw_law__1535 (fun c => ?_) (fun c => ?_)
      · replace h := h.1 c
        exact h
      · replace h := h.2 c
        refine EvT.iconst (v := 0) dLw_law__1538 (by decide) ?_
        exact EvT.iret dLw_law__1539 rfl rfl h
  · replace h := h.2 c
    refine EvT.iconst (v := 0) dLw_law__1521 (by decide) ?_
    exact EvT.iret dLw_law__1522 rfl rfl h
theorem bLw_law__1540 {l : Launch} {G : Gx} {d : Nat} {bc bs : Nat} {Φ : OutV → Mm → Prop} {L : Nat} {xs : Nat → Int32} (hSC : SC G L xs) (M : Mm) (a1 : Nat) (a2 : Nat) (a3 : Nat) (x4 : Int32) (x5 : Int32) (x6 : Int32)
    (h : EvT [] l G d mLw_law_ 1843 [.ref 98, .ref a1, .ref a2, .ref a3, .int x4, .int x5, .int x6] [] M bc bs Φ) :
    EvT [] l G d mLw_law_ 1540 [.ref 98, .ref a1, .ref a2, .ref a3, .int x4, .int x5, .int x6] [] M bc bs Φ := by
  refine EvT.goto 1843 dLw_law__1540 (by decide) ?_
  exact h
theorem w1204 : Cond.methodLink "BowingRowLaw" 177 ⟨"BowingRowLaw", "gain", "(LBowingRow;II[J)I"⟩ ∈ lwg := lwg_of 1204 (by decide +kernel) (by decide +kernel)
theorem bLw_law__1543 {l : Launch} {G : Gx} {d : Nat} {bc bs : Nat} {Φ : OutV → Mm → Prop} {L : Nat} {xs : Nat → Int32} (hSC : SC G L xs) (M : Mm) (a1 : Nat) (a2 : Nat) (a3 : Nat) (x4 : Int32) (u5 : Value) (u6 : Value)
    (h : (vp_in (x4 + 1) L) ∧ (vp_in (x4 + 2) L) ∧ CallTH l G d mLw_law_ 1560 [.ref 98, .ref a1, .ref a2, .ref a3, .int x4, u5, u6] [] mLw_gain hLw_gain [.ref a1, .int (xs (x4 + 1).toNatClampNeg), .int (xs (x4 + 2).toNatClampNeg), .ref a3] M bc bs Φ) :
    EvT [] l G d mLw_law_ 1543 [.ref 98, .ref a1, .ref a2, .ref a3, .int x4, u5, u6] [] M bc bs Φ := by
  refine EvT.aload_n dLw_law__1543 rfl ?_
  refine EvT.aload_n dLw_law__1544 rfl ?_
  refine EvT.iload dLw_law__1545 rfl ?_
  refine EvT.iconst (v := 1) dLw_law__1547 (by decide) ?_
  refine EvT.iadd dLw_law__1548 ?_
  have g1 := h.1
  replace h := h.2
  refine EvT.scld hSC dLw_law__1549 g1 ?_
  refine EvT.aload_n dLw_law__1550 rfl ?_
  refine EvT.iload dLw_law__1551 rfl ?_
  refine EvT.iconst (v := 2) dLw_law__1553 (by decide) ?_
  refine EvT.iadd dLw_law__1554 ?_
  have g2 := h.1
  replace h := h.2
  refine EvT.scld hSC dLw_law__1555 g2 ?_
  refine EvT.aload_n dLw_law__1556 rfl ?_
  exact EvT.vcH (z := mLw_gain) (hh := hLw_gain) [.ref a1, .int (xs (x4 + 1).toNatClampNeg), .int (xs (x4 + 2).toNatClampNeg), .ref a3] [] rfl dLw_law__1557 oLw_gain rfl w1204 iLw_gain (Nat.le_of_ble_eq_true rfl) h
theorem w1765 : Cond.methodLink "BowingRowLaw" 179 ⟨"BowingRowModel", "gain", "(II)I"⟩ ∈ lwg := lwg_of 1765 (by decide +kernel) (by decide +kernel)
theorem bLw_law__1560 {l : Launch} {G : Gx} {d : Nat} {bc bs : Nat} {Φ : OutV → Mm → Prop} {L : Nat} {xs : Nat → Int32} (hSC : SC G L xs) (M : Mm) (a1 : Nat) (a2 : Nat) (a3 : Nat) (x4 : Int32) (u5 : Value) (u6 : Value) (s0 : Int32)
    (h : (vp_in (x4 + 1) L) ∧ (vp_in (x4 + 2) L) ∧ ((m_sh M a2).1 = 11) ∧ CallTC l G d mLw_law_ 1578 [.ref 98, .ref a1, .ref a2, .ref a3, .int x4, .int s0, u6] [] mRe_gain [.ref a2, .int (xs (x4 + 1).toNatClampNeg), .int (xs (x4 + 2).toNatClampNeg)] M bc bs Φ) :
    EvT [] l G d mLw_law_ 1560 [.ref 98, .ref a1, .ref a2, .ref a3, .int x4, u5, u6] [.int s0] M bc bs Φ := by
  refine EvT.istore dLw_law__1560 (by decide) ?_
  show EvT [] l G d mLw_law_ (_ + _) [.ref 98, .ref a1, .ref a2, .ref a3, .int x4, .int s0, u6] [] M bc bs Φ
  refine EvT.aload_n dLw_law__1562 rfl ?_
  refine EvT.aload_n dLw_law__1563 rfl ?_
  refine EvT.iload dLw_law__1564 rfl ?_
  refine EvT.iconst (v := 1) dLw_law__1566 (by decide) ?_
  refine EvT.iadd dLw_law__1567 ?_
  have g1 := h.1
  replace h := h.2
  refine EvT.scld hSC dLw_law__1568 g1 ?_
  refine EvT.aload_n dLw_law__1569 rfl ?_
  refine EvT.iload dLw_law__1570 rfl ?_
  refine EvT.iconst (v := 2) dLw_law__1572 (by decide) ?_
  refine EvT.iadd dLw_law__1573 ?_
  have g2 := h.1
  replace h := h.2
  refine EvT.scld hSC dLw_law__1574 g2 ?_
  have g3 := h.1
  replace h := h.2
  exact EvT.vcV (z := mRe_gain) (ci := 11) [.int (xs (x4 + 1).toNatClampNeg), .int (xs (x4 + 2).toNatClampNeg)] [] rfl dLw_law__1575 oRe_gain rfl w1765 iRe_gain sRe_gain (by decide) rfl g3 (Nat.le_of_ble_eq_true rfl) h
theorem bLw_law__1578 {l : Launch} {G : Gx} {d : Nat} {bc bs : Nat} {Φ : OutV → Mm → Prop} {L : Nat} {xs : Nat → Int32} (hSC : SC G L xs) (M : Mm) (a1 : Nat) (a2 : Nat) (a3 : Nat) (x4 : Int32) (x5 : Int32) (u6 : Value) (s0 : Int32)
    (h : ((m_sh M a2).1 = 11) ∧ CallTC l G d mLw_law_ 1584 [.ref 98, .ref a1, .ref a2, .ref a3, .int x4, .int x5, .int s0] [] mRe_thrown [.ref a2] M bc bs Φ) :
    EvT [] l G d mLw_law_ 1578 [.ref 98, .ref a1, .ref a2, .ref a3, .int x4, .int x5, u6] [.int s0] M bc bs Φ := by
  refine EvT.istore dLw_law__1578 (by decide) ?_
  show EvT [] l G d mLw_law_ (_ + _) [.ref 98, .ref a1, .ref a2, .ref a3, .int x4, .int x5, .int s0] [] M bc bs Φ
  refine EvT.aload_n dLw_law__1580 rfl ?_
  have g1 := h.1
  replace h := h.2
  exact EvT.vcV (z := mRe_thrown) (ci := 11) [] [] rfl dLw_law__1581 oRe_thrown rfl w1464 iRe_thrown sRe_thrown (by decide) rfl g1 (Nat.le_of_ble_eq_true rfl) h
theorem bLw_law__1584 {l : Launch} {G : Gx} {d : Nat} {bc bs : Nat} {Φ : OutV → Mm → Prop} {L : Nat} {xs : Nat → Int32} (hSC : SC G L xs) (M : Mm) (a1 : Nat) (a2 : Nat) (a3 : Nat) (x4 : Int32) (x5 : Int32) (x6 : Int32) (s0 : Int32)
    (h : (s0 = x5 → (¬ x5 = 0 → EvT [] l G d mLw_law_ 1608 [.ref 98, .ref a1, .ref a2, .ref a3, .int x4, .int x5, .int x6] [] M bc bs Φ) ∧ (x5 = 0 → ((m_sh M a3).1 = 22) ∧ (vp_in 0 (m_sh M a3).2) ∧ ((lg_cmp (m_l M a3 (0 : Int32).toNatClampNeg) x6.toInt64) = 0 → EvT [] l G d mLw_law_ 1608 [.ref 98, .ref a1, .ref a2, .ref a3, .int x4, .int x5, .int x6] [] M bc bs Φ) ∧ (¬ (lg_cmp (m_l M a3 (0 : Int32).toNatClampNeg) x6.toInt64) = 0 → Φ (.inl (some (.int 0))) M))) ∧ (¬ s0 = x5 → Φ (.inl (some (.int 0))) M)) :
    EvT [] l G d mLw_law_ 1584 [.ref 98, .ref a1, .ref a2, .ref a3, .int x4, .int x5, .int x6] [.int s0] M bc bs Φ := by
  refine EvT.iload dLw_law__1584 rfl ?_
  refine EvT.icmp_eq 1591 (by decide) dLw_law__1586 (fun c => ?_) (fun c => ?_)
  · replace h := h.1 c
    refine EvT.iload dLw_law__1591 rfl ?_
    refine EvT.if_ne 1608 (by decide) dLw_law__1593 (fun c => ?_) (fun c => ?_)
    · replace h := h.1 c
      exact h
    · replace h := h.2 c
      refine EvT.aload_n dLw_law__1596 rfl ?_
      refine EvT.iconst (v := 0) dLw_law__1597 (by decide) ?_
      have g1 := h.1
      replace h := h.2
      have g2 := h.1
      replace h := h.2
      refine EvT.lald2 dLw_law__1598 g1 g2 ?_
      refine EvT.iload dLw_law__1599 rfl ?_
      refine EvT.i2l dLw_law__1601 ?_
      refine EvT.lcmp dLw_law__1602 ?_
      refine EvT.if_eq 1608 (by decide) dLw_law__1603 (fun c => ?_) (fun c => ?_)
      · replace h := h.1 c
        exact h
      · replace h := h.2 c
        refine EvT.iconst (v := 0) dLw_law__1606 (by decide) ?_
        exact EvT.iret dLw_law__1607 rfl rfl h
  · replace h := h.2 c
    refine EvT.iconst (v := 0) dLw_law__1589 (by decide) ?_
    exact EvT.iret dLw_law__1590 rfl rfl h
theorem bLw_law__1608 {l : Launch} {G : Gx} {d : Nat} {bc bs : Nat} {Φ : OutV → Mm → Prop} {L : Nat} {xs : Nat → Int32} (hSC : SC G L xs) (M : Mm) (a1 : Nat) (a2 : Nat) (a3 : Nat) (x4 : Int32) (x5 : Int32) (x6 : Int32)
    (h : EvT [] l G d mLw_law_ 1843 [.ref 98, .ref a1, .ref a2, .ref a3, .int x4, .int x5, .int x6] [] M bc bs Φ) :
    EvT [] l G d mLw_law_ 1608 [.ref 98, .ref a1, .ref a2, .ref a3, .int x4, .int x5, .int x6] [] M bc bs Φ := by
  refine EvT.goto 1843 dLw_law__1608 (by decide) ?_
  exact h
theorem w1211 : Cond.methodLink "BowingRowLaw" 180 ⟨"BowingRowLaw", "rest", "(LBowingRow;I[J)I"⟩ ∈ lwg := lwg_of 1211 (by decide +kernel) (by decide +kernel)
theorem bLw_law__1611 {l : Launch} {G : Gx} {d : Nat} {bc bs : Nat} {Φ : OutV → Mm → Prop} {L : Nat} {xs : Nat → Int32} (hSC : SC G L xs) (M : Mm) (a1 : Nat) (a2 : Nat) (a3 : Nat) (x4 : Int32) (u5 : Value) (u6 : Value)
    (h : (vp_in (x4 + 1) L) ∧ CallTH l G d mLw_law_ 1622 [.ref 98, .ref a1, .ref a2, .ref a3, .int x4, u5, u6] [] mLw_rest hLw_rest [.ref a1, .int (xs (x4 + 1).toNatClampNeg), .ref a3] M bc bs Φ) :
    EvT [] l G d mLw_law_ 1611 [.ref 98, .ref a1, .ref a2, .ref a3, .int x4, u5, u6] [] M bc bs Φ := by
  refine EvT.aload_n dLw_law__1611 rfl ?_
  refine EvT.aload_n dLw_law__1612 rfl ?_
  refine EvT.iload dLw_law__1613 rfl ?_
  refine EvT.iconst (v := 1) dLw_law__1615 (by decide) ?_
  refine EvT.iadd dLw_law__1616 ?_
  have g1 := h.1
  replace h := h.2
  refine EvT.scld hSC dLw_law__1617 g1 ?_
  refine EvT.aload_n dLw_law__1618 rfl ?_
  exact EvT.vcH (z := mLw_rest) (hh := hLw_rest) [.ref a1, .int (xs (x4 + 1).toNatClampNeg), .ref a3] [] rfl dLw_law__1619 oLw_rest rfl w1211 iLw_rest (Nat.le_of_ble_eq_true rfl) h
theorem w1773 : Cond.methodLink "BowingRowLaw" 182 ⟨"BowingRowModel", "rest", "(I)I"⟩ ∈ lwg := lwg_of 1773 (by decide +kernel) (by decide +kernel)
theorem bLw_law__1622 {l : Launch} {G : Gx} {d : Nat} {bc bs : Nat} {Φ : OutV → Mm → Prop} {L : Nat} {xs : Nat → Int32} (hSC : SC G L xs) (M : Mm) (a1 : Nat) (a2 : Nat) (a3 : Nat) (x4 : Int32) (u5 : Value) (u6 : Value) (s0 : Int32)
    (h : (vp_in (x4 + 1) L) ∧ ((m_sh M a2).1 = 11) ∧ CallTC l G d mLw_law_ 1634 [.ref 98, .ref a1, .ref a2, .ref a3, .int x4, .int s0, u6] [] mRe_rest [.ref a2, .int (xs (x4 + 1).toNatClampNeg)] M bc bs Φ) :
    EvT [] l G d mLw_law_ 1622 [.ref 98, .ref a1, .ref a2, .ref a3, .int x4, u5, u6] [.int s0] M bc bs Φ := by
  refine EvT.istore dLw_law__1622 (by decide) ?_
  show EvT [] l G d mLw_law_ (_ + _) [.ref 98, .ref a1, .ref a2, .ref a3, .int x4, .int s0, u6] [] M bc bs Φ
  refine EvT.aload_n dLw_law__1624 rfl ?_
  refine EvT.aload_n dLw_law__1625 rfl ?_
  refine EvT.iload dLw_law__1626 rfl ?_
  refine EvT.iconst (v := 1) dLw_law__1628 (by decide) ?_
  refine EvT.iadd dLw_law__1629 ?_
  have g1 := h.1
  replace h := h.2
  refine EvT.scld hSC dLw_law__1630 g1 ?_
  have g2 := h.1
  replace h := h.2
  exact EvT.vcV (z := mRe_rest) (ci := 11) [.int (xs (x4 + 1).toNatClampNeg)] [] rfl dLw_law__1631 oRe_rest rfl w1773 iRe_rest sRe_rest (by decide) rfl g2 (Nat.le_of_ble_eq_true rfl) h
theorem bLw_law__1634 {l : Launch} {G : Gx} {d : Nat} {bc bs : Nat} {Φ : OutV → Mm → Prop} {L : Nat} {xs : Nat → Int32} (hSC : SC G L xs) (M : Mm) (a1 : Nat) (a2 : Nat) (a3 : Nat) (x4 : Int32) (x5 : Int32) (u6 : Value) (s0 : Int32)
    (h : ((m_sh M a2).1 = 11) ∧ CallTC l G d mLw_law_ 1640 [.ref 98, .ref a1, .ref a2, .ref a3, .int x4, .int x5, .int s0] [] mRe_thrown [.ref a2] M bc bs Φ) :
    EvT [] l G d mLw_law_ 1634 [.ref 98, .ref a1, .ref a2, .ref a3, .int x4, .int x5, u6] [.int s0] M bc bs Φ := by
  refine EvT.istore dLw_law__1634 (by decide) ?_
  show EvT [] l G d mLw_law_ (_ + _) [.ref 98, .ref a1, .ref a2, .ref a3, .int x4, .int x5, .int s0] [] M bc bs Φ
  refine EvT.aload_n dLw_law__1636 rfl ?_
  have g1 := h.1
  replace h := h.2
  exact EvT.vcV (z := mRe_thrown) (ci := 11) [] [] rfl dLw_law__1637 oRe_thrown rfl w1464 iRe_thrown sRe_thrown (by decide) rfl g1 (Nat.le_of_ble_eq_true rfl) h
theorem bLw_law__1640 {l : Launch} {G : Gx} {d : Nat} {bc bs : Nat} {Φ : OutV → Mm → Prop} {L : Nat} {xs : Nat → Int32} (hSC : SC G L xs) (M : Mm) (a1 : Nat) (a2 : Nat) (a3 : Nat) (x4 : Int32) (x5 : Int32) (x6 : Int32) (s0 : Int32)
    (h : (s0 = x5 → (¬ x5 = 0 → EvT [] l G d mLw_law_ 1664 [.ref 98, .ref a1, .ref a2, .ref a3, .int x4, .int x5, .int x6] [] M bc bs Φ) ∧ (x5 = 0 → ((m_sh M a3).1 = 22) ∧ (vp_in 0 (m_sh M a3).2) ∧ ((lg_cmp (m_l M a3 (0 : Int32).toNatClampNeg) x6.toInt64) = 0 → EvT [] l G d mLw_law_ 1664 [.ref 98, .ref a1, .ref a2, .ref a3, .int x4, .int x5, .int x6] [] M bc bs Φ) ∧ (¬ (lg_cmp (m_l M a3 (0 : Int32).toNatClampNeg) x6.toInt64) = 0 → Φ (.inl (some (.int 0))) M))) ∧ (¬ s0 = x5 → Φ (.inl (some (.int 0))) M)) :
    EvT [] l G d mLw_law_ 1640 [.ref 98, .ref a1, .ref a2, .ref a3, .int x4, .int x5, .int x6] [.int s0] M bc bs Φ := by
  refine EvT.iload dLw_law__1640 rfl ?_
  refine EvT.icmp_eq 1647 (by decide) dLw_law__1642 (fun c => ?_) (fun c => ?_)
  · replace h := h.1 c
    refine EvT.iload dLw_law__1647 rfl ?_
    refine EvT.if_ne 1664 (by decide) dLw_law__1649 (fun c => ?_) (fun c => ?_)
    · replace h := h.1 c
      exact h
    · replace h := h.2 c
      refine EvT.aload_n dLw_law__1652 rfl ?_
      refine EvT.iconst (v := 0) dLw_law__1653 (by decide) ?_
      have g1 := h.1
      replace h := h.2
      have g2 := h.1
      replace h := h.2
      refine EvT.lald2 dLw_law__1654 g1 g2 ?_
      refine EvT.iload dLw_law__1655 rfl ?_
      refine EvT.i2l dLw_law__1657 ?_
      refine EvT.lcmp dLw_law__1658 ?_
      refine EvT.if_eq 1664 (by decide) dLw_law__1659 (fun c => ?_) (fun c => ?_)
      · replace h := h.1 c
        exact h
      · replace h := h.2 c
        refine EvT.iconst (v := 0) dLw_law__1662 (by decide) ?_
        exact EvT.iret dLw_law__1663 rfl rfl h
  · replace h := h.2 c
    refine EvT.iconst (v := 0) dLw_law__1645 (by decide) ?_
    exact EvT.iret dLw_law__1646 rfl rfl h
theorem bLw_law__1664 {l : Launch} {G : Gx} {d : Nat} {bc bs : Nat} {Φ : OutV → Mm → Prop} {L : Nat} {xs : Nat → Int32} (hSC : SC G L xs) (M : Mm) (a1 : Nat) (a2 : Nat) (a3 : Nat) (x4 : Int32) (x5 : Int32) (x6 : Int32)
    (h : EvT [] l G d mLw_law_ 1843 [.ref 98, .ref a1, .ref a2, .ref a3, .int x4, .int x5, .int x6] [] M bc bs Φ) :
    EvT [] l G d mLw_law_ 1664 [.ref 98, .ref a1, .ref a2, .ref a3, .int x4, .int x5, .int x6] [] M bc bs Φ := by
  refine EvT.goto 1843 dLw_law__1664 (by decide) ?_
  exact h
theorem w1261 : Cond.methodLink "BowingRowLaw" 183 ⟨"BowingRowLaw", "polite", "(LBowingRow;I[J)I"⟩ ∈ lwg := lwg_of 1261 (by decide +kernel) (by decide +kernel)
theorem bLw_law__1667 {l : Launch} {G : Gx} {d : Nat} {bc bs : Nat} {Φ : OutV → Mm → Prop} {L : Nat} {xs : Nat → Int32} (hSC : SC G L xs) (M : Mm) (a1 : Nat) (a2 : Nat) (a3 : Nat) (x4 : Int32) (u5 : Value) (u6 : Value)
    (h : (vp_in (x4 + 1) L) ∧ CallTH l G d mLw_law_ 1678 [.ref 98, .ref a1, .ref a2, .ref a3, .int x4, u5, u6] [] mLw_polite hLw_polite [.ref a1, .int (xs (x4 + 1).toNatClampNeg), .ref a3] M bc bs Φ) :
    EvT [] l G d mLw_law_ 1667 [.ref 98, .ref a1, .ref a2, .ref a3, .int x4, u5, u6] [] M bc bs Φ := by
  refine EvT.aload_n dLw_law__1667 rfl ?_
  refine EvT.aload_n dLw_law__1668 rfl ?_
  refine EvT.iload dLw_law__1669 rfl ?_
  refine EvT.iconst (v := 1) dLw_law__1671 (by decide) ?_
  refine EvT.iadd dLw_law__1672 ?_
  have g1 := h.1
  replace h := h.2
  refine EvT.scld hSC dLw_law__1673 g1 ?_
  refine EvT.aload_n dLw_law__1674 rfl ?_
  exact EvT.vcH (z := mLw_polite) (hh := hLw_polite) [.ref a1, .int (xs (x4 + 1).toNatClampNeg), .ref a3] [] rfl dLw_law__1675 oLw_polite rfl w1261 iLw_polite (Nat.le_of_ble_eq_true rfl) h
theorem w1792 : Cond.methodLink "BowingRowLaw" 185 ⟨"BowingRowModel", "polite", "(I)I"⟩ ∈ lwg := lwg_of 1792 (by decide +kernel) (by decide +kernel)
theorem bLw_law__1678 {l : Launch} {G : Gx} {d : Nat} {bc bs : Nat} {Φ : OutV → Mm → Prop} {L : Nat} {xs : Nat → Int32} (hSC : SC G L xs) (M : Mm) (a1 : Nat) (a2 : Nat) (a3 : Nat) (x4 : Int32) (u5 : Value) (u6 : Value) (s0 : Int32)
    (h : (vp_in (x4 + 1) L) ∧ ((m_sh M a2).1 = 11) ∧ CallTC l G d mLw_law_ 1690 [.ref 98, .ref a1, .ref a2, .ref a3, .int x4, .int s0, u6] [] mRe_polite [.ref a2, .int (xs (x4 + 1).toNatClampNeg)] M bc bs Φ) :
    EvT [] l G d mLw_law_ 1678 [.ref 98, .ref a1, .ref a2, .ref a3, .int x4, u5, u6] [.int s0] M bc bs Φ := by
  refine EvT.istore dLw_law__1678 (by decide) ?_
  show EvT [] l G d mLw_law_ (_ + _) [.ref 98, .ref a1, .ref a2, .ref a3, .int x4, .int s0, u6] [] M bc bs Φ
  refine EvT.aload_n dLw_law__1680 rfl ?_
  refine EvT.aload_n dLw_law__1681 rfl ?_
  refine EvT.iload dLw_law__1682 rfl ?_
  refine EvT.iconst (v := 1) dLw_law__1684 (by decide) ?_
  refine EvT.iadd dLw_law__1685 ?_
  have g1 := h.1
  replace h := h.2
  refine EvT.scld hSC dLw_law__1686 g1 ?_
  have g2 := h.1
  replace h := h.2
  exact EvT.vcV (z := mRe_polite) (ci := 11) [.int (xs (x4 + 1).toNatClampNeg)] [] rfl dLw_law__1687 oRe_polite rfl w1792 iRe_polite sRe_polite (by decide) rfl g2 (Nat.le_of_ble_eq_true rfl) h
theorem bLw_law__1690 {l : Launch} {G : Gx} {d : Nat} {bc bs : Nat} {Φ : OutV → Mm → Prop} {L : Nat} {xs : Nat → Int32} (hSC : SC G L xs) (M : Mm) (a1 : Nat) (a2 : Nat) (a3 : Nat) (x4 : Int32) (x5 : Int32) (u6 : Value) (s0 : Int32)
    (h : ((m_sh M a2).1 = 11) ∧ CallTC l G d mLw_law_ 1696 [.ref 98, .ref a1, .ref a2, .ref a3, .int x4, .int x5, .int s0] [] mRe_thrown [.ref a2] M bc bs Φ) :
    EvT [] l G d mLw_law_ 1690 [.ref 98, .ref a1, .ref a2, .ref a3, .int x4, .int x5, u6] [.int s0] M bc bs Φ := by
  refine EvT.istore dLw_law__1690 (by decide) ?_
  show EvT [] l G d mLw_law_ (_ + _) [.ref 98, .ref a1, .ref a2, .ref a3, .int x4, .int x5, .int s0] [] M bc bs Φ
  refine EvT.aload_n dLw_law__1692 rfl ?_
  have g1 := h.1
  replace h := h.2
  exact EvT.vcV (z := mRe_thrown) (ci := 11) [] [] rfl dLw_law__1693 oRe_thrown rfl w1464 iRe_thrown sRe_thrown (by decide) rfl g1 (Nat.le_of_ble_eq_true rfl) h
theorem bLw_law__1696 {l : Launch} {G : Gx} {d : Nat} {bc bs : Nat} {Φ : OutV → Mm → Prop} {L : Nat} {xs : Nat → Int32} (hSC : SC G L xs) (M : Mm) (a1 : Nat) (a2 : Nat) (a3 : Nat) (x4 : Int32) (x5 : Int32) (x6 : Int32) (s0 : Int32)
    (h : (s0 = x5 → (¬ x5 = 0 → EvT [] l G d mLw_law_ 1720 [.ref 98, .ref a1, .ref a2, .ref a3, .int x4, .int x5, .int x6] [] M bc bs Φ) ∧ (x5 = 0 → ((m_sh M a3).1 = 22) ∧ (vp_in 0 (m_sh M a3).2) ∧ ((lg_cmp (m_l M a3 (0 : Int32).toNatClampNeg) x6.toInt64) = 0 → EvT [] l G d mLw_law_ 1720 [.ref 98, .ref a1, .ref a2, .ref a3, .int x4, .int x5, .int x6] [] M bc bs Φ) ∧ (¬ (lg_cmp (m_l M a3 (0 : Int32).toNatClampNeg) x6.toInt64) = 0 → Φ (.inl (some (.int 0))) M))) ∧ (¬ s0 = x5 → Φ (.inl (some (.int 0))) M)) :
    EvT [] l G d mLw_law_ 1696 [.ref 98, .ref a1, .ref a2, .ref a3, .int x4, .int x5, .int x6] [.int s0] M bc bs Φ := by
  refine EvT.iload dLw_law__1696 rfl ?_
  refine EvT.icmp_eq 1703 (by decide) dLw_law__1698 (fun c => ?_) (fun c => ?_)
  · replace h := h.1 c
    refine EvT.iload dLw_law__1703 rfl ?_
    refine EvT.if_ne 1720 (by decide) dLw_law__1705 (fun c => ?_) (fun c => ?_)
    · replace h := h.1 c
      exact h
    · replace h := h.2 c
      refine EvT.aload_n dLw_law__1708 rfl ?_
      refine EvT.iconst (v := 0) dLw_law__1709 (by decide) ?_
      have g1 := h.1
      replace h := h.2
      have g2 := h.1
      replace h := h.2
      refine EvT.lald2 dLw_law__1710 g1 g2 ?_
      refine EvT.iload dLw_law__1711 rfl ?_
      refine EvT.i2l dLw_law__1713 ?_
      refine EvT.lcmp dLw_law__1714 ?_
      refine EvT.if_eq 1720 (by decide) dLw_law__1715 (fun c => ?_) (fun c => ?_)
      · replace h := h.1 c
        exact h
      · replace h := h.2 c
        refine EvT.iconst (v := 0) dLw_law__1718 (by decide) ?_
        exact EvT.iret dLw_law__1719 rfl rfl h
  · replace h := h.2 c
    refine EvT.iconst (v := 0) dLw_law__1701 (by decide) ?_
    exact EvT.iret dLw_law__1702 rfl rfl h
theorem bLw_law__1720 {l : Launch} {G : Gx} {d : Nat} {bc bs : Nat} {Φ : OutV → Mm → Prop} {L : Nat} {xs : Nat → Int32} (hSC : SC G L xs) (M : Mm) (a1 : Nat) (a2 : Nat) (a3 : Nat) (x4 : Int32) (x5 : Int32) (x6 : Int32)
    (h : EvT [] l G d mLw_law_ 1843 [.ref 98, .ref a1, .ref a2, .ref a3, .int x4, .int x5, .int x6] [] M bc bs Φ) :
    EvT [] l G d mLw_law_ 1720 [.ref 98, .ref a1, .ref a2, .ref a3, .int x4, .int x5, .int x6] [] M bc bs Φ := by
  refine EvT.goto 1843 dLw_law__1720 (by decide) ?_
  exact h
theorem w1268 : Cond.methodLink "BowingRowLaw" 186 ⟨"BowingRowLaw", "struck", "(LBowingRow;I[J)I"⟩ ∈ lwg := lwg_of 1268 (by decide +kernel) (by decide +kernel)
theorem bLw_law__1723 {l : Launch} {G : Gx} {d : Nat} {bc bs : Nat} {Φ : OutV → Mm → Prop} {L : Nat} {xs : Nat → Int32} (hSC : SC G L xs) (M : Mm) (a1 : Nat) (a2 : Nat) (a3 : Nat) (x4 : Int32) (u5 : Value) (u6 : Value)
    (h : (vp_in (x4 + 1) L) ∧ CallTH l G d mLw_law_ 1734 [.ref 98, .ref a1, .ref a2, .ref a3, .int x4, u5, u6] [] mLw_struck hLw_struck [.ref a1, .int (xs (x4 + 1).toNatClampNeg), .ref a3] M bc bs Φ) :
    EvT [] l G d mLw_law_ 1723 [.ref 98, .ref a1, .ref a2, .ref a3, .int x4, u5, u6] [] M bc bs Φ := by
  refine EvT.aload_n dLw_law__1723 rfl ?_
  refine EvT.aload_n dLw_law__1724 rfl ?_
  refine EvT.iload dLw_law__1725 rfl ?_
  refine EvT.iconst (v := 1) dLw_law__1727 (by decide) ?_
  refine EvT.iadd dLw_law__1728 ?_
  have g1 := h.1
  replace h := h.2
  refine EvT.scld hSC dLw_law__1729 g1 ?_
  refine EvT.aload_n dLw_law__1730 rfl ?_
  exact EvT.vcH (z := mLw_struck) (hh := hLw_struck) [.ref a1, .int (xs (x4 + 1).toNatClampNeg), .ref a3] [] rfl dLw_law__1731 oLw_struck rfl w1268 iLw_struck (Nat.le_of_ble_eq_true rfl) h
theorem w1796 : Cond.methodLink "BowingRowLaw" 188 ⟨"BowingRowModel", "struck", "(I)I"⟩ ∈ lwg := lwg_of 1796 (by decide +kernel) (by decide +kernel)
theorem bLw_law__1734 {l : Launch} {G : Gx} {d : Nat} {bc bs : Nat} {Φ : OutV → Mm → Prop} {L : Nat} {xs : Nat → Int32} (hSC : SC G L xs) (M : Mm) (a1 : Nat) (a2 : Nat) (a3 : Nat) (x4 : Int32) (u5 : Value) (u6 : Value) (s0 : Int32)
    (h : (vp_in (x4 + 1) L) ∧ ((m_sh M a2).1 = 11) ∧ CallTC l G d mLw_law_ 1746 [.ref 98, .ref a1, .ref a2, .ref a3, .int x4, .int s0, u6] [] mRe_struck [.ref a2, .int (xs (x4 + 1).toNatClampNeg)] M bc bs Φ) :
    EvT [] l G d mLw_law_ 1734 [.ref 98, .ref a1, .ref a2, .ref a3, .int x4, u5, u6] [.int s0] M bc bs Φ := by
  refine EvT.istore dLw_law__1734 (by decide) ?_
  show EvT [] l G d mLw_law_ (_ + _) [.ref 98, .ref a1, .ref a2, .ref a3, .int x4, .int s0, u6] [] M bc bs Φ
  refine EvT.aload_n dLw_law__1736 rfl ?_
  refine EvT.aload_n dLw_law__1737 rfl ?_
  refine EvT.iload dLw_law__1738 rfl ?_
  refine EvT.iconst (v := 1) dLw_law__1740 (by decide) ?_
  refine EvT.iadd dLw_law__1741 ?_
  have g1 := h.1
  replace h := h.2
  refine EvT.scld hSC dLw_law__1742 g1 ?_
  have g2 := h.1
  replace h := h.2
  exact EvT.vcV (z := mRe_struck) (ci := 11) [.int (xs (x4 + 1).toNatClampNeg)] [] rfl dLw_law__1743 oRe_struck rfl w1796 iRe_struck sRe_struck (by decide) rfl g2 (Nat.le_of_ble_eq_true rfl) h
theorem bLw_law__1746 {l : Launch} {G : Gx} {d : Nat} {bc bs : Nat} {Φ : OutV → Mm → Prop} {L : Nat} {xs : Nat → Int32} (hSC : SC G L xs) (M : Mm) (a1 : Nat) (a2 : Nat) (a3 : Nat) (x4 : Int32) (x5 : Int32) (u6 : Value) (s0 : Int32)
    (h : ((m_sh M a2).1 = 11) ∧ CallTC l G d mLw_law_ 1752 [.ref 98, .ref a1, .ref a2, .ref a3, .int x4, .int x5, .int s0] [] mRe_thrown [.ref a2] M bc bs Φ) :
    EvT [] l G d mLw_law_ 1746 [.ref 98, .ref a1, .ref a2, .ref a3, .int x4, .int x5, u6] [.int s0] M bc bs Φ := by
  refine EvT.istore dLw_law__1746 (by decide) ?_
  show EvT [] l G d mLw_law_ (_ + _) [.ref 98, .ref a1, .ref a2, .ref a3, .int x4, .int x5, .int s0] [] M bc bs Φ
  refine EvT.aload_n dLw_law__1748 rfl ?_
  have g1 := h.1
  replace h := h.2
  exact EvT.vcV (z := mRe_thrown) (ci := 11) [] [] rfl dLw_law__1749 oRe_thrown rfl w1464 iRe_thrown sRe_thrown (by decide) rfl g1 (Nat.le_of_ble_eq_true rfl) h
theorem bLw_law__1752 {l : Launch} {G : Gx} {d : Nat} {bc bs : Nat} {Φ : OutV → Mm → Prop} {L : Nat} {xs : Nat → Int32} (hSC : SC G L xs) (M : Mm) (a1 : Nat) (a2 : Nat) (a3 : Nat) (x4 : Int32) (x5 : Int32) (x6 : Int32) (s0 : Int32)
    (h : (s0 = x5 → (¬ x5 = 0 → EvT [] l G d mLw_law_ 1776 [.ref 98, .ref a1, .ref a2, .ref a3, .int x4, .int x5, .int x6] [] M bc bs Φ) ∧ (x5 = 0 → ((m_sh M a3).1 = 22) ∧ (vp_in 0 (m_sh M a3).2) ∧ ((lg_cmp (m_l M a3 (0 : Int32).toNatClampNeg) x6.toInt64) = 0 → EvT [] l G d mLw_law_ 1776 [.ref 98, .ref a1, .ref a2, .ref a3, .int x4, .int x5, .int x6] [] M bc bs Φ) ∧ (¬ (lg_cmp (m_l M a3 (0 : Int32).toNatClampNeg) x6.toInt64) = 0 → Φ (.inl (some (.int 0))) M))) ∧ (¬ s0 = x5 → Φ (.inl (some (.int 0))) M)) :
    EvT [] l G d mLw_law_ 1752 [.ref 98, .ref a1, .ref a2, .ref a3, .int x4, .int x5, .int x6] [.int s0] M bc bs Φ := by
  refine EvT.iload dLw_law__1752 rfl ?_
  refine EvT.icmp_eq 1759 (by decide) dLw_law__1754 (fun c => ?_) (fun c => ?_)
  · replace h := h.1 c
    refine EvT.iload dLw_law__1759 rfl ?_
    refine EvT.if_ne 1776 (by decide) dLw_law__1761 (fun c => ?_) (fun c => ?_)
    · replace h := h.1 c
      exact h
    · replace h := h.2 c
      refine EvT.aload_n dLw_law__1764 rfl ?_
      refine EvT.iconst (v := 0) dLw_law__1765 (by decide) ?_
      have g1 := h.1
      replace h := h.2
      have g2 := h.1
      replace h := h.2
      refine EvT.lald2 dLw_law__1766 g1 g2 ?_
      refine EvT.iload dLw_law__1767 rfl ?_
      refine EvT.i2l dLw_law__1769 ?_
      refine EvT.lcmp dLw_law__1770 ?_
      refine EvT.if_eq 1776 (by decide) dLw_law__1771 (fun c => ?_) (fun c => ?_)
      · replace h := h.1 c
        exact h
      · replace h := h.2 c
        refine EvT.iconst (v := 0) dLw_law__1774 (by decide) ?_
        exact EvT.iret dLw_law__1775 rfl rfl h
  · replace h := h.2 c
    refine EvT.iconst (v := 0) dLw_law__1757 (by decide) ?_
    exact EvT.iret dLw_law__1758 rfl rfl h
theorem bLw_law__1776 {l : Launch} {G : Gx} {d : Nat} {bc bs : Nat} {Φ : OutV → Mm → Prop} {L : Nat} {xs : Nat → Int32} (hSC : SC G L xs) (M : Mm) (a1 : Nat) (a2 : Nat) (a3 : Nat) (x4 : Int32) (x5 : Int32) (x6 : Int32)
    (h : EvT [] l G d mLw_law_ 1843 [.ref 98, .ref a1, .ref a2, .ref a3, .int x4, .int x5, .int x6] [] M bc bs Φ) :
    EvT [] l G d mLw_law_ 1776 [.ref 98, .ref a1, .ref a2, .ref a3, .int x4, .int x5, .int x6] [] M bc bs Φ := by
  refine EvT.goto 1843 dLw_law__1776 (by decide) ?_
  exact h
theorem w647 : Cond.methodLink "BowingRowLaw" 189 ⟨"BowingRow", "hopeless", "()I"⟩ ∈ lwg := lwg_of 647 (by decide +kernel) (by decide +kernel)
theorem bLw_law__1779 {l : Launch} {G : Gx} {d : Nat} {bc bs : Nat} {Φ : OutV → Mm → Prop} {L : Nat} {xs : Nat → Int32} (hSC : SC G L xs) (M : Mm) (a1 : Nat) (a2 : Nat) (a3 : Nat) (x4 : Int32) (u5 : Value) (u6 : Value)
    (h : ((m_sh M a1).1 = 10) ∧ CallTC l G d mLw_law_ 1783 [.ref 98, .ref a1, .ref a2, .ref a3, .int x4, u5, u6] [] mBo_hopeless [.ref a1] M bc bs Φ) :
    EvT [] l G d mLw_law_ 1779 [.ref 98, .ref a1, .ref a2, .ref a3, .int x4, u5, u6] [] M bc bs Φ := by
  refine EvT.aload_n dLw_law__1779 rfl ?_
  have g1 := h.1
  replace h := h.2
  exact EvT.vcV (z := mBo_hopeless) (ci := 10) [] [] rfl dLw_law__1780 oBo_hopeless rfl w647 iBo_hopeless sBo_hopeless (by decide) rfl g1 (Nat.le_of_ble_eq_true rfl) h
theorem w1807 : Cond.methodLink "BowingRowLaw" 192 ⟨"BowingRowModel", "hopeless", "()I"⟩ ∈ lwg := lwg_of 1807 (by decide +kernel) (by decide +kernel)
theorem bLw_law__1783 {l : Launch} {G : Gx} {d : Nat} {bc bs : Nat} {Φ : OutV → Mm → Prop} {L : Nat} {xs : Nat → Int32} (hSC : SC G L xs) (M : Mm) (a1 : Nat) (a2 : Nat) (a3 : Nat) (x4 : Int32) (u5 : Value) (u6 : Value) (s0 : Int32)
    (h : ((m_sh M a2).1 = 11) ∧ CallTC l G d mLw_law_ 1787 [.ref 98, .ref a1, .ref a2, .ref a3, .int x4, u5, u6] [.int s0] mRe_hopeless [.ref a2] M bc bs Φ) :
    EvT [] l G d mLw_law_ 1783 [.ref 98, .ref a1, .ref a2, .ref a3, .int x4, u5, u6] [.int s0] M bc bs Φ := by
  refine EvT.aload_n dLw_law__1783 rfl ?_
  have g1 := h.1
  replace h := h.2
  exact EvT.vcV (z := mRe_hopeless) (ci := 11) [] [.int s0] rfl dLw_law__1784 oRe_hopeless rfl w1807 iRe_hopeless sRe_hopeless (by decide) rfl g1 (Nat.le_of_ble_eq_true rfl) h
theorem bLw_law__1787 {l : Launch} {G : Gx} {d : Nat} {bc bs : Nat} {Φ : OutV → Mm → Prop} {L : Nat} {xs : Nat → Int32} (hSC : SC G L xs) (M : Mm) (a1 : Nat) (a2 : Nat) (a3 : Nat) (x4 : Int32) (u5 : Value) (u6 : Value) (s0 : Int32) (s1 : Int32)
    (h : (s0 = s1 → EvT [] l G d mLw_law_ 1843 [.ref 98, .ref a1, .ref a2, .ref a3, .int x4, u5, u6] [] M bc bs Φ) ∧ (¬ s0 = s1 → Φ (.inl (some (.int 0))) M)) :
    EvT [] l G d mLw_law_ 1787 [.ref 98, .ref a1, .ref a2, .ref a3, .int x4, u5, u6] [.int s1, .int s0] M bc bs Φ := by
  refine EvT.icmp_eq 1843 (by decide) dLw_law__1787 (fun c => ?_) (fun c => ?_)
  · replace h := h.1 c
    exact h
  · replace h := h.2 c
    refine EvT.iconst (v := 0) dLw_law__1790 (by decide) ?_
    exact EvT.iret dLw_law__1791 rfl rfl h
theorem w670 : Cond.methodLink "BowingRowLaw" 193 ⟨"BowingRow", "image", "()I"⟩ ∈ lwg := lwg_of 670 (by decide +kernel) (by decide +kernel)
theorem bLw_law__1792 {l : Launch} {G : Gx} {d : Nat} {bc bs : Nat} {Φ : OutV → Mm → Prop} {L : Nat} {xs : Nat → Int32} (hSC : SC G L xs) (M : Mm) (a1 : Nat) (a2 : Nat) (a3 : Nat) (x4 : Int32) (u5 : Value) (u6 : Value)
    (h : ((m_sh M a1).1 = 10) ∧ CallTC l G d mLw_law_ 1796 [.ref 98, .ref a1, .ref a2, .ref a3, .int x4, u5, u6] [] mBo_image [.ref a1] M bc bs Φ) :
    EvT [] l G d mLw_law_ 1792 [.ref 98, .ref a1, .ref a2, .ref a3, .int x4, u5, u6] [] M bc bs Φ := by
  refine EvT.aload_n dLw_law__1792 rfl ?_
  have g1 := h.1
  replace h := h.2
  exact EvT.vcV (z := mBo_image) (ci := 10) [] [] rfl dLw_law__1793 oBo_image rfl w670 iBo_image sBo_image (by decide) rfl g1 (Nat.le_of_ble_eq_true rfl) h
theorem w1811 : Cond.methodLink "BowingRowLaw" 196 ⟨"BowingRowModel", "image", "()I"⟩ ∈ lwg := lwg_of 1811 (by decide +kernel) (by decide +kernel)
theorem bLw_law__1796 {l : Launch} {G : Gx} {d : Nat} {bc bs : Nat} {Φ : OutV → Mm → Prop} {L : Nat} {xs : Nat → Int32} (hSC : SC G L xs) (M : Mm) (a1 : Nat) (a2 : Nat) (a3 : Nat) (x4 : Int32) (u5 : Value) (u6 : Value) (s0 : Int32)
    (h : ((m_sh M a2).1 = 11) ∧ CallTC l G d mLw_law_ 1800 [.ref 98, .ref a1, .ref a2, .ref a3, .int x4, u5, u6] [.int s0] mRe_image [.ref a2] M bc bs Φ) :
    EvT [] l G d mLw_law_ 1796 [.ref 98, .ref a1, .ref a2, .ref a3, .int x4, u5, u6] [.int s0] M bc bs Φ := by
  refine EvT.aload_n dLw_law__1796 rfl ?_
  have g1 := h.1
  replace h := h.2
  exact EvT.vcV (z := mRe_image) (ci := 11) [] [.int s0] rfl dLw_law__1797 oRe_image rfl w1811 iRe_image sRe_image (by decide) rfl g1 (Nat.le_of_ble_eq_true rfl) h
theorem bLw_law__1800 {l : Launch} {G : Gx} {d : Nat} {bc bs : Nat} {Φ : OutV → Mm → Prop} {L : Nat} {xs : Nat → Int32} (hSC : SC G L xs) (M : Mm) (a1 : Nat) (a2 : Nat) (a3 : Nat) (x4 : Int32) (u5 : Value) (u6 : Value) (s0 : Int32) (s1 : Int32)
    (h : (s0 = s1 → EvT [] l G d mLw_law_ 1843 [.ref 98, .ref a1, .ref a2, .ref a3, .int x4, u5, u6] [] M bc bs Φ) ∧ (¬ s0 = s1 → Φ (.inl (some (.int 0))) M)) :
    EvT [] l G d mLw_law_ 1800 [.ref 98, .ref a1, .ref a2, .ref a3, .int x4, u5, u6] [.int s1, .int s0] M bc bs Φ := by
  refine EvT.icmp_eq 1843 (by decide) dLw_law__1800 (fun c => ?_) (fun c => ?_)
  · replace h := h.1 c
    exact h
  · replace h := h.2 c
    refine EvT.iconst (v := 0) dLw_law__1803 (by decide) ?_
    exact EvT.iret dLw_law__1804 rfl rfl h
theorem w682 : Cond.methodLink "BowingRowLaw" 197 ⟨"BowingRow", "restore", "()I"⟩ ∈ lwg := lwg_of 682 (by decide +kernel) (by decide +kernel)
theorem bLw_law__1805 {l : Launch} {G : Gx} {d : Nat} {bc bs : Nat} {Φ : OutV → Mm → Prop} {L : Nat} {xs : Nat → Int32} (hSC : SC G L xs) (M : Mm) (a1 : Nat) (a2 : Nat) (a3 : Nat) (x4 : Int32) (u5 : Value) (u6 : Value)
    (h : ((m_sh M a1).1 = 10) ∧ CallTC l G d mLw_law_ 1809 [.ref 98, .ref a1, .ref a2, .ref a3, .int x4, u5, u6] [] mBo_restore [.ref a1] M bc bs Φ) :
    EvT [] l G d mLw_law_ 1805 [.ref 98, .ref a1, .ref a2, .ref a3, .int x4, u5, u6] [] M bc bs Φ := by
  refine EvT.aload_n dLw_law__1805 rfl ?_
  have g1 := h.1
  replace h := h.2
  exact EvT.vcV (z := mBo_restore) (ci := 10) [] [] rfl dLw_law__1806 oBo_restore rfl w682 iBo_restore sBo_restore (by decide) rfl g1 (Nat.le_of_ble_eq_true rfl) h
theorem w1819 : Cond.methodLink "BowingRowLaw" 200 ⟨"BowingRowModel", "restore", "()I"⟩ ∈ lwg := lwg_of 1819 (by decide +kernel) (by decide +kernel)
theorem bLw_law__1809 {l : Launch} {G : Gx} {d : Nat} {bc bs : Nat} {Φ : OutV → Mm → Prop} {L : Nat} {xs : Nat → Int32} (hSC : SC G L xs) (M : Mm) (a1 : Nat) (a2 : Nat) (a3 : Nat) (x4 : Int32) (u5 : Value) (u6 : Value) (s0 : Int32)
    (h : ((m_sh M a2).1 = 11) ∧ CallTC l G d mLw_law_ 1813 [.ref 98, .ref a1, .ref a2, .ref a3, .int x4, u5, u6] [.int s0] mRe_restore [.ref a2] M bc bs Φ) :
    EvT [] l G d mLw_law_ 1809 [.ref 98, .ref a1, .ref a2, .ref a3, .int x4, u5, u6] [.int s0] M bc bs Φ := by
  refine EvT.aload_n dLw_law__1809 rfl ?_
  have g1 := h.1
  replace h := h.2
  exact EvT.vcV (z := mRe_restore) (ci := 11) [] [.int s0] rfl dLw_law__1810 oRe_restore rfl w1819 iRe_restore sRe_restore (by decide) rfl g1 (Nat.le_of_ble_eq_true rfl) h
theorem bLw_law__1813 {l : Launch} {G : Gx} {d : Nat} {bc bs : Nat} {Φ : OutV → Mm → Prop} {L : Nat} {xs : Nat → Int32} (hSC : SC G L xs) (M : Mm) (a1 : Nat) (a2 : Nat) (a3 : Nat) (x4 : Int32) (u5 : Value) (u6 : Value) (s0 : Int32) (s1 : Int32)
    (h : (s0 = s1 → EvT [] l G d mLw_law_ 1843 [.ref 98, .ref a1, .ref a2, .ref a3, .int x4, u5, u6] [] M bc bs Φ) ∧ (¬ s0 = s1 → Φ (.inl (some (.int 0))) M)) :
    EvT [] l G d mLw_law_ 1813 [.ref 98, .ref a1, .ref a2, .ref a3, .int x4, u5, u6] [.int s1, .int s0] M bc bs Φ := by
  refine EvT.icmp_eq 1843 (by decide) dLw_law__1813 (fun c => ?_) (fun c => ?_)
  · replace h := h.1 c
    exact h
  · replace h := h.2 c
    refine EvT.iconst (v := 0) dLw_law__1816 (by decide) ?_
    exact EvT.iret dLw_law__1817 rfl rfl h
theorem w702 : Cond.methodLink "BowingRowLaw" 201 ⟨"BowingRow", "count", "(I)I"⟩ ∈ lwg := lwg_of 702 (by decide +kernel) (by decide +kernel)
theorem bLw_law__1818 {l : Launch} {G : Gx} {d : Nat} {bc bs : Nat} {Φ : OutV → Mm → Prop} {L : Nat} {xs : Nat → Int32} (hSC : SC G L xs) (M : Mm) (a1 : Nat) (a2 : Nat) (a3 : Nat) (x4 : Int32) (u5 : Value) (u6 : Value)
    (h : (vp_in (x4 + 1) L) ∧ ((m_sh M a1).1 = 10) ∧ CallTC l G d mLw_law_ 1828 [.ref 98, .ref a1, .ref a2, .ref a3, .int x4, u5, u6] [] mBo_count [.ref a1, .int (xs (x4 + 1).toNatClampNeg)] M bc bs Φ) :
    EvT [] l G d mLw_law_ 1818 [.ref 98, .ref a1, .ref a2, .ref a3, .int x4, u5, u6] [] M bc bs Φ := by
  refine EvT.aload_n dLw_law__1818 rfl ?_
  refine EvT.aload_n dLw_law__1819 rfl ?_
  refine EvT.iload dLw_law__1820 rfl ?_
  refine EvT.iconst (v := 1) dLw_law__1822 (by decide) ?_
  refine EvT.iadd dLw_law__1823 ?_
  have g1 := h.1
  replace h := h.2
  refine EvT.scld hSC dLw_law__1824 g1 ?_
  have g2 := h.1
  replace h := h.2
  exact EvT.vcV (z := mBo_count) (ci := 10) [.int (xs (x4 + 1).toNatClampNeg)] [] rfl dLw_law__1825 oBo_count rfl w702 iBo_count sBo_count (by decide) rfl g2 (Nat.le_of_ble_eq_true rfl) h
theorem w1823 : Cond.methodLink "BowingRowLaw" 204 ⟨"BowingRowModel", "count", "(I)I"⟩ ∈ lwg := lwg_of 1823 (by decide +kernel) (by decide +kernel)
theorem bLw_law__1828 {l : Launch} {G : Gx} {d : Nat} {bc bs : Nat} {Φ : OutV → Mm → Prop} {L : Nat} {xs : Nat → Int32} (hSC : SC G L xs) (M : Mm) (a1 : Nat) (a2 : Nat) (a3 : Nat) (x4 : Int32) (u5 : Value) (u6 : Value) (s0 : Int32)
    (h : (vp_in (x4 + 1) L) ∧ ((m_sh M a2).1 = 11) ∧ CallTC l G d mLw_law_ 1838 [.ref 98, .ref a1, .ref a2, .ref a3, .int x4, u5, u6] [.int s0] mRe_count [.ref a2, .int (xs (x4 + 1).toNatClampNeg)] M bc bs Φ) :
    EvT [] l G d mLw_law_ 1828 [.ref 98, .ref a1, .ref a2, .ref a3, .int x4, u5, u6] [.int s0] M bc bs Φ := by
  refine EvT.aload_n dLw_law__1828 rfl ?_
  refine EvT.aload_n dLw_law__1829 rfl ?_
  refine EvT.iload dLw_law__1830 rfl ?_
  refine EvT.iconst (v := 1) dLw_law__1832 (by decide) ?_
  refine EvT.iadd dLw_law__1833 ?_
  have g1 := h.1
  replace h := h.2
  refine EvT.scld hSC dLw_law__1834 g1 ?_
  have g2 := h.1
  replace h := h.2
  exact EvT.vcV (z := mRe_count) (ci := 11) [.int (xs (x4 + 1).toNatClampNeg)] [.int s0] rfl dLw_law__1835 oRe_count rfl w1823 iRe_count sRe_count (by decide) rfl g2 (Nat.le_of_ble_eq_true rfl) h
theorem bLw_law__1838 {l : Launch} {G : Gx} {d : Nat} {bc bs : Nat} {Φ : OutV → Mm → Prop} {L : Nat} {xs : Nat → Int32} (hSC : SC G L xs) (M : Mm) (a1 : Nat) (a2 : Nat) (a3 : Nat) (x4 : Int32) (u5 : Value) (u6 : Value) (s0 : Int32) (s1 : Int32)
    (h : (s0 = s1 → EvT [] l G d mLw_law_ 1843 [.ref 98, .ref a1, .ref a2, .ref a3, .int x4, u5, u6] [] M bc bs Φ) ∧ (¬ s0 = s1 → Φ (.inl (some (.int 0))) M)) :
    EvT [] l G d mLw_law_ 1838 [.ref 98, .ref a1, .ref a2, .ref a3, .int x4, u5, u6] [.int s1, .int s0] M bc bs Φ := by
  refine EvT.icmp_eq 1843 (by decide) dLw_law__1838 (fun c => ?_) (fun c => ?_)
  · replace h := h.1 c
    exact h
  · replace h := h.2 c
    refine EvT.iconst (v := 0) dLw_law__1841 (by decide) ?_
    exact EvT.iret dLw_law__1842 rfl rfl h
theorem bLw_law__1843 {l : Launch} {G : Gx} {d : Nat} {bc bs : Nat} {Φ : OutV → Mm → Prop} {L : Nat} {xs : Nat → Int32} (hSC : SC G L xs) (M : Mm) (a1 : Nat) (a2 : Nat) (a3 : Nat) (x4 : Int32) (u5 : Value) (u6 : Value)
    (h : EvT [] l G d mLw_law_ 23 [.ref 98, .ref a1, .ref a2, .ref a3, .int (x4 + 6), u5, u6] [] M bc bs Φ) :
    EvT [] l G d mLw_law_ 1843 [.ref 98, .ref a1, .ref a2, .ref a3, .int x4, u5, u6] [] M bc bs Φ := by
  refine EvT.iinc (v := x4 + 6) dLw_law__1843 (by decide) rfl rfl ?_
  show EvT [] l G d mLw_law_ (_ + _) [.ref 98, .ref a1, .ref a2, .ref a3, .int (x4 + 6), u5, u6] [] M bc bs Φ
  refine EvT.goto 23 dLw_law__1846 (by decide) ?_
  exact h
