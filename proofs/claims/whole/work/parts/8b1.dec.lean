/-! ===== the law, instruction by instruction ===== -/
theorem dW280 : decode code 280 = .ok (.iadd, 1) := by decide +kernel
theorem dW281 : decode code 281 = .ok (.iaload, 1) := by decide +kernel
theorem dW282 : decode code 282 = .ok (.invokevirtual 39, 3) := by decide +kernel
theorem dW285 : decode code 285 = .ok (.if_icmp .eq 735, 3) := by decide +kernel
theorem dW288 : decode code 288 = .ok (.iconst 0, 1) := by decide +kernel
theorem dW289 : decode code 289 = .ok (.ireturn, 1) := by decide +kernel
theorem dW290 : decode code 290 = .ok (.aload_n 1, 1) := by decide +kernel
theorem dW291 : decode code 291 = .ok (.aload_n 0, 1) := by decide +kernel
theorem dW292 : decode code 292 = .ok (.iload_n 3, 1) := by decide +kernel
theorem dW293 : decode code 293 = .ok (.iconst 1, 1) := by decide +kernel
theorem dW294 : decode code 294 = .ok (.iadd, 1) := by decide +kernel
theorem dW295 : decode code 295 = .ok (.iaload, 1) := by decide +kernel
theorem dW296 : decode code 296 = .ok (.aload_n 0, 1) := by decide +kernel
theorem dW297 : decode code 297 = .ok (.iload_n 3, 1) := by decide +kernel
theorem dW298 : decode code 298 = .ok (.iconst 2, 1) := by decide +kernel
theorem dW299 : decode code 299 = .ok (.iadd, 1) := by decide +kernel
theorem dW300 : decode code 300 = .ok (.iaload, 1) := by decide +kernel
theorem dW301 : decode code 301 = .ok (.aload_n 0, 1) := by decide +kernel
theorem dW302 : decode code 302 = .ok (.iload_n 3, 1) := by decide +kernel
theorem dW303 : decode code 303 = .ok (.iconst 3, 1) := by decide +kernel
theorem dW304 : decode code 304 = .ok (.iadd, 1) := by decide +kernel
theorem dW305 : decode code 305 = .ok (.iaload, 1) := by decide +kernel
theorem dW306 : decode code 306 = .ok (.aload_n 0, 1) := by decide +kernel
theorem dW307 : decode code 307 = .ok (.iload_n 3, 1) := by decide +kernel
theorem dW308 : decode code 308 = .ok (.iconst 4, 1) := by decide +kernel
theorem dW309 : decode code 309 = .ok (.iadd, 1) := by decide +kernel
theorem dW310 : decode code 310 = .ok (.iaload, 1) := by decide +kernel
theorem dW311 : decode code 311 = .ok (.aload_n 0, 1) := by decide +kernel
theorem dW312 : decode code 312 = .ok (.iload_n 3, 1) := by decide +kernel
theorem dW313 : decode code 313 = .ok (.iconst 5, 1) := by decide +kernel
theorem dW314 : decode code 314 = .ok (.iadd, 1) := by decide +kernel
theorem dW315 : decode code 315 = .ok (.iaload, 1) := by decide +kernel
theorem dW316 : decode code 316 = .ok (.invokevirtual 40, 3) := by decide +kernel
theorem dW319 : decode code 319 = .ok (.aload_n 2, 1) := by decide +kernel
theorem dW320 : decode code 320 = .ok (.aload_n 0, 1) := by decide +kernel
theorem dW321 : decode code 321 = .ok (.iload_n 3, 1) := by decide +kernel
theorem dW322 : decode code 322 = .ok (.iconst 1, 1) := by decide +kernel
theorem dW323 : decode code 323 = .ok (.iadd, 1) := by decide +kernel
theorem dW324 : decode code 324 = .ok (.iaload, 1) := by decide +kernel
theorem dW325 : decode code 325 = .ok (.aload_n 0, 1) := by decide +kernel
theorem dW326 : decode code 326 = .ok (.iload_n 3, 1) := by decide +kernel
theorem dW327 : decode code 327 = .ok (.iconst 2, 1) := by decide +kernel
theorem dW328 : decode code 328 = .ok (.iadd, 1) := by decide +kernel
theorem dW329 : decode code 329 = .ok (.iaload, 1) := by decide +kernel
theorem dW330 : decode code 330 = .ok (.aload_n 0, 1) := by decide +kernel
theorem dW331 : decode code 331 = .ok (.iload_n 3, 1) := by decide +kernel
theorem dW332 : decode code 332 = .ok (.iconst 3, 1) := by decide +kernel
theorem dW333 : decode code 333 = .ok (.iadd, 1) := by decide +kernel
theorem dW334 : decode code 334 = .ok (.iaload, 1) := by decide +kernel
theorem dW335 : decode code 335 = .ok (.aload_n 0, 1) := by decide +kernel
theorem dW336 : decode code 336 = .ok (.iload_n 3, 1) := by decide +kernel
theorem dW337 : decode code 337 = .ok (.iconst 4, 1) := by decide +kernel
theorem dW338 : decode code 338 = .ok (.iadd, 1) := by decide +kernel
theorem dW339 : decode code 339 = .ok (.iaload, 1) := by decide +kernel
theorem dW340 : decode code 340 = .ok (.aload_n 0, 1) := by decide +kernel
theorem dW341 : decode code 341 = .ok (.iload_n 3, 1) := by decide +kernel
theorem dW342 : decode code 342 = .ok (.iconst 5, 1) := by decide +kernel
theorem dW343 : decode code 343 = .ok (.iadd, 1) := by decide +kernel
theorem dW344 : decode code 344 = .ok (.iaload, 1) := by decide +kernel
theorem dW345 : decode code 345 = .ok (.invokevirtual 44, 3) := by decide +kernel
theorem dW348 : decode code 348 = .ok (.if_icmp .eq 672, 3) := by decide +kernel
theorem dW351 : decode code 351 = .ok (.iconst 0, 1) := by decide +kernel
theorem dW352 : decode code 352 = .ok (.ireturn, 1) := by decide +kernel
theorem dW353 : decode code 353 = .ok (.aload_n 1, 1) := by decide +kernel
theorem dW354 : decode code 354 = .ok (.aload_n 0, 1) := by decide +kernel
theorem dW355 : decode code 355 = .ok (.iload_n 3, 1) := by decide +kernel
theorem dW356 : decode code 356 = .ok (.iconst 1, 1) := by decide +kernel
theorem dW357 : decode code 357 = .ok (.iadd, 1) := by decide +kernel
theorem dW358 : decode code 358 = .ok (.iaload, 1) := by decide +kernel
theorem dW359 : decode code 359 = .ok (.invokevirtual 45, 3) := by decide +kernel
theorem dW362 : decode code 362 = .ok (.aload_n 2, 1) := by decide +kernel
theorem dW363 : decode code 363 = .ok (.aload_n 0, 1) := by decide +kernel
theorem dW364 : decode code 364 = .ok (.iload_n 3, 1) := by decide +kernel
theorem dW365 : decode code 365 = .ok (.iconst 1, 1) := by decide +kernel
theorem dW366 : decode code 366 = .ok (.iadd, 1) := by decide +kernel
theorem dW367 : decode code 367 = .ok (.iaload, 1) := by decide +kernel
theorem dW368 : decode code 368 = .ok (.invokevirtual 49, 3) := by decide +kernel
theorem dW371 : decode code 371 = .ok (.if_icmp .eq 649, 3) := by decide +kernel
theorem dW374 : decode code 374 = .ok (.iconst 0, 1) := by decide +kernel
theorem dW375 : decode code 375 = .ok (.ireturn, 1) := by decide +kernel
theorem dW376 : decode code 376 = .ok (.aload_n 1, 1) := by decide +kernel
theorem dW377 : decode code 377 = .ok (.invokevirtual 50, 3) := by decide +kernel
theorem dW380 : decode code 380 = .ok (.aload_n 2, 1) := by decide +kernel
theorem dW381 : decode code 381 = .ok (.invokevirtual 54, 3) := by decide +kernel
theorem dW384 : decode code 384 = .ok (.if_icmp .eq 636, 3) := by decide +kernel
theorem dW387 : decode code 387 = .ok (.iconst 0, 1) := by decide +kernel
theorem dW388 : decode code 388 = .ok (.ireturn, 1) := by decide +kernel
theorem dW389 : decode code 389 = .ok (.aload_n 1, 1) := by decide +kernel
theorem dW390 : decode code 390 = .ok (.aload_n 0, 1) := by decide +kernel
theorem dW391 : decode code 391 = .ok (.iload_n 3, 1) := by decide +kernel
theorem dW392 : decode code 392 = .ok (.iconst 1, 1) := by decide +kernel
theorem dW393 : decode code 393 = .ok (.iadd, 1) := by decide +kernel
theorem dW394 : decode code 394 = .ok (.iaload, 1) := by decide +kernel
theorem dW395 : decode code 395 = .ok (.invokevirtual 55, 3) := by decide +kernel
theorem dW398 : decode code 398 = .ok (.aload_n 2, 1) := by decide +kernel
theorem dW399 : decode code 399 = .ok (.aload_n 0, 1) := by decide +kernel
theorem dW400 : decode code 400 = .ok (.iload_n 3, 1) := by decide +kernel
theorem dW401 : decode code 401 = .ok (.iconst 1, 1) := by decide +kernel
theorem dW402 : decode code 402 = .ok (.iadd, 1) := by decide +kernel
theorem dW403 : decode code 403 = .ok (.iaload, 1) := by decide +kernel
theorem dW404 : decode code 404 = .ok (.invokevirtual 58, 3) := by decide +kernel
theorem dW407 : decode code 407 = .ok (.if_icmp .eq 613, 3) := by decide +kernel
theorem dW410 : decode code 410 = .ok (.iconst 0, 1) := by decide +kernel
theorem dW411 : decode code 411 = .ok (.ireturn, 1) := by decide +kernel
theorem dW412 : decode code 412 = .ok (.aload_n 1, 1) := by decide +kernel
theorem dW413 : decode code 413 = .ok (.aload_n 0, 1) := by decide +kernel
theorem dW414 : decode code 414 = .ok (.iload_n 3, 1) := by decide +kernel
theorem dW415 : decode code 415 = .ok (.iconst 1, 1) := by decide +kernel
theorem dW416 : decode code 416 = .ok (.iadd, 1) := by decide +kernel
theorem dW417 : decode code 417 = .ok (.iaload, 1) := by decide +kernel
theorem dW418 : decode code 418 = .ok (.invokevirtual 59, 3) := by decide +kernel
theorem dW421 : decode code 421 = .ok (.aload_n 2, 1) := by decide +kernel
theorem dW422 : decode code 422 = .ok (.aload_n 0, 1) := by decide +kernel
theorem dW423 : decode code 423 = .ok (.iload_n 3, 1) := by decide +kernel
theorem dW424 : decode code 424 = .ok (.iconst 1, 1) := by decide +kernel
theorem dW425 : decode code 425 = .ok (.iadd, 1) := by decide +kernel
theorem dW426 : decode code 426 = .ok (.iaload, 1) := by decide +kernel
theorem dW427 : decode code 427 = .ok (.invokevirtual 62, 3) := by decide +kernel
theorem dW430 : decode code 430 = .ok (.if_icmp .eq 590, 3) := by decide +kernel
theorem dW433 : decode code 433 = .ok (.iconst 0, 1) := by decide +kernel
