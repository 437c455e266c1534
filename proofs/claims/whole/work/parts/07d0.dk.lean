theorem zdk_0 : (List.range' 0 67).all zdk = true := by decide +kernel
