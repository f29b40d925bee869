import java.util.Random;

/** Random runs of calls, the same on FallClocks and on PlainClocks: every answer must be the same. */
public final class AgainstPlainTest {
    private static final int RUNS = 1500;
    private static final int[] WILD = {Integer.MIN_VALUE, -1000, -7, -2, -1, 0, 1, 2, 3, 5, 6, 7, 8, 9, 10, 17, 18,
        20, 25, 26, 31, 32, 33, 50, 79, 80, 99, 100, 126, 127, 200, 201, 255, 256, 1000, 1001, Integer.MAX_VALUE};

    private final Random random;
    private final FallClocks fast = new FallClocks();
    private final PlainClocks plain = new PlainClocks();
    private final int run;
    private final StringBuilder history = new StringBuilder();
    private int lots;
    private int buyers;
    private int clocks;
    private int sorts;
    private int alternatives;
    private int numbers;
    private int calls;
    private int wrong;

    private AgainstPlainTest(int run) {
        this.run = run;
        this.random = new Random(run);
    }

    public static void main(String[] args) {
        int runs = args.length > 0 ? Integer.parseInt(args[0]) : RUNS;
        int first = args.length > 1 ? Integer.parseInt(args[1]) : 0;
        int wrong = 0;
        long calls = 0;
        for (int run = first; run < first + runs && wrong < 5; run++) {
            AgainstPlainTest test = new AgainstPlainTest(run);
            test.play();
            wrong += test.wrong;
            calls += test.calls;
        }
        System.out.println("AgainstPlainTest: " + calls + " calls, " + wrong + " wrong");
        if (wrong != 0) {
            System.exit(1);
        }
    }

    private void play() {
        boolean isSmall = random.nextInt(6) == 0;
        lots = isSmall ? random.nextInt(3) : 3 + random.nextInt(random.nextInt(4) == 0 ? 6 : 4);
        buyers = isSmall ? random.nextInt(3) : 2 + random.nextInt(5);
        clocks = 1 + random.nextInt(3);
        sorts = 1 + random.nextInt(random.nextInt(2) == 0 ? 5 : 3);
        alternatives = 1 + random.nextInt(random.nextInt(3) == 0 ? 6 : 2);
        numbers = random.nextInt(5) == 0 ? 1000 : 10 + random.nextInt(140);
        for (int i = 0; i < lots; i++) {
            call(0, random.nextInt(sorts), random.nextInt(clocks), random.nextInt(3) == 0 ? random.nextInt(80) : 0);
        }
        for (int b = 0; b < buyers; b++) {
            call(1, 0, 0, 0);
            if (random.nextInt(8) != 0) {
                speak();
                call(7, b, 0, 0);
            }
            if (random.nextInt(2) == 0) {
                call(2, b, 0, random.nextInt(2) == 0 ? random.nextInt(60) : random.nextInt(1001));
                call(2, b, 1, random.nextInt(100));
                call(2, b, 2, random.nextInt(3));
            }
        }
        for (int step = 0; step < 60 && wrong == 0; step++) {
            if (random.nextInt(3) == 0) {
                change();
            } else if (random.nextInt(12) == 0) {
                callWildly();
            } else {
                ask();
            }
        }
    }

    private void speak() {
        call(4, 0, 0, 0);
        for (int i = random.nextInt(alternatives), first = i; i >= 0; i--) {
            StringBuilder text = new StringBuilder(i < first ? "|" : "");
            int at = text.length();
            for (int s = 0; s < sorts; s++) {
                if (random.nextInt(sorts) == 0) {
                    text.append(1 + random.nextInt(random.nextInt(3) == 0 ? 3 : 1)).append((char) ('a' + s));
                }
            }
            if (text.length() == at) {
                text.append("1").append((char) ('a' + random.nextInt(sorts)));
            }
            text.append('=').append(random.nextInt(numbers));
            if (random.nextInt(30) == 0) {
                text.setCharAt(random.nextInt(text.length()), "0123456789abcdef=|x".charAt(random.nextInt(19)));
            }
            for (int k = 0; k < text.length(); k++) {
                call(3, text.charAt(k), 0, 0);
                if (random.nextInt(12) == 0) {
                    call(5, 0, 0, 0);
                }
            }
        }
        call(5, 0, 0, 0);
    }

    private void change() {
        int b = someBuyer();
        switch (random.nextInt(9)) {
            case 0: call(2, b, 0, random.nextInt(300)); break;
            case 1: call(2, b, 1, random.nextInt(100)); break;
            case 2: call(2, b, 2, random.nextInt(4)); break;
            case 3: speak(); call(7, b, 0, 0); break;
            case 4: call(9, b, random.nextInt(1 << random.nextInt(1 + alternatives)), 0); break;
            case 5: call(12, 1 + random.nextInt(200), 0, 0); break;
            case 6: call(13, someLot(), someLot(), 0); break;
            case 7: for (int l = 0; l < lots; l++) { call(18, l, random.nextInt(1 + numbers / 2), 0); } break;
            default: for (int k = 0; k < 3; k++) { call(26, 1 + random.nextInt(150), 0, 0); } break;
        }
    }

    private void ask() {
        int b = someBuyer();
        switch (random.nextInt(16)) {
            case 0: call(8, b, random.nextInt(alternatives + 1), random.nextInt(6)); break;
            case 1: call(10, b, random.nextInt(1 << lots), 0); break;
            case 2: call(11, b, random.nextInt(1 << lots), 0); break;
            case 3: call(14, random.nextInt(lots + 1), 0, 0); break;
            case 4: for (int l = 0; l < lots; l++) { call(15, l, random.nextInt(3), 0); } break;
            case 5: call(16, b, random.nextInt(4), 0); break;
            case 6: for (int k = -1; k < buyers; k++) { call(17, k, 0, 0); } break;
            case 7: for (int k = 0; k < buyers; k++) { call(19, k, random.nextInt(2), 0); } break;
            case 8: call(20, 0, 0, 0); break;
            case 9: call(21, random.nextInt(2), 0, 0); call(21, 10 + someLot(), 0, 0); break;
            case 10: if (random.nextInt(4) == 0) { askOrders(); } break;
            case 11: call(23, b, 0, 0); break;
            case 12: call(24, b, random.nextInt(2), 0); break;
            case 13: call(25, random.nextInt(2), 0, 0); break;
            case 14: call(28, b, random.nextInt(80), random.nextInt(3)); call(28, b, random.nextInt(80), 10 + random.nextInt(8)); break;
            default: call(29, random.nextInt(17), 0, 0); break;
        }
    }

    private void askOrders() {
        call(22, random.nextInt(2), 0, 0);
        call(22, 10 + random.nextInt(6), 0, 0);
        call(22, 20 + random.nextInt(6), 0, 0);
    }

    private int someBuyer() {
        return random.nextInt(buyers + (random.nextInt(10) == 0 || buyers == 0 ? 1 : 0));
    }

    private int someLot() {
        return random.nextInt(lots + (random.nextInt(10) == 0 || lots == 0 ? 1 : 0));
    }

    private void callWildly() {
        call(random.nextInt(30), wild(), wild(), wild());
    }

    private int wild() {
        return random.nextInt(3) == 0 ? random.nextInt(6) : WILD[random.nextInt(WILD.length)];
    }

    private void call(int which, int a, int b, int c) {
        calls++;
        if (wrong != 0 || calls > 512) {
            return;
        }
        int want = onPlain(which, a, b, c);
        int got = onFast(which, a, b, c);
        history.append(which).append('(').append(a).append(',').append(b).append(',').append(c).append(")=")
            .append(want).append(' ');
        if (got != want) {
            wrong++;
            System.out.println("run " + run + ": answered " + got + ", due is " + want + " at the end of " + history);
        }
    }

    private int onFast(int which, int a, int b, int c) {
        switch (which) {
            case 0: return fast.lot(a, b, c);
            case 1: return fast.buyer();
            case 2: return fast.set(a, b, c);
            case 3: return fast.say(a);
            case 4: return fast.wipe();
            case 5: return fast.fault();
            case 6: return fast.unlearn();
            case 7: return fast.wish(a);
            case 8: return fast.alternative(a, b, c);
            case 9: return fast.leave(a, b);
            case 10: return fast.worth(a, b);
            case 11: return fast.why(a, b);
            case 12: return fast.top(a);
            case 13: return fast.swap(a, b);
            case 14: return fast.order(a);
            case 15: return fast.sold(a, b);
            case 16: return fast.day(a, b);
            case 17: return fast.dealt(a);
            case 18: return fast.price(a, b);
            case 19: return fast.likes(a, b);
            case 20: return fast.missing();
            case 21: return fast.raised(a);
            case 22: return fast.orders(a);
            case 23: return fast.gain(a);
            case 24: return fast.cut(a, b);
            case 25: return fast.broken(a);
            case 26: return fast.lesson(a);
            case 27: return fast.unlearn();
            case 28: return fast.learn(a, b, c);
            default: return fast.told(a);
        }
    }

    private int onPlain(int which, int a, int b, int c) {
        switch (which) {
            case 0: return plain.lot(a, b, c);
            case 1: return plain.buyer();
            case 2: return plain.set(a, b, c);
            case 3: return plain.say(a);
            case 4: return plain.wipe();
            case 5: return plain.fault();
            case 6: return plain.unlearn();
            case 7: return plain.wish(a);
            case 8: return plain.alternative(a, b, c);
            case 9: return plain.leave(a, b);
            case 10: return plain.worth(a, b);
            case 11: return plain.why(a, b);
            case 12: return plain.top(a);
            case 13: return plain.swap(a, b);
            case 14: return plain.order(a);
            case 15: return plain.sold(a, b);
            case 16: return plain.day(a, b);
            case 17: return plain.dealt(a);
            case 18: return plain.price(a, b);
            case 19: return plain.likes(a, b);
            case 20: return plain.missing();
            case 21: return plain.raised(a);
            case 22: return plain.orders(a);
            case 23: return plain.gain(a);
            case 24: return plain.cut(a, b);
            case 25: return plain.broken(a);
            case 26: return plain.lesson(a);
            case 27: return plain.unlearn();
            case 28: return plain.learn(a, b, c);
            default: return plain.told(a);
        }
    }
}
