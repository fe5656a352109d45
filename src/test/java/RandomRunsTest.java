import java.util.Random;

/** Runs of 512 calls of all kinds, from fixed seeds, answered by DotVault and by the slow model alike. */
public final class RandomRunsTest {
    private static final int RUNS = 600;
    private static final int CALLS = 512;

    private final Check check;
    private final Random random;
    private final Vault vault = new Vault();
    private final Model model = new Model();
    private final int run;
    private int pages = 0;

    private RandomRunsTest(Check check, int run) {
        this.check = check;
        this.run = run;
        this.random = new Random(run);
    }

    public static void main(String[] args) {
        Check check = new Check("random runs");
        for (int run = 0; run < RUNS; run++) {
            new RandomRunsTest(check, run).go();
        }
        check.end();
    }

    private void go() {
        int loads = 1 + random.nextInt(80);
        for (int call = 0; call < CALLS; call++) {
            if (call < loads) {
                load(random.nextInt(256));
            } else if (call == loads) {
                print();
            } else {
                anyCall();
            }
        }
    }

    private void anyCall() {
        int kind = random.nextInt(200);
        if (kind < 60) {
            feed();
        } else if (kind < 100) {
            flip();
        } else if (kind < 112) {
            blot();
        } else if (kind < 140) {
            int row = random.nextInt(20) == 0 ? random.nextInt(8) - 2 : random.nextInt(4);
            both("errors(" + row + ")", () -> vault.errors(row), () -> model.errors(row));
        } else if (kind < 150) {
            both("missing()", vault::missing, model::missing);
        } else if (kind < 162) {
            both("rebuild()", vault::rebuild, model::rebuild);
        } else if (kind < 180) {
            int i = random.nextInt(84) - 2;
            both("out(" + i + ")", () -> vault.out(i), () -> model.out(i));
        } else if (kind < 190) {
            dot();
        } else {
            rareCall(kind);
        }
    }

    private void rareCall(int kind) {
        if (kind < 192) {
            both("reset()", vault::reset, model::reset);
        } else if (kind < 195) {
            load(random.nextInt(300) - 20);
        } else if (kind < 198) {
            print();
        } else if (random.nextInt(4) == 0) {
            both("wipe()", vault::wipe, model::wipe);
        }
    }

    private void load(int b) {
        both("load(" + b + ")", () -> vault.load(b), () -> model.load(b));
    }

    private void print() {
        both("print()", vault::print, model::print);
        for (int page = 0; page < 7; page++) {
            int p = page;
            if (Check.answer(() -> model.dot(p, 0, 0)).startsWith("throws")) {
                pages = p;
                return;
            }
        }
    }

    private int anyPage() {
        return random.nextInt(40) == 0 ? random.nextInt(9) - 1 : random.nextInt(Math.max(1, pages));
    }

    private int anyPlace() {
        return random.nextInt(60) == 0 ? random.nextInt(22) - 2 : random.nextInt(18);
    }

    private void feed() {
        int page = anyPage();
        int turns = random.nextInt(30) == 0 ? random.nextInt(8) - 2 : random.nextInt(4);
        both("feed(" + page + ", " + turns + ")", () -> vault.feed(page, turns), () -> model.feed(page, turns));
    }

    private void flip() {
        int page = anyPage();
        int x = anyPlace();
        int y = anyPlace();
        check.same("run " + run + ": flip(" + page + ", " + x + ", " + y + ")",
            Check.answerOf(() -> vault.flip(page, x, y)), Check.answerOf(() -> model.flip(page, x, y)));
    }

    private void blot() {
        int page = anyPage();
        int x = anyPlace();
        int y = anyPlace();
        int most = random.nextInt(8) == 0 ? 20 : 5;
        int wide = random.nextInt(most) + (most == 5 ? 1 : 0);
        int high = random.nextInt(most) + (most == 5 ? 1 : 0);
        boolean black = random.nextBoolean();
        both("blot(" + page + ", " + x + ", " + y + ", " + wide + ", " + high + ", " + black + ")",
            () -> vault.blot(page, x, y, wide, high, black), () -> model.blot(page, x, y, wide, high, black));
    }

    private void dot() {
        int page = anyPage();
        int x = anyPlace();
        int y = anyPlace();
        both("dot(" + page + ", " + x + ", " + y + ")", () -> vault.dot(page, x, y), () -> model.dot(page, x, y));
    }

    private void both(String what, Check.Call got, Check.Call want) {
        check.same("run " + run + ": " + what, Check.answer(got), Check.answer(want));
    }
}
