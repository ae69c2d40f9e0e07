import java.util.Random;

/** Long runs of calls drawn from fixed seeds, each answered by the class and by the model. */
public final class RandomRuns {
    private static final int RUNS = 40;
    private static final int CALLS = 500;

    private final Random random;
    private final VillageRounds real = new VillageRounds();
    private final Model model = new Model();
    private final Check check;
    private final int run;

    private RandomRuns(int run, Check check) {
        this.run = run;
        this.check = check;
        random = new Random(run);
    }

    public static void main(String[] args) {
        int runs = args.length == 0 ? RUNS : Integer.parseInt(args[0]);
        Check check = new Check();
        for (int run = 0; run < runs; run++) {
            new RandomRuns(run, check).play();
        }
        check.end("RandomRuns");
    }

    private void play() {
        int plots = 1 + random.nextInt(8);
        for (int i = 0; i < plots && run % 5 != 0; i++) {
            plot();
        }
        if (run % 7 != 0) {
            land();
        }
        for (int i = 0; i < 7 && run % 3 != 0; i++) {
            rule(i);
        }
        for (int i = 0; i < CALLS - 60; i++) {
            step();
            if (i % 20 == 0) {
                look();
            }
        }
    }

    private void due(String call, long got, long want) {
        check.due("run " + run + ": " + call, got, want);
    }

    /** A number mostly within bounds, now and then just or far outside. */
    private int some(int least, int most) {
        switch (random.nextInt(25)) {
            case 0: return least - 1;
            case 1: return most + 1;
            case 2: return random.nextInt(8) == 0 ? random.nextInt() : least;
            case 3: return most;
            default: return least + random.nextInt(most - least + 1);
        }
    }

    private void plot() {
        int soil = some(0, 3);
        int place = random.nextBoolean() ? some(0, 40) : some(0, 15);
        due("plot(" + soil + ", " + place + ")", real.plot(soil, place), model.plot(soil, place));
    }

    private void rule(int kind) {
        int v = some(1, random.nextBoolean() ? 30 : 6);
        due("rule(" + kind + ", " + v + ")", real.rule(kind, v), model.rule(kind, v));
    }

    private void feed(String text) {
        int n = 0;
        for (int i = 0; i < text.length(); i += n) {
            n = 1 + random.nextInt(Math.min(8, text.length() - i));
            long w = random.nextLong();
            for (int k = 0; k < n; k++) {
                w = w << 8 | text.charAt(i + k);
            }
            due("feed(" + w + ", " + n + ")", real.feed(w, n), model.feed(w, n));
        }
    }

    private void land() {
        String text = Texts.land(random);
        feed(text);
        due("land() of " + text, real.land(), model.land());
    }

    private void look() {
        for (int i = 0; i < 8; i++) {
            due("count(" + i + ")", real.count(i), model.count(i));
            int plot = random.nextInt(8);
            int what = random.nextInt(5);
            due("of(" + plot + ", " + what + ")", real.of(plot, what), model.of(plot, what));
        }
    }

    private void step() {
        switch (random.nextInt(6)) {
            case 0: askPlots(); break;
            case 1: spend(); break;
            case 2: askRules(); break;
            case 3: askFar(); break;
            case 4: tell(); break;
            default: askRest(); break;
        }
    }

    private void askPlots() {
        int plot = some(0, 7);
        int what = some(0, 4);
        int y = some(0, 30);
        switch (random.nextInt(5)) {
            case 0: due("of(" + plot + ", " + what + ")", real.of(plot, what), model.of(plot, what)); break;
            case 1: due("lies(" + plot + ", " + y + ")", real.lies(plot, y), model.lies(plot, y)); break;
            default: due("gives(" + plot + ")", real.gives(plot), model.gives(plot)); break;
        }
    }

    private void spend() {
        int rule = some(0, 7);
        int plots = some(0, (1 << Math.max(model.t.plots.size(), 1)) - 1);
        int place = some(0, 40);
        int n = some(1, random.nextInt(4) == 0 ? 30 : 3);
        int what = some(0, 1);
        int m = random.nextBoolean() ? some(1, 99) : some(0, 40);
        switch (random.nextInt(7)) {
            case 0: case 1: due("year(" + plots + ", " + place + ")", real.year(plots, place), model.year(plots, place)); break;
            case 2: due("year(" + plots + ")", real.year(plots, model.t.village), model.year(plots, model.t.village)); break;
            case 3: due("go(" + rule + ", " + n + ")", real.go(rule, n), model.go(rule, n)); break;
            default: due("set(" + what + ", " + m + ")", real.set(what, m), model.set(what, m)); break;
        }
    }

    private void askRules() {
        int rule = some(0, 7);
        switch (random.nextInt(3)) {
            case 0: rule(some(0, 6)); break;
            case 1: due("burns(" + rule + ")", real.burns(rule), model.burns(rule)); break;
            default: due("moves(" + rule + ")", real.moves(rule), model.moves(rule)); break;
        }
    }

    private void askFar() {
        int rule = some(0, 7);
        int n = random.nextBoolean() ? some(1, 30) : some(1, 4);
        int rains = some(1, 6);
        int what = some(0, 2);
        int part = some(0, 1);
        switch (random.nextInt(16)) {
            case 0: due("less(" + n + ")", real.less(n), model.less(n)); break;
            case 1: due("ever(" + rule + ", " + what + ")", real.ever(rule, what), model.ever(rule, what)); break;
            case 2: due("proof(" + rule + ", " + n + ", " + what + ")", real.proof(rule, n, what), model.proof(rule, n, what)); break;
            case 3: case 4: case 5: due("proof(" + rule + ", 3)", real.proof(rule, 3, 0), model.proof(rule, 3, 0)); break;
            case 6: due("proof(" + rule + ", 4)", real.proof(rule, 4, 1), model.proof(rule, 4, 1)); break;
            case 7: case 8: due("judged()", real.judged(), model.judged()); break;
            default: due("safe(" + rule + ", " + rains + ", " + part + ")", real.safe(rule, rains, part), model.safe(rule, rains, part)); break;
        }
    }

    private void tell() {
        int set = random.nextInt(30) == 0 ? -1 : some(0, 255);
        int age = random.nextInt(30) == 0 ? -1 : some(0, 99);
        switch (random.nextInt(9)) {
            case 0: plot(); break;
            case 1: case 2: due("row(" + set + ")", real.row(set), model.row(set)); break;
            case 3: due("age(" + age + ")", real.age(age), model.age(age)); break;
            case 4: case 5: land(); break;
            case 6: if (random.nextInt(4) == 0) { due("image()", real.image(), model.image()); } break;
            case 7: due("undo()", real.undo(), model.undo()); break;
            default: feedRaw(); break;
        }
    }

    private void feedRaw() {
        int n = some(1, 8);
        long w = random.nextLong();
        if (random.nextInt(5) == 0) {
            due("feed(" + w + ", " + n + ")", real.feed(w, n), model.feed(w, n));
        }
    }

    private void askRest() {
        int rule = some(0, 7);
        int act = some(0, 2);
        int k = some(0, 6);
        int x = random.nextBoolean() ? random.nextInt() : some(-9, 9);
        int place = some(0, 40);
        int off = some(0, 9);
        int i = some(0, 7);
        switch (random.nextInt(7)) {
            case 0: due("two(" + place + ")", real.two(place), model.two(place)); break;
            case 1: due("way(" + place + ")", real.way(place), model.way(place)); break;
            case 2: due("round(" + off + ")", real.round(off), model.round(off)); break;
            case 3: due("act(" + rule + ", " + act + ", " + x + ")", real.act(rule, act, x), model.act(rule, act, x)); break;
            case 4: due("trace(" + i + ")", real.trace(i), model.trace(i)); break;
            case 5: due("as(" + rule + ", " + k + ")", real.as(rule, k), model.as(rule, k)); break;
            default: due("count(" + i + ")", real.count(i), model.count(i)); break;
        }
    }
}
