import java.util.Random;

/** Texts for tapes: lands, some of them with a byte or two put wrong. */
final class Texts {
    private Texts() {
    }

    static String land(Random random) {
        String text = clauses(random);
        int faults = random.nextInt(4) == 0 ? 1 + random.nextInt(2) : 0;
        for (int i = 0; i < faults; i++) {
            text = spoil(random, text);
        }
        return text;
    }

    private static String clauses(Random random) {
        StringBuilder text = new StringBuilder();
        int most = random.nextInt(12) == 0 ? 12 : 1 + random.nextInt(8);
        for (int i = 0; i < most; i++) {
            String clause = clause(random);
            if (text.length() + clause.length() < 119) {
                text.append(text.length() > 0 ? ";" : "").append(clause);
            }
        }
        return text.toString();
    }

    private static String clause(Random random) {
        switch (random.nextInt(9)) {
            case 0: return "walk " + random.nextInt(random.nextBoolean() ? 30 : 100);
            case 1: return "move " + random.nextInt(12);
            case 2: return "grow " + random.nextInt(random.nextBoolean() ? 4 : 100);
            case 3: return "dry " + random.nextInt(14);
            case 4: case 5: return "wear " + any(random, 0);
            default: return "give " + random.nextInt(random.nextBoolean() ? 12 : 60) + " " + any(random, 0);
        }
    }

    private static String any(Random random, int open) {
        StringBuilder text = new StringBuilder(one(random, open));
        while (random.nextInt(3) == 0) {
            text.append(random.nextBoolean() ? '|' : '&').append(one(random, open));
        }
        return text.toString();
    }

    private static String one(Random random, int open) {
        int deepest = random.nextInt(40) == 0 ? 6 : 5;
        if (open < deepest && random.nextInt(4) == 0) {
            return random.nextBoolean() ? "!" + one(random, open + 1) : "(" + any(random, open + 1) + ")";
        }
        switch (random.nextInt(6)) {
            case 0: case 1: return "c" + sign(random) + random.nextInt(5);
            case 2: return "y" + sign(random) + random.nextInt(31);
            case 3: return "s" + sign(random) + random.nextInt(4);
            case 4: return "w" + sign(random) + random.nextInt(10);
            default: return "p" + sign(random) + random.nextInt(41);
        }
    }

    private static char sign(Random random) {
        return "<=>".charAt(random.nextInt(3));
    }

    private static String spoil(Random random, String text) {
        int at = random.nextInt(text.length() + 1);
        String signs = "gwmdriveawalkoryn 0123456789;|&!()cyswp<=>x" + (char) 200;
        char sign = signs.charAt(random.nextInt(signs.length()));
        switch (random.nextInt(4)) {
            case 0: return text.substring(0, at);
            case 1: return text.substring(0, at) + sign + text.substring(at);
            case 2: return at < text.length() ? text.substring(0, at) + sign + text.substring(at + 1) : text + sign;
            default: return at < text.length() ? text.substring(0, at) + text.substring(at + 1) : text;
        }
    }
}
