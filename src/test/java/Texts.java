import java.util.ArrayList;
import java.util.List;
import java.util.Random;

/** Draws texts for the tests: sound ones, and ones with a token too many, too few or changed. */
final class Texts {
    private static final String[] NAMES = {"hour", "sun", "wind", "hinges", "load", "cell", "who"};
    private static final String[] DRIES_NAMES = {"stuff", "weight", "wet"};
    private static final String[] COMPARISONS = {"<", "<=", ">", ">=", "=", "#"};
    private static final String[] TOKENS = {
        "paces", "dries", "sheds", "horse", "piece", "wind", "peg", "sock", "start", "hour", "weight", "wet", "at",
        "to", "on", "if", "then", "else", "end", "or", "and", "not", "tenth", "winds", "sun", "hinges", "load",
        "cell", "who", "stuff", "<", "<=", ">", ">=", "=", "#", "+", "-", "*", "/", "(", ")", ";", "0", "1", "9",
        "10", "12", "20", "21", "60", "61", "9999", "10000", "00007", "99999999999", "Paces", "winder", "x", "!",
        "\t", "\u00e9", "\0", "<>", "=<", "1a", "start;", "- - - - - - - -", "not not not"};

    private final Random random;
    private final List<String> tokens = new ArrayList<>();
    private boolean dries;

    Texts(Random random) {
        this.random = random;
    }

    /** A text without a FAULT, if it isn't too long. */
    String sound() {
        tokens.clear();
        boolean[] had = new boolean[3];
        int clauses = random.nextInt(12);
        for (int i = 0; i < clauses; i++) {
            clause(had);
        }
        return joined();
    }

    /** One law alone. */
    String law(String which) {
        tokens.clear();
        dries = which.equals("dries");
        put(which);
        sum(0);
        put(";");
        return joined();
    }

    /** A text that may have any FAULT, or none. */
    String any() {
        sound();
        int changes = 1 + random.nextInt(2);
        for (int i = 0; i < changes; i++) {
            int at = random.nextInt(tokens.size() + 1);
            String token = TOKENS[random.nextInt(TOKENS.length)];
            int how = random.nextInt(6);
            if (how > 3) {
                change(how == 4 ? "[0-9]+" : "hour|sun|wind|hinges|load|cell|who");
            } else if (how == 0 || tokens.isEmpty()) {
                tokens.add(at, token);
            } else {
                at = Math.min(at, tokens.size() - 1);
                if (how == 1) {
                    tokens.remove(at);
                } else if (how == 2) {
                    tokens.set(at, token);
                } else {
                    tokens.subList(at, tokens.size()).clear();
                }
            }
        }
        return joined();
    }

    /** Another number for a number, or a name of dries for a name. */
    private void change(String which) {
        for (int tries = 0; tries < 20 && !tokens.isEmpty(); tries++) {
            int at = random.nextInt(tokens.size());
            if (tokens.get(at).matches(which)) {
                boolean digits = Character.isDigit(tokens.get(at).charAt(0));
                tokens.set(at, digits ? new String[] {"0", "4", "5", "9", "10", "11", "12", "20", "21", "60", "61", "9999",
                    "10000"}[random.nextInt(13)] : DRIES_NAMES[random.nextInt(3)]);
                return;
            }
        }
    }

    /** Many clauses, or many that are open: around the limits of both. */
    String crowded() {
        tokens.clear();
        if (random.nextBoolean()) {
            int clauses = 22 + random.nextInt(5);
            for (int i = 0; i < clauses; i++) {
                if (random.nextInt(9) == 0) {
                    put("paces", "1", ";");
                } else if (random.nextInt(25) == 0) {
                    put(TOKENS[random.nextInt(TOKENS.length)]);
                } else {
                    put("start", ";");
                }
            }
        } else {
            dries = true;
            put("dries");
            open(7 + random.nextInt(4));
            put(";");
        }
        return joined();
    }

    private void open(int more) {
        if (more == 0) {
            sum(3);
            return;
        }
        switch (random.nextInt(6)) {
            case 0:
                put("(");
                open(more - 1);
                put(")");
                break;
            case 1:
                put("tenth");
                open(more - 1);
                break;
            case 2:
                put("winds");
                open(more - 1);
                break;
            case 3:
                put("if", "not", "1", "<");
                open(more - 1);
                put("then", "1", "else", "2", "end");
                break;
            case 4:
                put("if", "wet", ">", "3", "then", "1", "else");
                open(more - 1);
                put("end");
                break;
            default:
                put("-");
                open(more - 1);
                break;
        }
    }

    private void put(String... words) {
        for (String word : words) {
            tokens.add(word);
        }
    }

    private String number(int least, int most) {
        return Integer.toString(least + random.nextInt(most - least + 1));
    }

    private void clause(boolean[] had) {
        int kind = random.nextInt(13);
        if (kind < 3) {
            if (!had[kind]) {
                had[kind] = true;
                dries = kind == 1;
                put(kind == 0 ? "paces" : kind == 1 ? "dries" : "sheds");
                sum(0);
                put(";");
            }
        } else if (kind == 3) {
            put("horse", number(1, 9), ";");
        } else if (kind == 4 || kind == 5) {
            put("piece", number(0, 3), "weight", number(1, 9), "wet", number(0, 20), ";");
        } else if (kind == 6) {
            put("wind", number(0, 9), "at", number(0, 11), ";");
        } else if (kind <= 8) {
            put("peg", number(0, random.nextBoolean() ? 3 : 9), "to", number(0, random.nextBoolean() ? 1 : 4), ";");
        } else if (kind == 9) {
            put("sock", number(1, 20), "on", number(0, random.nextBoolean() ? 3 : 9), ";");
        } else if (kind == 10) {
            put("start", ";");
        } else {
            put("hour", number(1, random.nextBoolean() ? 5 : 60), ";");
        }
    }

    private void sum(int depth) {
        product(depth);
        while (random.nextInt(3) == 0) {
            put(random.nextBoolean() ? "+" : "-");
            product(depth);
        }
    }

    private void product(int depth) {
        one(depth);
        while (random.nextInt(4) == 0) {
            put(random.nextBoolean() ? "*" : "/");
            one(depth);
        }
    }

    private void one(int depth) {
        int kind = depth > 3 ? random.nextInt(6) : random.nextInt(12);
        switch (kind) {
            case 0:
            case 1:
                put(random.nextInt(8) == 0 ? number(0, 9999) : number(0, 12));
                break;
            case 2:
            case 3:
            case 4:
            case 5:
                put(dries && random.nextBoolean() ? DRIES_NAMES[random.nextInt(3)] : NAMES[random.nextInt(7)]);
                break;
            case 6:
                put("(");
                sum(depth + 1);
                put(")");
                break;
            case 7:
                put("-");
                one(depth + 1);
                break;
            case 8:
                put("tenth");
                one(depth + 1);
                break;
            case 9:
                put("winds");
                one(depth + 1);
                break;
            default:
                put("if");
                either(depth + 1);
                put("then");
                sum(depth + 1);
                put("else");
                sum(depth + 1);
                put("end");
                break;
        }
    }

    private void either(int depth) {
        ask(depth);
        while (random.nextInt(3) == 0) {
            put(random.nextBoolean() ? "or" : "and");
            ask(depth);
        }
    }

    private void ask(int depth) {
        if (random.nextInt(5) == 0 && depth < 5) {
            put("not");
            ask(depth + 1);
            return;
        }
        sum(depth + 1);
        put(COMPARISONS[random.nextInt(6)]);
        sum(depth + 1);
    }

    private static boolean isWord(char c) {
        return c >= 'a' && c <= 'z' || c >= 'A' && c <= 'Z' || c >= '0' && c <= '9';
    }

    private static boolean isDigit(char c) {
        return c >= '0' && c <= '9';
    }

    /** Blanks where they must be, and here and there elsewhere; cut at 300 bytes. */
    private String joined() {
        StringBuilder all = new StringBuilder();
        for (String token : tokens) {
            if (all.length() > 0 && !token.isEmpty()) {
                char last = all.charAt(all.length() - 1);
                char first = token.charAt(0);
                boolean apart = isWord(last) && isWord(first) && isDigit(last) == isDigit(first);
                if (apart || random.nextInt(12) == 0) {
                    all.append(random.nextInt(10) == 0 ? '\n' : ' ');
                }
            }
            all.append(token);
        }
        while (random.nextInt(8) == 0) {
            all.append(' ');
        }
        if (all.length() > 300) {
            all.setLength(300);
        }
        return all.toString();
    }
}
