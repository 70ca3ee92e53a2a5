/** Random texts of a written seed: programs and claims as the grammar has them, and such with something wrong. */
final class Texts {
    private static final String[] PIECES = {"proc", "call", "cell", "if", "else", "while", "must", "let", "ask", "end",
        "or", "and", "a", "b", "h", "i", "p", "q", "s", "t", "0", "7", "255", "256", "999", "1000", ";", "{", "}", "(",
        ")", "[", "]", "+", "-", "*", "/", "=", "<", ">", "#", " ", "\n", "?", "A", "\u00e9", "\t", "end;", "a=1;",
        "((((((", "{{{{", "if a=1{", "cell["};

    /** From a on; h may come besides. */
    int namesUsed = 4;
    private long seed;

    Texts(long seed) {
        this.seed = seed;
    }

    int random(int below) {
        seed = seed * 6364136223846793005L + 1442695040888963407L;
        return (int) ((seed >>> 33) % below);
    }

    boolean chance(int percent) {
        return random(100) < percent;
    }

    String name() {
        return String.valueOf(chance(12) ? 'h' : (char) ('a' + random(namesUsed)));
    }

    String number() {
        return String.valueOf(chance(85) ? random(9) : random(256));
    }

    String unit(int depth) {
        int kind = random(depth > 0 ? 10 : 7);
        if (kind < 4) {
            return name();
        }
        if (kind < 7) {
            return number();
        }
        return kind < 9 ? "(" + sum(depth - 1) + ")" : "cell[" + sum(depth - 1) + "]";
    }

    String product(int depth) {
        StringBuilder s = new StringBuilder(unit(depth));
        while (chance(18)) {
            s.append(chance(70) ? "*" : "/").append(unit(depth));
        }
        return s.toString();
    }

    String sum(int depth) {
        StringBuilder s = new StringBuilder(product(depth));
        while (chance(30)) {
            s.append(chance(50) ? "+" : "-").append(product(depth));
        }
        return s.toString();
    }

    String test(int depth) {
        return sum(depth) + "<=>#".charAt(random(4)) + sum(depth);
    }

    String cond() {
        StringBuilder s = new StringBuilder(test(1));
        while (chance(25)) {
            s.append(chance(50) ? " and " : " or ").append(test(1));
        }
        return s.toString();
    }

    String block(int depth, String procs) {
        StringBuilder s = new StringBuilder("{");
        int steps = random(4);
        for (int i = 0; i < steps; i++) {
            s.append(step(depth - 1, procs));
        }
        return s.append("}").toString();
    }

    String step(int depth, String procs) {
        int kind = random(100);
        if (kind < 26 && depth > 0) {
            return "if " + cond() + block(depth, procs) + (chance(45) ? "else" + block(depth, procs) : "");
        }
        if (kind < 40 && depth > 0) {
            String counter = name();
            return chance(70) ? "while " + counter + "<" + number() + "{" + counter + "=" + counter + "+1;"
                    + step(depth - 1, procs) + "}" : "while " + cond() + block(depth, procs);
        }
        if (kind < 46) {
            return "must " + cond() + ";";
        }
        if (kind < 50) {
            return "let " + cond() + ";";
        }
        if (kind < 58) {
            return "ask " + name() + ";";
        }
        if (kind < 60) {
            return "end;";
        }
        if (kind < 68 && !procs.isEmpty()) {
            return "call " + procs.charAt(random(procs.length())) + ";";
        }
        if (kind < 74) {
            return "cell[" + sum(1) + "]=" + sum(1) + ";";
        }
        return (chance(20) ? "h" : name()) + "=" + sum(2) + ";";
    }

    String anyProgram() {
        StringBuilder s = new StringBuilder();
        String procs = "";
        String letters = "pqrs";
        while (chance(30) && !letters.isEmpty()) {
            char proc = letters.charAt(random(letters.length()));
            letters = letters.replace(String.valueOf(proc), "");
            s.append("proc ").append(proc).append(block(3, procs));
            procs += proc;
        }
        int steps = 1 + random(6);
        for (int i = 0; i < steps; i++) {
            s.append(step(3, procs));
        }
        return s.toString();
    }

    String fineProgram() {
        namesUsed = 1 + random(5);
        while (true) {
            String text = anyProgram();
            if (text.length() <= 500 && Model.read(text, false).kind == 0) {
                return text;
            }
        }
    }

    String anyClaim() {
        StringBuilder s = new StringBuilder(test(2));
        int more = chance(5) ? 19 + random(3) : random(5);
        for (int i = 0; i < more; i++) {
            s.append(" and ").append(more > 10 ? name() + "=" + number() : test(2));
        }
        return s.toString();
    }

    String mutated(String text) {
        StringBuilder s = new StringBuilder(text);
        int times = 1 + random(3);
        for (int i = 0; i < times; i++) {
            int at = random(s.length() + 1);
            switch (random(4)) {
                case 0:
                    s.insert(at, PIECES[random(PIECES.length)]);
                    break;
                case 1:
                    s.delete(at, Math.min(s.length(), at + 1 + random(4)));
                    break;
                case 2:
                    s.setLength(at);
                    break;
                default:
                    if (at < s.length()) {
                        s.setCharAt(at, PIECES[random(PIECES.length)].charAt(0));
                    }
            }
        }
        return s.toString();
    }

    String longText() {
        String part = new String[] {"end;", "a=1+b;", "if a=b{}", "a=b+c*2/d-(7);", "x;", "b=b+b+b+b+b;"}[random(6)];
        StringBuilder s = new StringBuilder();
        int length = chance(50) ? 480 + random(60) : random(540);
        while (s.length() < length) {
            s.append(chance(4) ? anyProgram() : chance(50) ? part : " ");
        }
        s.setLength(Math.min(540, chance(50) ? length : s.length()));
        return s.toString();
    }
}
