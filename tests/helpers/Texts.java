import java.util.Random;

/** Random texts of both languages, most of them right, and how to feed bytes to a tape. */
final class Texts {
    private final Random random;
    private boolean orders;

    Texts(Random random) {
        this.random = random;
    }

    String text(boolean ofOrders) {
        orders = ofOrders;
        StringBuilder s = new StringBuilder();
        int clauses = random.nextInt(8) == 0 ? 1 + random.nextInt(14) : 1 + random.nextInt(4);
        for (int i = 0; i < clauses; i++) {
            s.append(i > 0 ? ";" : "").append(gap()).append(clause());
        }
        int harm = random.nextInt(12);
        if (harm == 0 && s.length() > 0) {
            s.setCharAt(random.nextInt(s.length()), (char) random.nextInt(256));
        }
        if (harm == 1) {
            s.setLength(random.nextInt(s.length() + 1));
        }
        if (harm == 2) {
            String[] more = {";", ")", "]", "(", "[", "if", "not", "times", "of", "1001", "0001", "x", "8", "and", "A", "\u0000", "\u00ff"};
            s.insert(random.nextInt(s.length() + 1), " " + more[random.nextInt(more.length)] + " ");
        }
        if (s.length() > 400) {
            s.setLength(400);
        }
        return s.toString();
    }

    /** A text of which some tokens are others, gone, or there twice. */
    String bent(boolean ofOrders) {
        java.util.ArrayList<String> tokens = new java.util.ArrayList<>();
        java.util.regex.Matcher m = java.util.regex.Pattern.compile("(?s)[a-z]+|[0-9]+|[^ ]").matcher(text(ofOrders));
        while (m.find()) {
            tokens.add(m.group());
        }
        String[] words = {"put", "grow", "drop", "pack", "mend", "leaves", "bars", "of", "to", "times", "if", "not", "and", "or", "(", ")", "[", "]",
            "<", ">", "=", "+", "-", "*", "/", "%", ";", "0", "7", "8", "20", "21", "1000", "1001", "page", "size", "free", "slots", "promise",
            "time", "mood", "done", "latest", "live", "x", "Put", "!", "007", "00000000000000000000001"};
        for (int i = random.nextInt(4); i > 0 && !tokens.isEmpty(); i--) {
            int at = random.nextInt(tokens.size());
            int way = random.nextInt(4);
            if (way == 0) {
                tokens.remove(at);
            } else if (way == 1) {
                tokens.add(at, tokens.get(random.nextInt(tokens.size())));
            } else if (way == 2) {
                tokens.set(at, words[random.nextInt(words.length)]);
            } else {
                tokens.add(at, words[random.nextInt(words.length)]);
            }
        }
        StringBuilder s = new StringBuilder();
        for (String token : tokens) {
            boolean apart = s.length() > 0 && kind(s.charAt(s.length() - 1)) == kind(token.charAt(0)) && random.nextInt(40) > 0;
            s.append(apart || random.nextInt(3) == 0 ? random.nextInt(5) == 0 ? "   " : " " : "").append(token);
        }
        s.setLength(Math.min(400, s.length()));
        return s.toString();
    }

    private static int kind(char c) {
        return c >= 'a' && c <= 'z' ? 1 : c >= '0' && c <= '9' ? 2 : 3;
    }

    private String gap() {
        return random.nextInt(3) == 0 ? "  " : "";
    }

    private String clause() {
        StringBuilder s = new StringBuilder();
        if (!orders) {
            s.append(random.nextInt(4) == 0 ? "bars" : "leaves " + sum(2));
        } else {
            int kind = random.nextInt(9);
            if (kind < 4) {
                s.append("put ").append(size()).append(" of ").append(sum(1));
            } else if (kind < 6) {
                s.append("grow ").append(address()).append(" to ").append(size());
            } else if (kind == 6) {
                s.append("drop ").append(address());
            } else {
                s.append(kind == 7 ? "pack " + random.nextInt(random.nextInt(9) == 0 ? 12 : 8) : "mend");
            }
            if (random.nextInt(3) == 0) {
                s.append(" times ").append(1 + random.nextInt(random.nextInt(9) == 0 ? 22 : 6));
            }
        }
        if (random.nextInt(2) == 0) {
            s.append(" if ").append(test(2));
        }
        return s.toString();
    }

    private String size() {
        return random.nextInt(3) == 0 ? "[" + sum(1) + "] % 60" : String.valueOf(random.nextInt(random.nextInt(5) == 0 ? 205 : 45));
    }

    private String address() {
        int way = random.nextInt(4);
        return way == 0 ? "latest" : way == 1 ? sum(1) : String.valueOf(16 * random.nextInt(8) + random.nextInt(4));
    }

    private String sum(int depth) {
        StringBuilder s = new StringBuilder(term(depth));
        while (random.nextInt(3) == 0) {
            s.append(random.nextBoolean() ? " + " : "-").append(term(depth));
        }
        return s.toString();
    }

    private String term(int depth) {
        StringBuilder s = new StringBuilder(part(depth));
        while (random.nextInt(4) == 0) {
            String[] signs = {"*", " / ", "%"};
            s.append(signs[random.nextInt(3)]).append(part(depth));
        }
        return s.toString();
    }

    private String part(int depth) {
        int way = random.nextInt(6);
        if (way == 0 && depth > 0) {
            return "[" + sum(depth - 1) + "]";
        }
        if (way < 3) {
            return String.valueOf(random.nextInt(random.nextInt(6) == 0 ? 1002 : 50));
        }
        if (!orders) {
            return new String[] {"page", "size", "free", "slots", "promise", "time", "mood"}[random.nextInt(7)];
        }
        String[] words = {"time", "done", "latest", "live"};
        int of = random.nextInt(6);
        return of < 4 ? words[of] : (of == 4 ? "free " : "promise ") + random.nextInt(random.nextInt(20) == 0 ? 9 : 8);
    }

    private String test(int depth) {
        StringBuilder s = new StringBuilder(plain(depth));
        while (random.nextInt(3) == 0) {
            s.append(random.nextBoolean() ? " and " : " or ").append(plain(depth));
        }
        return s.toString();
    }

    private String plain(int depth) {
        int way = random.nextInt(6);
        if (way == 0) {
            return "not " + plain(depth);
        }
        if (way == 1 && depth > 0) {
            return "(" + test(depth - 1) + ")";
        }
        String[] signs = {"<", " > ", "="};
        return sum(depth - 1) + signs[random.nextInt(3)] + sum(depth - 1);
    }
}
