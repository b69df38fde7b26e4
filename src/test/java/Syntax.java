import java.util.ArrayDeque;
import java.util.Deque;
import java.util.List;
import java.util.regex.Matcher;
import java.util.regex.Pattern;

/** Looks for the first error of a text with a table of the grammar and a stack of what is to come. */
final class Syntax {
    private static final Pattern TOKEN = Pattern.compile("[a-z][a-z0-9]*|[0-9]+|<=|>=|[()\\[\\];,+\\-*/<>=]");
    private static final List<String> ORDERS = List.of("rain", "level", "look");
    private static final List<String> READINGS = List.of("day", "pushes", "water", "highest", "lowest", "waiting");

    private final Deque<String> toCome = new ArrayDeque<>();
    private int error = 0;
    private int place = -1;
    private int depth = 0;
    private int lines = 0;
    private int lateError = 0;
    private int latePlace = -1;

    Syntax(String text) {
        come("VALLEY");
        int position = 0;
        int count = 0;
        boolean behindTerraces = false;
        while (error == 0) {
            while (position < text.length() && (text.charAt(position) == ' ' || text.charAt(position) == '\n')) {
                position++;
            }
            Matcher matcher = TOKEN.matcher(text).region(position, text.length());
            boolean isEnd = position == text.length();
            String token = isEnd ? "END" : matcher.lookingAt() ? kind(matcher.group()) : "BAD";
            count++;
            boolean tooMany = count > 400 && !isEnd;
            if (tooMany || !accepts(token)) {
                error = 1;
                place = position;
                return;
            }
            if (isEnd) {
                break;
            }
            if (behindTerraces) {
                int value = Integer.parseInt(matcher.group());
                late(value < 2 || value > 32, 5, position);
            }
            behindTerraces = token.equals("terraces");
            lines += ORDERS.contains(token) ? 1 : 0;
            late(lines == 17 && ORDERS.contains(token), 4, position);
            position = matcher.end();
        }
        error = lateError;
        place = latePlace;
    }

    int error() {
        return error;
    }

    int place() {
        return place;
    }

    private void late(boolean isOne, int number, int position) {
        if (isOne && lateError == 0) {
            lateError = number;
            latePlace = position;
        }
    }

    private static String kind(String token) {
        if (Character.isDigit(token.charAt(0))) {
            return token.length() > 6 ? "BAD" : "number";
        }
        return token.length() > 10 ? "BAD" : token;
    }

    private void come(String... symbols) {
        for (int i = symbols.length - 1; i >= 0; i--) {
            toCome.push(symbols[i]);
        }
    }

    /** DEEPER comes before a token behind which the depth is greater, and HIGHER ends that. */
    private boolean accepts(String token) {
        for (;;) {
            String symbol = toCome.isEmpty() ? "END" : toCome.pop();
            if (symbol.equals("HIGHER")) {
                depth--;
            } else if (symbol.equals("DEEPER")) {
                String opening = toCome.peek();
                if (token.equals(opening) && depth == 8) {
                    return false;
                }
                depth++;
            } else if (symbol.equals("number") || symbol.equals("END") || !symbol.equals(symbol.toUpperCase())
                    || symbol.length() == 1 || symbol.equals("<=") || symbol.equals(">=")) {
                return symbol.equals(token);
            } else if (!expand(symbol, token)) {
                return false;
            }
        }
    }

    private boolean expand(String symbol, String token) {
        switch (symbol) {
            case "VALLEY":
                if (token.equals("terraces")) {
                    come("terraces", "number", ";");
                }
                toCome.addLast("LINES");
                return true;
            case "LINES":
                if (ORDERS.contains(token)) {
                    come("LINE", "LINES");
                }
                return true;
            case "LINE":
                return expandLine(token);
            case "WHEN":
                if (token.equals("when")) {
                    come("when", "TEST");
                }
                return true;
            case "TEST":
                come("BOTH", "OR");
                return true;
            case "BOTH":
                come("SINGLE", "AND");
                return true;
            case "SUM":
                come("PRODUCT", "PLUS");
                return true;
            case "PRODUCT":
                come("VALUE", "TIMES");
                return true;
            case "OR":
                return expandRest(token, "BOTH", symbol, List.of("or"));
            case "AND":
                return expandRest(token, "SINGLE", symbol, List.of("and"));
            case "PLUS":
                return expandRest(token, "PRODUCT", symbol, List.of("+", "-"));
            case "TIMES":
                return expandRest(token, "VALUE", symbol, List.of("*", "/"));
            case "COMPARISON":
                come(token);
                return List.of("<", ">", "=", "<=", ">=").contains(token);
            case "SINGLE":
                return expandSingle(token);
            default:
                return expandValue(token);
        }
    }

    private boolean expandLine(String token) {
        if (token.equals("look")) {
            come("look", "from", "SUM", "to", "SUM", "WHEN", ";");
        } else {
            come(token, "SUM", "from", "SUM", "to", "SUM", "WHEN", ";");
        }
        return true;
    }

    private boolean expandRest(String token, String part, String rest, List<String> signs) {
        if (signs.contains(token)) {
            come(token, part, rest);
        }
        return true;
    }

    private boolean expandSingle(String token) {
        if (token.equals("not")) {
            come("DEEPER", "not", "SINGLE", "HIGHER");
        } else if (token.equals("[")) {
            come("DEEPER", "[", "TEST", "]", "HIGHER");
        } else {
            come("SUM", "COMPARISON", "SUM");
        }
        return true;
    }

    private boolean expandValue(String token) {
        if (token.equals("number") || READINGS.contains(token)) {
            come(token);
        } else if (token.equals("-")) {
            come("DEEPER", "-", "VALUE", "HIGHER");
        } else if (token.equals("(")) {
            come("DEEPER", "(", "SUM", ")", "HIGHER");
        } else if (token.equals("height")) {
            come("height", "DEEPER", "(", "SUM", ")", "HIGHER");
        } else if (token.equals("min") || token.equals("max")) {
            come(token, "DEEPER", "(", "SUM", ",", "SUM", ")", "HIGHER");
        } else {
            return false;
        }
        return true;
    }
}
