import java.util.ArrayList;
import java.util.HashMap;
import java.util.List;
import java.util.Map;
import java.util.regex.Matcher;
import java.util.regex.Pattern;

/** Texts once more, by patterns of kinds: the first fault, and the words of the tongue. */
final class TextModel {
    private static final Pattern TOKEN = Pattern.compile("[a-z]+|[0-9]+|;|[^ \n]");
    private static final Map<String, String> LINES = new HashMap<>();

    static {
        LINES.put("stem", "L");
        LINES.put("ending", "BWL");
        LINES.put("change", "LLL");
        LINES.put("not", "L");
        LINES.put("places", "N");
        LINES.put("near", "PQ");
        LINES.put("person", "");
        LINES.put("thing", "SPH!");
        LINES.put("rule", "TU*");
        LINES.put("at", "IHP");
        LINES.put("weigh", "WCC");
    }

    int fault = 0;
    int place = -1;
    int places = 1;
    int people = 0;
    int rules = 0;
    String not = null;
    final List<String> stems = new ArrayList<>();
    final Map<Integer, String> endings = new HashMap<>();
    final List<String[]> changes = new ArrayList<>();
    final List<Integer> thingStems = new ArrayList<>();
    private final List<String> tokens = new ArrayList<>();
    private final List<Integer> starts = new ArrayList<>();
    private final List<String> lineNames = new ArrayList<>();
    private final int length;

    TextModel(String text) {
        length = text.length();
        Matcher m = TOKEN.matcher(text);
        while (m.find()) {
            tokens.add(m.group());
            starts.add(m.start());
        }
        int at = 0;
        while (at < tokens.size() && at >= 0) {
            at = line(at);
        }
    }

    private int bad(int code, int at) {
        fault = code;
        place = at < starts.size() ? starts.get(at) : length;
        return -1;
    }

    private String token(int at) {
        return at < tokens.size() ? tokens.get(at) : "";
    }

    private int line(int at) {
        String name = token(at);
        String kinds = LINES.get(name);
        if (kinds == null) {
            return bad(1, at);
        }
        int full = nameFault(name);
        if (full != 0) {
            return bad(full, at);
        }
        lineNames.add(name);
        List<String> row = new ArrayList<>();
        int next = at + 1;
        for (int k = 0; k < kinds.length(); k++) {
            char kind = kinds.charAt(k);
            if (kind == '!') {
                next += token(next).equals("loud") ? 1 : 0;
                next += token(next).equals("never") ? 1 : 0;
                continue;
            }
            if (kind == '*') {
                while (token(next).matches("[0-9]+")) {
                    int f = tokenFault('U', token(next), row);
                    if (f != 0) {
                        return bad(f, next);
                    }
                    row.add(token(next));
                    next++;
                }
                continue;
            }
            int f = tokenFault(kind, token(next), row);
            if (f != 0) {
                return bad(f, next);
            }
            row.add(token(next));
            next++;
        }
        if (!token(next).equals(";")) {
            return bad(1, next);
        }
        keep(name, row);
        return next + 1;
    }

    private int nameFault(String name) {
        switch (name) {
            case "stem": return stems.size() == 12 ? 2 : 0;
            case "change": return changes.size() == 6 ? 2 : 0;
            case "person": return people == 6 ? 2 : 0;
            case "thing": return thingStems.size() == 8 ? 2 : 0;
            case "rule": return rules == 6 ? 2 : 0;
            case "not": return not != null ? 4 : 0;
            case "places":
                if (lineNames.contains("places")) {
                    return 4;
                }
                return lineNames.contains("near") || lineNames.contains("thing") || lineNames.contains("at") ? 5 : 0;
            default: return 0;
        }
    }

    private int tokenFault(char kind, String token, List<String> row) {
        if (kind == 'L') {
            return !token.matches("[a-z]+") ? 1 : token.length() > 8 ? 2 : 0;
        }
        if (!token.matches("[0-9]+")) {
            return 1;
        }
        if (token.length() > 3) {
            return 2;
        }
        int n = Integer.parseInt(token);
        switch (kind) {
            case 'B': return n > 2 ? 2 : 0;
            case 'W':
                if (n > 4) {
                    return 2;
                }
                return row.size() == 1 && endings.containsKey(5 * Integer.parseInt(row.get(0)) + n) ? 4 : 0;
            case 'N': return n < 1 || n > 6 ? 2 : 0;
            case 'P': return n >= places ? 3 : 0;
            case 'Q': return n >= places ? 3 : n == Integer.parseInt(row.get(0)) ? 4 : 0;
            case 'S': return n >= stems.size() ? 3 : thingStems.contains(n) ? 4 : 0;
            case 'H': return n > 23 ? 2 : 0;
            case 'T': return n >= thingStems.size() ? 3 : 0;
            case 'U':
                if (row.size() == 4) {
                    return 2;
                }
                return n >= thingStems.size() ? 3
                        : row.stream().anyMatch(r -> Integer.parseInt(r) == n) ? 4 : 0;
            case 'I': return n >= people ? 3 : 0;
            default: return 0;
        }
    }

    private void keep(String name, List<String> row) {
        switch (name) {
            case "stem": stems.add(row.get(0)); break;
            case "ending":
                endings.put(5 * Integer.parseInt(row.get(0)) + Integer.parseInt(row.get(1)), row.get(2));
                break;
            case "change": changes.add(row.toArray(new String[0])); break;
            case "not": not = row.get(0); break;
            case "places": places = Integer.parseInt(row.get(0)); break;
            case "person": people++; break;
            case "thing": thingStems.add(Integer.parseInt(row.get(0))); break;
            case "rule": rules++; break;
            default: break;
        }
    }

    /** The word, or none of no letters. */
    String word(int stem, int by, int how) {
        String first = stems.get(stem);
        String last = endings.get(5 * by + how);
        if (last == null) {
            return "";
        }
        for (String[] c : changes) {
            if (first.endsWith(c[0]) && last.startsWith(c[1])) {
                return first.substring(0, first.length() - c[0].length()) + c[2] + last.substring(c[1].length());
            }
        }
        return first + last;
    }

    List<Integer> ways(String row) {
        List<Integer> ways = new ArrayList<>();
        for (int way = 0; way < 15 * stems.size(); way++) {
            if (!row.isEmpty() && row.equals(word(way / 15, way / 5 % 3, way % 5))) {
                ways.add(way);
            }
        }
        return ways;
    }

    /** Thing, HOW and NOT of what is uttered; null: it isn't clear. */
    int[] uttered(String text) {
        if (!text.matches("[ \n]*([a-z]+[ \n]+)?[a-z]+[ \n]*")) {
            return null;
        }
        String[] words = text.replace('\n', ' ').trim().split(" +");
        boolean isNot = words.length == 2;
        if (isNot && !words[0].equals(not)) {
            return null;
        }
        List<Integer> ways = ways(words[words.length - 1]);
        if (ways.size() != 1 || ways.get(0) / 5 % 3 != 2 || !thingStems.contains(ways.get(0) / 15)) {
            return null;
        }
        return new int[] {thingStems.indexOf(ways.get(0) / 15), ways.get(0) % 5, isNot ? 1 : 0};
    }
}
