import java.io.IOException;
import java.io.UncheckedIOException;
import java.nio.file.Files;
import java.nio.file.Path;

/** The document's sections, read from ../shared as .ci/run finds it. */
final class Doc {
    private static final String TEXT = read();

    private Doc() {
    }

    private static String read() {
        try {
            return Files.readString(Path.of("../shared/DOC.md")) + "\n## ";
        } catch (IOException e) {
            throw new UncheckedIOException(e);
        }
    }

    /** The text under a heading, told by how it begins up to a colon or the line's end; "" if there is none. */
    static String section(String heading) {
        for (String mark : new String[] {"\n", ":"}) {
            int start = TEXT.indexOf("\n## " + heading + mark);
            if (start >= 0) {
                int body = TEXT.indexOf('\n', start + 1);
                return TEXT.substring(body, TEXT.indexOf("\n## ", body));
            }
        }
        return "";
    }
}
