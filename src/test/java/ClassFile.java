import java.io.ByteArrayOutputStream;
import java.io.DataOutputStream;
import java.io.IOException;
import java.io.UncheckedIOException;
import java.util.HashMap;
import java.util.Map;

/** Writes a class file of the Java machine: as little of one as the tests need. */
final class ClassFile {
    static final int PUBLIC = 1;
    static final int STATIC = 8;

    /** A number of bytes, the highest first. */
    static final class Bytes {
        private final ByteArrayOutputStream all = new ByteArrayOutputStream();
        private final DataOutputStream out = new DataOutputStream(all);

        Bytes one(int value) {
            all.write(value);
            return this;
        }

        Bytes two(int value) {
            return one(value >> 8).one(value);
        }

        Bytes four(int value) {
            return two(value >> 16).two(value);
        }

        Bytes add(Bytes more) {
            all.writeBytes(more.all.toByteArray());
            return this;
        }

        Bytes text(String text) {
            try {
                out.writeUTF(text);
            } catch (IOException e) {
                throw new UncheckedIOException(e);
            }
            return this;
        }

        int size() {
            return all.size();
        }
    }

    private final Map<String, Integer> numbers = new HashMap<>();
    private final Bytes pool = new Bytes();
    private final Bytes fields = new Bytes();
    private int fieldCount;
    private final Bytes methods = new Bytes();
    private int methodCount;

    private int constant(String key, Bytes entry) {
        Integer old = numbers.get(key);
        if (old != null) {
            return old;
        }
        pool.add(entry);
        numbers.put(key, numbers.size() + 1);
        return numbers.size();
    }

    int text(String text) {
        return constant("text " + text, new Bytes().one(1).text(text));
    }

    int cls(String name) {
        return constant("class " + name, new Bytes().one(7).two(text(name)));
    }

    private int member(int kind, String owner, String name, String type) {
        Bytes both = new Bytes().one(12).two(text(name)).two(text(type));
        int nameAndType = constant("name " + name + " " + type, both);
        String key = kind + " " + owner + " " + name + " " + type;
        return constant(key, new Bytes().one(kind).two(cls(owner)).two(nameAndType));
    }

    int field(String owner, String name, String type) {
        return member(9, owner, name, type);
    }

    int method(String owner, String name, String type) {
        return member(10, owner, name, type);
    }

    void addField(int access, String name, String type) {
        fields.two(access).two(text(name)).two(text(type)).two(0);
        fieldCount++;
    }

    /** Adds a method: its code, the rows of its handlers, and the rows of its frames; no frames are written of 0. */
    void addMethod(int access, String name, String type, Bytes code, Bytes handlers, Bytes frames, int frameCount) {
        Bytes table = new Bytes();
        if (frameCount > 0) {
            table.two(text("StackMapTable")).four(frames.size() + 2).two(frameCount).add(frames);
        }
        Bytes whole = new Bytes().add(code).two(handlers.size() / 8).add(handlers);
        whole.two(frameCount > 0 ? 1 : 0).add(table);
        methods.two(access).two(text(name)).two(text(type)).two(1).two(text("Code")).four(whole.size()).add(whole);
        methodCount++;
    }

    byte[] bytes(int version, String name, String superName) {
        int self = cls(name);
        int above = cls(superName);
        return new Bytes().four(0xCAFEBABE).two(0).two(version).two(numbers.size() + 1).add(pool).two(PUBLIC | 32)
            .two(self).two(above).two(0).two(fieldCount).add(fields).two(methodCount).add(methods).two(0)
            .all.toByteArray();
    }
}
