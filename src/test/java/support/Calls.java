import java.lang.reflect.Method;
import java.util.HashMap;
import java.util.Map;

/** Calls an object's methods by name: the program and the plain one have the same face. */
final class Calls {
  private final Object target;
  private final Map<String, Method> methods = new HashMap<>();

  Calls(Object target) {
    this.target = target;
    for (Method method : target.getClass().getDeclaredMethods()) {
      methods.put(method.getName(), method);
    }
  }

  long answer(String name, long... numbers) {
    Method method = methods.get(name);
    Class<?>[] types = method.getParameterTypes();
    Object[] arguments = new Object[types.length];
    for (int i = 0; i < types.length; i++) {
      arguments[i] = types[i] == int.class ? (Object) (int) numbers[i] : (Object) numbers[i];
    }
    try {
      return ((Number) method.invoke(target, arguments)).longValue();
    } catch (ReflectiveOperationException e) {
      throw new IllegalStateException(name, e.getCause() == null ? e : e.getCause());
    }
  }
}
